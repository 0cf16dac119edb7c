theorem dX9_in_0 : decode cX9_in 0 = .ok (.lload_n 0, 1) := by decide +kernel
theorem dX9_in_1 : decode cX9_in 1 = .ok (.lload_n 2, 1) := by decide +kernel
theorem dX9_in_2 : decode cX9_in 2 = .ok (.lcmp, 1) := by decide +kernel
theorem dX9_in_3 : decode cX9_in 3 = .ok (.ifCond .lt 14, 3) := by decide +kernel
theorem dX9_in_6 : decode cX9_in 6 = .ok (.lload_n 0, 1) := by decide +kernel
theorem dX9_in_7 : decode cX9_in 7 = .ok (.lload 4, 2) := by decide +kernel
theorem dX9_in_9 : decode cX9_in 9 = .ok (.lcmp, 1) := by decide +kernel
theorem dX9_in_10 : decode cX9_in 10 = .ok (.ifCond .gt 7, 3) := by decide +kernel
theorem dX9_in_13 : decode cX9_in 13 = .ok (.iconst 1, 1) := by decide +kernel
theorem dX9_in_14 : decode cX9_in 14 = .ok (.goto 4, 3) := by decide +kernel
theorem dX9_in_17 : decode cX9_in 17 = .ok (.iconst 0, 1) := by decide +kernel
theorem dX9_in_18 : decode cX9_in 18 = .ok (.ireturn, 1) := by decide +kernel
theorem dX9_init_0 : decode cX9_init 0 = .ok (.aload_n 0, 1) := by decide +kernel
theorem dX9_init_1 : decode cX9_init 1 = .ok (.invokespecial 1, 3) := by decide +kernel
theorem dX9_init_4 : decode cX9_init 4 = .ok (.aload_n 0, 1) := by decide +kernel
theorem dX9_init_5 : decode cX9_init 5 = .ok (.iconst 5, 1) := by decide +kernel
theorem dX9_init_6 : decode cX9_init 6 = .ok (.newarray .int, 2) := by decide +kernel
theorem dX9_init_8 : decode cX9_init 8 = .ok (.putfield 7, 3) := by decide +kernel
theorem dX9_init_11 : decode cX9_init 11 = .ok (.aload_n 0, 1) := by decide +kernel
theorem dX9_init_12 : decode cX9_init 12 = .ok (.iconst 5, 1) := by decide +kernel
theorem dX9_init_13 : decode cX9_init 13 = .ok (.newarray .int, 2) := by decide +kernel
theorem dX9_init_15 : decode cX9_init 15 = .ok (.putfield 13, 3) := by decide +kernel
theorem dX9_init_18 : decode cX9_init 18 = .ok (.aload_n 0, 1) := by decide +kernel
theorem dX9_init_19 : decode cX9_init 19 = .ok (.iconst 5, 1) := by decide +kernel
theorem dX9_init_20 : decode cX9_init 20 = .ok (.newarray .int, 2) := by decide +kernel
theorem dX9_init_22 : decode cX9_init 22 = .ok (.putfield 16, 3) := by decide +kernel
theorem dX9_init_25 : decode cX9_init 25 = .ok (.aload_n 0, 1) := by decide +kernel
theorem dX9_init_26 : decode cX9_init 26 = .ok (.sipush 16000, 3) := by decide +kernel
theorem dX9_init_29 : decode cX9_init 29 = .ok (.newarray .int, 2) := by decide +kernel
theorem dX9_init_31 : decode cX9_init 31 = .ok (.putfield 19, 3) := by decide +kernel
theorem dX9_init_34 : decode cX9_init 34 = .ok (.aload_n 0, 1) := by decide +kernel
theorem dX9_init_35 : decode cX9_init 35 = .ok (.bipush 80, 2) := by decide +kernel
theorem dX9_init_37 : decode cX9_init 37 = .ok (.newarray .int, 2) := by decide +kernel
theorem dX9_init_39 : decode cX9_init 39 = .ok (.putfield 22, 3) := by decide +kernel
theorem dX9_init_42 : decode cX9_init 42 = .ok (.aload_n 0, 1) := by decide +kernel
theorem dX9_init_43 : decode cX9_init 43 = .ok (.bipush 80, 2) := by decide +kernel
theorem dX9_init_45 : decode cX9_init 45 = .ok (.newarray .int, 2) := by decide +kernel
theorem dX9_init_47 : decode cX9_init 47 = .ok (.putfield 25, 3) := by decide +kernel
theorem dX9_init_50 : decode cX9_init 50 = .ok (.aload_n 0, 1) := by decide +kernel
theorem dX9_init_51 : decode cX9_init 51 = .ok (.bipush 80, 2) := by decide +kernel
theorem dX9_init_53 : decode cX9_init 53 = .ok (.newarray .boolean, 2) := by decide +kernel
theorem dX9_init_55 : decode cX9_init 55 = .ok (.putfield 28, 3) := by decide +kernel
theorem dX9_init_58 : decode cX9_init 58 = .ok (.aload_n 0, 1) := by decide +kernel
theorem dX9_init_59 : decode cX9_init 59 = .ok (.bipush 80, 2) := by decide +kernel
theorem dX9_init_61 : decode cX9_init 61 = .ok (.newarray .int, 2) := by decide +kernel
theorem dX9_init_63 : decode cX9_init 63 = .ok (.putfield 32, 3) := by decide +kernel
theorem dX9_init_66 : decode cX9_init 66 = .ok (.aload_n 0, 1) := by decide +kernel
theorem dX9_init_67 : decode cX9_init 67 = .ok (.bipush 80, 2) := by decide +kernel
theorem dX9_init_69 : decode cX9_init 69 = .ok (.newarray .int, 2) := by decide +kernel
theorem dX9_init_71 : decode cX9_init 71 = .ok (.putfield 35, 3) := by decide +kernel
theorem dX9_init_74 : decode cX9_init 74 = .ok (.aload_n 0, 1) := by decide +kernel
theorem dX9_init_75 : decode cX9_init 75 = .ok (.iconst 5, 1) := by decide +kernel
theorem dX9_init_76 : decode cX9_init 76 = .ok (.newarray .int, 2) := by decide +kernel
theorem dX9_init_78 : decode cX9_init 78 = .ok (.putfield 38, 3) := by decide +kernel
theorem dX9_init_81 : decode cX9_init 81 = .ok (.aload_n 0, 1) := by decide +kernel
theorem dX9_init_82 : decode cX9_init 82 = .ok (.bipush 100, 2) := by decide +kernel
theorem dX9_init_84 : decode cX9_init 84 = .ok (.newarray .int, 2) := by decide +kernel
theorem dX9_init_86 : decode cX9_init 86 = .ok (.putfield 41, 3) := by decide +kernel
theorem dX9_init_89 : decode cX9_init 89 = .ok (.aload_n 0, 1) := by decide +kernel
theorem dX9_init_90 : decode cX9_init 90 = .ok (.bipush 100, 2) := by decide +kernel
theorem dX9_init_92 : decode cX9_init 92 = .ok (.newarray .long, 2) := by decide +kernel
theorem dX9_init_94 : decode cX9_init 94 = .ok (.putfield 44, 3) := by decide +kernel
theorem dX9_init_97 : decode cX9_init 97 = .ok (.aload_n 0, 1) := by decide +kernel
theorem dX9_init_98 : decode cX9_init 98 = .ok (.sipush 200, 3) := by decide +kernel
theorem dX9_init_101 : decode cX9_init 101 = .ok (.newarray .int, 2) := by decide +kernel
theorem dX9_init_103 : decode cX9_init 103 = .ok (.putfield 48, 3) := by decide +kernel
theorem dX9_init_106 : decode cX9_init 106 = .ok (.aload_n 0, 1) := by decide +kernel
theorem dX9_init_107 : decode cX9_init 107 = .ok (.sipush 800, 3) := by decide +kernel
theorem dX9_init_110 : decode cX9_init 110 = .ok (.newarray .long, 2) := by decide +kernel
theorem dX9_init_112 : decode cX9_init 112 = .ok (.putfield 51, 3) := by decide +kernel
theorem dX9_init_115 : decode cX9_init 115 = .ok (.aload_n 0, 1) := by decide +kernel
theorem dX9_init_116 : decode cX9_init 116 = .ok (.sipush 800, 3) := by decide +kernel
theorem dX9_init_119 : decode cX9_init 119 = .ok (.newarray .long, 2) := by decide +kernel
theorem dX9_init_121 : decode cX9_init 121 = .ok (.putfield 54, 3) := by decide +kernel
theorem dX9_init_124 : decode cX9_init 124 = .ok (.aload_n 0, 1) := by decide +kernel
theorem dX9_init_125 : decode cX9_init 125 = .ok (.sipush 800, 3) := by decide +kernel
theorem dX9_init_128 : decode cX9_init 128 = .ok (.newarray .int, 2) := by decide +kernel
theorem dX9_init_130 : decode cX9_init 130 = .ok (.putfield 57, 3) := by decide +kernel
theorem dX9_init_133 : decode cX9_init 133 = .ok (.aload_n 0, 1) := by decide +kernel
theorem dX9_init_134 : decode cX9_init 134 = .ok (.sipush 800, 3) := by decide +kernel
theorem dX9_init_137 : decode cX9_init 137 = .ok (.newarray .int, 2) := by decide +kernel
theorem dX9_init_139 : decode cX9_init 139 = .ok (.putfield 60, 3) := by decide +kernel
theorem dX9_init_142 : decode cX9_init 142 = .ok (.aload_n 0, 1) := by decide +kernel
theorem dX9_init_143 : decode cX9_init 143 = .ok (.sipush 800, 3) := by decide +kernel
theorem dX9_init_146 : decode cX9_init 146 = .ok (.newarray .int, 2) := by decide +kernel
theorem dX9_init_148 : decode cX9_init 148 = .ok (.putfield 63, 3) := by decide +kernel
theorem dX9_init_151 : decode cX9_init 151 = .ok (.aload_n 0, 1) := by decide +kernel
theorem dX9_init_152 : decode cX9_init 152 = .ok (.sipush 12040, 3) := by decide +kernel
theorem dX9_init_155 : decode cX9_init 155 = .ok (.newarray .long, 2) := by decide +kernel
theorem dX9_init_157 : decode cX9_init 157 = .ok (.putfield 66, 3) := by decide +kernel
theorem dX9_init_160 : decode cX9_init 160 = .ok (.aload_n 0, 1) := by decide +kernel
theorem dX9_init_161 : decode cX9_init 161 = .ok (.sipush 12040, 3) := by decide +kernel
theorem dX9_init_164 : decode cX9_init 164 = .ok (.newarray .long, 2) := by decide +kernel
theorem dX9_init_166 : decode cX9_init 166 = .ok (.putfield 69, 3) := by decide +kernel
theorem dX9_init_169 : decode cX9_init 169 = .ok (.aload_n 0, 1) := by decide +kernel
theorem dX9_init_170 : decode cX9_init 170 = .ok (.sipush 12040, 3) := by decide +kernel
theorem dX9_init_173 : decode cX9_init 173 = .ok (.newarray .int, 2) := by decide +kernel
theorem dX9_init_175 : decode cX9_init 175 = .ok (.putfield 72, 3) := by decide +kernel
theorem dX9_init_178 : decode cX9_init 178 = .ok (.aload_n 0, 1) := by decide +kernel
theorem dX9_init_179 : decode cX9_init 179 = .ok (.sipush 12040, 3) := by decide +kernel
theorem dX9_init_182 : decode cX9_init 182 = .ok (.newarray .long, 2) := by decide +kernel
theorem dX9_init_184 : decode cX9_init 184 = .ok (.putfield 75, 3) := by decide +kernel
theorem dX9_init_187 : decode cX9_init 187 = .ok (.aload_n 0, 1) := by decide +kernel
theorem dX9_init_188 : decode cX9_init 188 = .ok (.sipush 12040, 3) := by decide +kernel
theorem dX9_init_191 : decode cX9_init 191 = .ok (.newarray .long, 2) := by decide +kernel
theorem dX9_init_193 : decode cX9_init 193 = .ok (.putfield 78, 3) := by decide +kernel
theorem dX9_init_196 : decode cX9_init 196 = .ok (.return_, 1) := by decide +kernel
theorem dX9_isSeries_0 : decode cX9_isSeries 0 = .ok (.iload_n 1, 1) := by decide +kernel
theorem dX9_isSeries_1 : decode cX9_isSeries 1 = .ok (.i2l, 1) := by decide +kernel
theorem dX9_isSeries_2 : decode cX9_isSeries 2 = .ok (.lconst 0, 1) := by decide +kernel
theorem dX9_isSeries_3 : decode cX9_isSeries 3 = .ok (.ldc2_w 81, 3) := by decide +kernel
theorem dX9_isSeries_6 : decode cX9_isSeries 6 = .ok (.invokestatic 83, 3) := by decide +kernel
theorem dX9_isSeries_9 : decode cX9_isSeries 9 = .ok (.ifCond .eq 16, 3) := by decide +kernel
theorem dX9_isSeries_12 : decode cX9_isSeries 12 = .ok (.aload_n 0, 1) := by decide +kernel
theorem dX9_isSeries_13 : decode cX9_isSeries 13 = .ok (.getfield 7, 3) := by decide +kernel
theorem dX9_isSeries_16 : decode cX9_isSeries 16 = .ok (.iload_n 1, 1) := by decide +kernel
theorem dX9_isSeries_17 : decode cX9_isSeries 17 = .ok (.iaload, 1) := by decide +kernel
theorem dX9_isSeries_18 : decode cX9_isSeries 18 = .ok (.ifCond .le 7, 3) := by decide +kernel
theorem dX9_isSeries_21 : decode cX9_isSeries 21 = .ok (.iconst 1, 1) := by decide +kernel
theorem dX9_isSeries_22 : decode cX9_isSeries 22 = .ok (.goto 4, 3) := by decide +kernel
theorem dX9_isSeries_25 : decode cX9_isSeries 25 = .ok (.iconst 0, 1) := by decide +kernel
theorem dX9_isSeries_26 : decode cX9_isSeries 26 = .ok (.ireturn, 1) := by decide +kernel
theorem dX9_isBlock_0 : decode cX9_isBlock 0 = .ok (.aload_n 0, 1) := by decide +kernel
theorem dX9_isBlock_1 : decode cX9_isBlock 1 = .ok (.iload_n 1, 1) := by decide +kernel
theorem dX9_isBlock_2 : decode cX9_isBlock 2 = .ok (.invokevirtual 87, 3) := by decide +kernel
theorem dX9_isBlock_5 : decode cX9_isBlock 5 = .ok (.ifCond .eq 25, 3) := by decide +kernel
theorem dX9_isBlock_8 : decode cX9_isBlock 8 = .ok (.iload_n 2, 1) := by decide +kernel
theorem dX9_isBlock_9 : decode cX9_isBlock 9 = .ok (.i2l, 1) := by decide +kernel
theorem dX9_isBlock_10 : decode cX9_isBlock 10 = .ok (.lconst 0, 1) := by decide +kernel
theorem dX9_isBlock_11 : decode cX9_isBlock 11 = .ok (.aload_n 0, 1) := by decide +kernel
theorem dX9_isBlock_12 : decode cX9_isBlock 12 = .ok (.getfield 16, 3) := by decide +kernel
theorem dX9_isBlock_15 : decode cX9_isBlock 15 = .ok (.iload_n 1, 1) := by decide +kernel
theorem dX9_isBlock_16 : decode cX9_isBlock 16 = .ok (.iaload, 1) := by decide +kernel
theorem dX9_isBlock_17 : decode cX9_isBlock 17 = .ok (.iconst 1, 1) := by decide +kernel
theorem dX9_isBlock_18 : decode cX9_isBlock 18 = .ok (.isub, 1) := by decide +kernel
theorem dX9_isBlock_19 : decode cX9_isBlock 19 = .ok (.i2l, 1) := by decide +kernel
theorem dX9_isBlock_20 : decode cX9_isBlock 20 = .ok (.invokestatic 83, 3) := by decide +kernel
theorem dX9_isBlock_23 : decode cX9_isBlock 23 = .ok (.ifCond .eq 7, 3) := by decide +kernel
theorem dX9_isBlock_26 : decode cX9_isBlock 26 = .ok (.iconst 1, 1) := by decide +kernel
theorem dX9_isBlock_27 : decode cX9_isBlock 27 = .ok (.goto 4, 3) := by decide +kernel
theorem dX9_isBlock_30 : decode cX9_isBlock 30 = .ok (.iconst 0, 1) := by decide +kernel
theorem dX9_isBlock_31 : decode cX9_isBlock 31 = .ok (.ireturn, 1) := by decide +kernel
theorem dX9_isStamp_0 : decode cX9_isStamp 0 = .ok (.iload_n 0, 1) := by decide +kernel
theorem dX9_isStamp_1 : decode cX9_isStamp 1 = .ok (.i2l, 1) := by decide +kernel
theorem dX9_isStamp_2 : decode cX9_isStamp 2 = .ok (.lconst 0, 1) := by decide +kernel
theorem dX9_isStamp_3 : decode cX9_isStamp 3 = .ok (.ldc2_w 91, 3) := by decide +kernel
theorem dX9_isStamp_6 : decode cX9_isStamp 6 = .ok (.invokestatic 83, 3) := by decide +kernel
theorem dX9_isStamp_9 : decode cX9_isStamp 9 = .ok (.ireturn, 1) := by decide +kernel
theorem dX9_isNumber_0 : decode cX9_isNumber 0 = .ok (.lload_n 0, 1) := by decide +kernel
theorem dX9_isNumber_1 : decode cX9_isNumber 1 = .ok (.ldc2_w 95, 3) := by decide +kernel
theorem dX9_isNumber_4 : decode cX9_isNumber 4 = .ok (.land, 1) := by decide +kernel
theorem dX9_isNumber_5 : decode cX9_isNumber 5 = .ok (.ldc2_w 97, 3) := by decide +kernel
theorem dX9_isNumber_8 : decode cX9_isNumber 8 = .ok (.lcmp, 1) := by decide +kernel
theorem dX9_isNumber_9 : decode cX9_isNumber 9 = .ok (.ifCond .gt 7, 3) := by decide +kernel
theorem dX9_isNumber_12 : decode cX9_isNumber 12 = .ok (.iconst 1, 1) := by decide +kernel
theorem dX9_isNumber_13 : decode cX9_isNumber 13 = .ok (.goto 4, 3) := by decide +kernel
theorem dX9_isNumber_16 : decode cX9_isNumber 16 = .ok (.iconst 0, 1) := by decide +kernel
theorem dX9_isNumber_17 : decode cX9_isNumber 17 = .ok (.ireturn, 1) := by decide +kernel
theorem dX9_begins_0 : decode cX9_begins 0 = .ok (.iload_n 1, 1) := by decide +kernel
theorem dX9_begins_1 : decode cX9_begins 1 = .ok (.i2l, 1) := by decide +kernel
theorem dX9_begins_2 : decode cX9_begins 2 = .ok (.lconst 0, 1) := by decide +kernel
theorem dX9_begins_3 : decode cX9_begins 3 = .ok (.ldc2_w 81, 3) := by decide +kernel
theorem dX9_begins_6 : decode cX9_begins 6 = .ok (.invokestatic 83, 3) := by decide +kernel
theorem dX9_begins_9 : decode cX9_begins 9 = .ok (.ifCond .eq 17, 3) := by decide +kernel
theorem dX9_begins_12 : decode cX9_begins 12 = .ok (.iload_n 2, 1) := by decide +kernel
theorem dX9_begins_13 : decode cX9_begins 13 = .ok (.i2l, 1) := by decide +kernel
theorem dX9_begins_14 : decode cX9_begins 14 = .ok (.ldc2_w 99, 3) := by decide +kernel
theorem dX9_begins_17 : decode cX9_begins 17 = .ok (.ldc2_w 101, 3) := by decide +kernel
theorem dX9_begins_20 : decode cX9_begins 20 = .ok (.invokestatic 83, 3) := by decide +kernel
theorem dX9_begins_23 : decode cX9_begins 23 = .ok (.ifCond .ne 6, 3) := by decide +kernel
theorem dX9_begins_26 : decode cX9_begins 26 = .ok (.bipush (-2), 2) := by decide +kernel
theorem dX9_begins_28 : decode cX9_begins 28 = .ok (.ireturn, 1) := by decide +kernel
theorem dX9_begins_29 : decode cX9_begins 29 = .ok (.aload_n 0, 1) := by decide +kernel
theorem dX9_begins_30 : decode cX9_begins 30 = .ok (.iload_n 1, 1) := by decide +kernel
theorem dX9_begins_31 : decode cX9_begins 31 = .ok (.iload_n 2, 1) := by decide +kernel
theorem dX9_begins_32 : decode cX9_begins 32 = .ok (.invokevirtual 103, 3) := by decide +kernel
theorem dX9_begins_35 : decode cX9_begins 35 = .ok (.iconst 0, 1) := by decide +kernel
theorem dX9_begins_36 : decode cX9_begins 36 = .ok (.ireturn, 1) := by decide +kernel
theorem dX9_clears_0 : decode cX9_clears 0 = .ok (.aload_n 0, 1) := by decide +kernel
theorem dX9_clears_1 : decode cX9_clears 1 = .ok (.getfield 7, 3) := by decide +kernel
theorem dX9_clears_4 : decode cX9_clears 4 = .ok (.iload_n 1, 1) := by decide +kernel
theorem dX9_clears_5 : decode cX9_clears 5 = .ok (.iload_n 2, 1) := by decide +kernel
theorem dX9_clears_6 : decode cX9_clears 6 = .ok (.iastore, 1) := by decide +kernel
theorem dX9_clears_7 : decode cX9_clears 7 = .ok (.aload_n 0, 1) := by decide +kernel
theorem dX9_clears_8 : decode cX9_clears 8 = .ok (.getfield 13, 3) := by decide +kernel
theorem dX9_clears_11 : decode cX9_clears 11 = .ok (.iload_n 1, 1) := by decide +kernel
theorem dX9_clears_12 : decode cX9_clears 12 = .ok (.iconst (-1), 1) := by decide +kernel
theorem dX9_clears_13 : decode cX9_clears 13 = .ok (.iastore, 1) := by decide +kernel
theorem dX9_clears_14 : decode cX9_clears 14 = .ok (.aload_n 0, 1) := by decide +kernel
theorem dX9_clears_15 : decode cX9_clears 15 = .ok (.getfield 16, 3) := by decide +kernel
theorem dX9_clears_18 : decode cX9_clears 18 = .ok (.iload_n 1, 1) := by decide +kernel
theorem dX9_clears_19 : decode cX9_clears 19 = .ok (.iconst 0, 1) := by decide +kernel
theorem dX9_clears_20 : decode cX9_clears 20 = .ok (.iastore, 1) := by decide +kernel
theorem dX9_clears_21 : decode cX9_clears 21 = .ok (.aload_n 0, 1) := by decide +kernel
theorem dX9_clears_22 : decode cX9_clears 22 = .ok (.getfield 38, 3) := by decide +kernel
theorem dX9_clears_25 : decode cX9_clears 25 = .ok (.iload_n 1, 1) := by decide +kernel
theorem dX9_clears_26 : decode cX9_clears 26 = .ok (.iconst 0, 1) := by decide +kernel
theorem dX9_clears_27 : decode cX9_clears 27 = .ok (.iastore, 1) := by decide +kernel
theorem dX9_clears_28 : decode cX9_clears 28 = .ok (.return_, 1) := by decide +kernel
theorem dX9_byteAt_0 : decode cX9_byteAt 0 = .ok (.aload_n 0, 1) := by decide +kernel
theorem dX9_byteAt_1 : decode cX9_byteAt 1 = .ok (.getfield 19, 3) := by decide +kernel
theorem dX9_byteAt_4 : decode cX9_byteAt 4 = .ok (.sipush 200, 3) := by decide +kernel
theorem dX9_byteAt_7 : decode cX9_byteAt 7 = .ok (.iload_n 1, 1) := by decide +kernel
theorem dX9_byteAt_8 : decode cX9_byteAt 8 = .ok (.imul, 1) := by decide +kernel
theorem dX9_byteAt_9 : decode cX9_byteAt 9 = .ok (.iload_n 2, 1) := by decide +kernel
theorem dX9_byteAt_10 : decode cX9_byteAt 10 = .ok (.iadd, 1) := by decide +kernel
theorem dX9_byteAt_11 : decode cX9_byteAt 11 = .ok (.iaload, 1) := by decide +kernel
theorem dX9_byteAt_12 : decode cX9_byteAt 12 = .ok (.ireturn, 1) := by decide +kernel
theorem dX9_bitAt_0 : decode cX9_bitAt 0 = .ok (.aload_n 0, 1) := by decide +kernel
theorem dX9_bitAt_1 : decode cX9_bitAt 1 = .ok (.iload_n 1, 1) := by decide +kernel
theorem dX9_bitAt_2 : decode cX9_bitAt 2 = .ok (.bipush 14, 2) := by decide +kernel
theorem dX9_bitAt_4 : decode cX9_bitAt 4 = .ok (.iload_n 2, 1) := by decide +kernel
theorem dX9_bitAt_5 : decode cX9_bitAt 5 = .ok (.bipush 8, 2) := by decide +kernel
theorem dX9_bitAt_7 : decode cX9_bitAt 7 = .ok (.idiv, 1) := by decide +kernel
theorem dX9_bitAt_8 : decode cX9_bitAt 8 = .ok (.iadd, 1) := by decide +kernel
theorem dX9_bitAt_9 : decode cX9_bitAt 9 = .ok (.invokevirtual 107, 3) := by decide +kernel
theorem dX9_bitAt_12 : decode cX9_bitAt 12 = .ok (.bipush 7, 2) := by decide +kernel
theorem dX9_bitAt_14 : decode cX9_bitAt 14 = .ok (.iload_n 2, 1) := by decide +kernel
theorem dX9_bitAt_15 : decode cX9_bitAt 15 = .ok (.bipush 8, 2) := by decide +kernel
theorem dX9_bitAt_17 : decode cX9_bitAt 17 = .ok (.irem, 1) := by decide +kernel
theorem dX9_bitAt_18 : decode cX9_bitAt 18 = .ok (.isub, 1) := by decide +kernel
theorem dX9_bitAt_19 : decode cX9_bitAt 19 = .ok (.ishr, 1) := by decide +kernel
theorem dX9_bitAt_20 : decode cX9_bitAt 20 = .ok (.iconst 1, 1) := by decide +kernel
theorem dX9_bitAt_21 : decode cX9_bitAt 21 = .ok (.iand, 1) := by decide +kernel
theorem dX9_bitAt_22 : decode cX9_bitAt 22 = .ok (.ireturn, 1) := by decide +kernel
theorem dX9_classOf_0 : decode cX9_classOf 0 = .ok (.lload_n 0, 1) := by decide +kernel
theorem dX9_classOf_1 : decode cX9_classOf 1 = .ok (.lconst 0, 1) := by decide +kernel
theorem dX9_classOf_2 : decode cX9_classOf 2 = .ok (.lcmp, 1) := by decide +kernel
theorem dX9_classOf_3 : decode cX9_classOf 3 = .ok (.ifCond .ne 7, 3) := by decide +kernel
theorem dX9_classOf_6 : decode cX9_classOf 6 = .ok (.iconst 0, 1) := by decide +kernel
theorem dX9_classOf_7 : decode cX9_classOf 7 = .ok (.goto 55, 3) := by decide +kernel
theorem dX9_classOf_10 : decode cX9_classOf 10 = .ok (.lload_n 0, 1) := by decide +kernel
theorem dX9_classOf_11 : decode cX9_classOf 11 = .ok (.ldc2_w 111, 3) := by decide +kernel
theorem dX9_classOf_14 : decode cX9_classOf 14 = .ok (.ldc2_w 113, 3) := by decide +kernel
theorem dX9_classOf_17 : decode cX9_classOf 17 = .ok (.invokestatic 83, 3) := by decide +kernel
theorem dX9_classOf_20 : decode cX9_classOf 20 = .ok (.ifCond .eq 7, 3) := by decide +kernel
theorem dX9_classOf_23 : decode cX9_classOf 23 = .ok (.iconst 1, 1) := by decide +kernel
theorem dX9_classOf_24 : decode cX9_classOf 24 = .ok (.goto 38, 3) := by decide +kernel
theorem dX9_classOf_27 : decode cX9_classOf 27 = .ok (.lload_n 0, 1) := by decide +kernel
theorem dX9_classOf_28 : decode cX9_classOf 28 = .ok (.ldc2_w 115, 3) := by decide +kernel
theorem dX9_classOf_31 : decode cX9_classOf 31 = .ok (.ldc2_w 117, 3) := by decide +kernel
theorem dX9_classOf_34 : decode cX9_classOf 34 = .ok (.invokestatic 83, 3) := by decide +kernel
theorem dX9_classOf_37 : decode cX9_classOf 37 = .ok (.ifCond .eq 7, 3) := by decide +kernel
theorem dX9_classOf_40 : decode cX9_classOf 40 = .ok (.iconst 2, 1) := by decide +kernel
theorem dX9_classOf_41 : decode cX9_classOf 41 = .ok (.goto 21, 3) := by decide +kernel
theorem dX9_classOf_44 : decode cX9_classOf 44 = .ok (.lload_n 0, 1) := by decide +kernel
theorem dX9_classOf_45 : decode cX9_classOf 45 = .ok (.ldc2_w 119, 3) := by decide +kernel
theorem dX9_classOf_48 : decode cX9_classOf 48 = .ok (.ldc2_w 121, 3) := by decide +kernel
theorem dX9_classOf_51 : decode cX9_classOf 51 = .ok (.invokestatic 83, 3) := by decide +kernel
theorem dX9_classOf_54 : decode cX9_classOf 54 = .ok (.ifCond .eq 7, 3) := by decide +kernel
theorem dX9_classOf_57 : decode cX9_classOf 57 = .ok (.iconst 3, 1) := by decide +kernel
theorem dX9_classOf_58 : decode cX9_classOf 58 = .ok (.goto 4, 3) := by decide +kernel
theorem dX9_classOf_61 : decode cX9_classOf 61 = .ok (.iconst 4, 1) := by decide +kernel
theorem dX9_classOf_62 : decode cX9_classOf 62 = .ok (.ireturn, 1) := by decide +kernel
theorem dX9_signsOf_0 : decode cX9_signsOf 0 = .ok (.iload_n 0, 1) := by decide +kernel
theorem dX9_signsOf_1 : decode cX9_signsOf 1 = .ok (.ifCond .ne 7, 3) := by decide +kernel
theorem dX9_signsOf_4 : decode cX9_signsOf 4 = .ok (.iconst 1, 1) := by decide +kernel
theorem dX9_signsOf_5 : decode cX9_signsOf 5 = .ok (.goto 15, 3) := by decide +kernel
theorem dX9_signsOf_8 : decode cX9_signsOf 8 = .ok (.iload_n 0, 1) := by decide +kernel
theorem dX9_signsOf_9 : decode cX9_signsOf 9 = .ok (.iconst 4, 1) := by decide +kernel
theorem dX9_signsOf_10 : decode cX9_signsOf 10 = .ok (.if_icmp .ne 7, 3) := by decide +kernel
theorem dX9_signsOf_13 : decode cX9_signsOf 13 = .ok (.iconst 4, 1) := by decide +kernel
theorem dX9_signsOf_14 : decode cX9_signsOf 14 = .ok (.goto 6, 3) := by decide +kernel
theorem dX9_signsOf_17 : decode cX9_signsOf 17 = .ok (.iload_n 0, 1) := by decide +kernel
theorem dX9_signsOf_18 : decode cX9_signsOf 18 = .ok (.iconst 1, 1) := by decide +kernel
theorem dX9_signsOf_19 : decode cX9_signsOf 19 = .ok (.iadd, 1) := by decide +kernel
theorem dX9_signsOf_20 : decode cX9_signsOf 20 = .ok (.ireturn, 1) := by decide +kernel
theorem dX9_wideOf_0 : decode cX9_wideOf 0 = .ok (.iload_n 0, 1) := by decide +kernel
theorem dX9_wideOf_1 : decode cX9_wideOf 1 = .ok (.ifCond .ne 7, 3) := by decide +kernel
theorem dX9_wideOf_4 : decode cX9_wideOf 4 = .ok (.iconst 0, 1) := by decide +kernel
theorem dX9_wideOf_5 : decode cX9_wideOf 5 = .ok (.goto 35, 3) := by decide +kernel
theorem dX9_wideOf_8 : decode cX9_wideOf 8 = .ok (.iload_n 0, 1) := by decide +kernel
theorem dX9_wideOf_9 : decode cX9_wideOf 9 = .ok (.iconst 1, 1) := by decide +kernel
theorem dX9_wideOf_10 : decode cX9_wideOf 10 = .ok (.if_icmp .ne 8, 3) := by decide +kernel
theorem dX9_wideOf_13 : decode cX9_wideOf 13 = .ok (.bipush 7, 2) := by decide +kernel
theorem dX9_wideOf_15 : decode cX9_wideOf 15 = .ok (.goto 25, 3) := by decide +kernel
theorem dX9_wideOf_18 : decode cX9_wideOf 18 = .ok (.iload_n 0, 1) := by decide +kernel
theorem dX9_wideOf_19 : decode cX9_wideOf 19 = .ok (.iconst 2, 1) := by decide +kernel
theorem dX9_wideOf_20 : decode cX9_wideOf 20 = .ok (.if_icmp .ne 8, 3) := by decide +kernel
theorem dX9_wideOf_23 : decode cX9_wideOf 23 = .ok (.bipush 9, 2) := by decide +kernel
theorem dX9_wideOf_25 : decode cX9_wideOf 25 = .ok (.goto 15, 3) := by decide +kernel
theorem dX9_wideOf_28 : decode cX9_wideOf 28 = .ok (.iload_n 0, 1) := by decide +kernel
theorem dX9_wideOf_29 : decode cX9_wideOf 29 = .ok (.iconst 3, 1) := by decide +kernel
theorem dX9_wideOf_30 : decode cX9_wideOf 30 = .ok (.if_icmp .ne 8, 3) := by decide +kernel
theorem dX9_wideOf_33 : decode cX9_wideOf 33 = .ok (.bipush 12, 2) := by decide +kernel
theorem dX9_wideOf_35 : decode cX9_wideOf 35 = .ok (.goto 5, 3) := by decide +kernel
theorem dX9_wideOf_38 : decode cX9_wideOf 38 = .ok (.bipush 32, 2) := by decide +kernel
theorem dX9_wideOf_40 : decode cX9_wideOf 40 = .ok (.ireturn, 1) := by decide +kernel
theorem dX9_wayOf_0 : decode cX9_wayOf 0 = .ok (.lload_n 1, 1) := by decide +kernel
theorem dX9_wayOf_1 : decode cX9_wayOf 1 = .ok (.lconst 0, 1) := by decide +kernel
theorem dX9_wayOf_2 : decode cX9_wayOf 2 = .ok (.lcmp, 1) := by decide +kernel
theorem dX9_wayOf_3 : decode cX9_wayOf 3 = .ok (.ifCond .ne 5, 3) := by decide +kernel
theorem dX9_wayOf_6 : decode cX9_wayOf 6 = .ok (.iconst 5, 1) := by decide +kernel
theorem dX9_wayOf_7 : decode cX9_wayOf 7 = .ok (.ireturn, 1) := by decide +kernel
theorem dX9_wayOf_8 : decode cX9_wayOf 8 = .ok (.lload_n 1, 1) := by decide +kernel
theorem dX9_wayOf_9 : decode cX9_wayOf 9 = .ok (.invokestatic 123, 3) := by decide +kernel
theorem dX9_wayOf_12 : decode cX9_wayOf 12 = .ok (.istore_n 3, 1) := by decide +kernel
theorem dX9_wayOf_13 : decode cX9_wayOf 13 = .ok (.lload_n 1, 1) := by decide +kernel
theorem dX9_wayOf_14 : decode cX9_wayOf 14 = .ok (.invokestatic 127, 3) := by decide +kernel
theorem dX9_wayOf_17 : decode cX9_wayOf 17 = .ok (.istore 4, 2) := by decide +kernel
theorem dX9_wayOf_19 : decode cX9_wayOf 19 = .ok (.aload_n 0, 1) := by decide +kernel
theorem dX9_wayOf_20 : decode cX9_wayOf 20 = .ok (.getfield 130, 3) := by decide +kernel
theorem dX9_wayOf_23 : decode cX9_wayOf 23 = .ok (.ifCond .eq 49, 3) := by decide +kernel
theorem dX9_wayOf_26 : decode cX9_wayOf 26 = .ok (.iload_n 3, 1) := by decide +kernel
theorem dX9_wayOf_27 : decode cX9_wayOf 27 = .ok (.aload_n 0, 1) := by decide +kernel
theorem dX9_wayOf_28 : decode cX9_wayOf 28 = .ok (.getfield 134, 3) := by decide +kernel
theorem dX9_wayOf_31 : decode cX9_wayOf 31 = .ok (.if_icmp .lt 41, 3) := by decide +kernel
theorem dX9_wayOf_34 : decode cX9_wayOf 34 = .ok (.iload 4, 2) := by decide +kernel
theorem dX9_wayOf_36 : decode cX9_wayOf 36 = .ok (.aload_n 0, 1) := by decide +kernel
theorem dX9_wayOf_37 : decode cX9_wayOf 37 = .ok (.getfield 138, 3) := by decide +kernel
theorem dX9_wayOf_40 : decode cX9_wayOf 40 = .ok (.if_icmp .lt 32, 3) := by decide +kernel
theorem dX9_wayOf_43 : decode cX9_wayOf 43 = .ok (.bipush 64, 2) := by decide +kernel
theorem dX9_wayOf_45 : decode cX9_wayOf 45 = .ok (.aload_n 0, 1) := by decide +kernel
theorem dX9_wayOf_46 : decode cX9_wayOf 46 = .ok (.getfield 134, 3) := by decide +kernel
theorem dX9_wayOf_49 : decode cX9_wayOf 49 = .ok (.isub, 1) := by decide +kernel
theorem dX9_wayOf_50 : decode cX9_wayOf 50 = .ok (.aload_n 0, 1) := by decide +kernel
theorem dX9_wayOf_51 : decode cX9_wayOf 51 = .ok (.getfield 138, 3) := by decide +kernel
theorem dX9_wayOf_54 : decode cX9_wayOf 54 = .ok (.isub, 1) := by decide +kernel
theorem dX9_wayOf_55 : decode cX9_wayOf 55 = .ok (.bipush 64, 2) := by decide +kernel
theorem dX9_wayOf_57 : decode cX9_wayOf 57 = .ok (.iload_n 3, 1) := by decide +kernel
theorem dX9_wayOf_58 : decode cX9_wayOf 58 = .ok (.isub, 1) := by decide +kernel
theorem dX9_wayOf_59 : decode cX9_wayOf 59 = .ok (.iload 4, 2) := by decide +kernel
theorem dX9_wayOf_61 : decode cX9_wayOf 61 = .ok (.isub, 1) := by decide +kernel
theorem dX9_wayOf_62 : decode cX9_wayOf 62 = .ok (.bipush 11, 2) := by decide +kernel
theorem dX9_wayOf_64 : decode cX9_wayOf 64 = .ok (.iadd, 1) := by decide +kernel
theorem dX9_wayOf_65 : decode cX9_wayOf 65 = .ok (.if_icmp .gt 7, 3) := by decide +kernel
theorem dX9_wayOf_68 : decode cX9_wayOf 68 = .ok (.iconst 1, 1) := by decide +kernel
theorem dX9_wayOf_69 : decode cX9_wayOf 69 = .ok (.goto 4, 3) := by decide +kernel
theorem dX9_wayOf_72 : decode cX9_wayOf 72 = .ok (.iconst 0, 1) := by decide +kernel
theorem dX9_wayOf_73 : decode cX9_wayOf 73 = .ok (.istore 5, 2) := by decide +kernel
theorem dX9_wayOf_75 : decode cX9_wayOf 75 = .ok (.iload 5, 2) := by decide +kernel
theorem dX9_wayOf_77 : decode cX9_wayOf 77 = .ok (.ifCond .eq 8, 3) := by decide +kernel
theorem dX9_wayOf_80 : decode cX9_wayOf 80 = .ok (.bipush 6, 2) := by decide +kernel
theorem dX9_wayOf_82 : decode cX9_wayOf 82 = .ok (.goto 5, 3) := by decide +kernel
theorem dX9_wayOf_85 : decode cX9_wayOf 85 = .ok (.bipush 7, 2) := by decide +kernel
theorem dX9_wayOf_87 : decode cX9_wayOf 87 = .ok (.ireturn, 1) := by decide +kernel
theorem dX9_aheadOf_0 : decode cX9_aheadOf 0 = .ok (.bipush 31, 2) := by decide +kernel
theorem dX9_aheadOf_2 : decode cX9_aheadOf 2 = .ok (.lload_n 0, 1) := by decide +kernel
theorem dX9_aheadOf_3 : decode cX9_aheadOf 3 = .ok (.invokestatic 123, 3) := by decide +kernel
theorem dX9_aheadOf_6 : decode cX9_aheadOf 6 = .ok (.invokestatic 141, 3) := by decide +kernel
theorem dX9_aheadOf_9 : decode cX9_aheadOf 9 = .ok (.ireturn, 1) := by decide +kernel
theorem dX9_wideAnew_0 : decode cX9_wideAnew 0 = .ok (.bipush 64, 2) := by decide +kernel
theorem dX9_wideAnew_2 : decode cX9_wideAnew 2 = .ok (.lload_n 0, 1) := by decide +kernel
theorem dX9_wideAnew_3 : decode cX9_wideAnew 3 = .ok (.invokestatic 146, 3) := by decide +kernel
theorem dX9_wideAnew_6 : decode cX9_wideAnew 6 = .ok (.isub, 1) := by decide +kernel
theorem dX9_wideAnew_7 : decode cX9_wideAnew 7 = .ok (.lload_n 0, 1) := by decide +kernel
theorem dX9_wideAnew_8 : decode cX9_wideAnew 8 = .ok (.invokestatic 127, 3) := by decide +kernel
theorem dX9_wideAnew_11 : decode cX9_wideAnew 11 = .ok (.isub, 1) := by decide +kernel
theorem dX9_wideAnew_12 : decode cX9_wideAnew 12 = .ok (.ireturn, 1) := by decide +kernel
theorem dX9_takesBits_0 : decode cX9_takesBits 0 = .ok (.lload_n 1, 1) := by decide +kernel
theorem dX9_takesBits_1 : decode cX9_takesBits 1 = .ok (.aload_n 0, 1) := by decide +kernel
theorem dX9_takesBits_2 : decode cX9_takesBits 2 = .ok (.getfield 149, 3) := by decide +kernel
theorem dX9_takesBits_5 : decode cX9_takesBits 5 = .ok (.lsub, 1) := by decide +kernel
theorem dX9_takesBits_6 : decode cX9_takesBits 6 = .ok (.aload_n 0, 1) := by decide +kernel
theorem dX9_takesBits_7 : decode cX9_takesBits 7 = .ok (.getfield 153, 3) := by decide +kernel
theorem dX9_takesBits_10 : decode cX9_takesBits 10 = .ok (.lsub, 1) := by decide +kernel
theorem dX9_takesBits_11 : decode cX9_takesBits 11 = .ok (.invokestatic 156, 3) := by decide +kernel
theorem dX9_takesBits_14 : decode cX9_takesBits 14 = .ok (.istore 5, 2) := by decide +kernel
theorem dX9_takesBits_16 : decode cX9_takesBits 16 = .ok (.lload_n 3, 1) := by decide +kernel
theorem dX9_takesBits_17 : decode cX9_takesBits 17 = .ok (.aload_n 0, 1) := by decide +kernel
theorem dX9_takesBits_18 : decode cX9_takesBits 18 = .ok (.getfield 159, 3) := by decide +kernel
theorem dX9_takesBits_21 : decode cX9_takesBits 21 = .ok (.lxor, 1) := by decide +kernel
theorem dX9_takesBits_22 : decode cX9_takesBits 22 = .ok (.lstore 6, 2) := by decide +kernel
theorem dX9_takesBits_24 : decode cX9_takesBits 24 = .ok (.aload_n 0, 1) := by decide +kernel
theorem dX9_takesBits_25 : decode cX9_takesBits 25 = .ok (.lload 6, 2) := by decide +kernel
theorem dX9_takesBits_27 : decode cX9_takesBits 27 = .ok (.invokevirtual 162, 3) := by decide +kernel
theorem dX9_takesBits_30 : decode cX9_takesBits 30 = .ok (.istore 8, 2) := by decide +kernel
theorem dX9_takesBits_32 : decode cX9_takesBits 32 = .ok (.iload 5, 2) := by decide +kernel
theorem dX9_takesBits_34 : decode cX9_takesBits 34 = .ok (.invokestatic 165, 3) := by decide +kernel
theorem dX9_takesBits_37 : decode cX9_takesBits 37 = .ok (.iload 5, 2) := by decide +kernel
theorem dX9_takesBits_39 : decode cX9_takesBits 39 = .ok (.invokestatic 169, 3) := by decide +kernel
theorem dX9_takesBits_42 : decode cX9_takesBits 42 = .ok (.iadd, 1) := by decide +kernel
theorem dX9_takesBits_43 : decode cX9_takesBits 43 = .ok (.iload 8, 2) := by decide +kernel
theorem dX9_takesBits_45 : decode cX9_takesBits 45 = .ok (.iconst 5, 1) := by decide +kernel
theorem dX9_takesBits_46 : decode cX9_takesBits 46 = .ok (.if_icmp .ne 7, 3) := by decide +kernel
theorem dX9_takesBits_49 : decode cX9_takesBits 49 = .ok (.iconst 1, 1) := by decide +kernel
theorem dX9_takesBits_50 : decode cX9_takesBits 50 = .ok (.goto 33, 3) := by decide +kernel
theorem dX9_takesBits_53 : decode cX9_takesBits 53 = .ok (.iload 8, 2) := by decide +kernel
theorem dX9_takesBits_55 : decode cX9_takesBits 55 = .ok (.bipush 6, 2) := by decide +kernel
theorem dX9_takesBits_57 : decode cX9_takesBits 57 = .ok (.if_icmp .ne 18, 3) := by decide +kernel
theorem dX9_takesBits_60 : decode cX9_takesBits 60 = .ok (.bipush 66, 2) := by decide +kernel
theorem dX9_takesBits_62 : decode cX9_takesBits 62 = .ok (.aload_n 0, 1) := by decide +kernel
theorem dX9_takesBits_63 : decode cX9_takesBits 63 = .ok (.getfield 134, 3) := by decide +kernel
theorem dX9_takesBits_66 : decode cX9_takesBits 66 = .ok (.isub, 1) := by decide +kernel
theorem dX9_takesBits_67 : decode cX9_takesBits 67 = .ok (.aload_n 0, 1) := by decide +kernel
theorem dX9_takesBits_68 : decode cX9_takesBits 68 = .ok (.getfield 138, 3) := by decide +kernel
theorem dX9_takesBits_71 : decode cX9_takesBits 71 = .ok (.isub, 1) := by decide +kernel
theorem dX9_takesBits_72 : decode cX9_takesBits 72 = .ok (.goto 11, 3) := by decide +kernel
theorem dX9_takesBits_75 : decode cX9_takesBits 75 = .ok (.bipush 13, 2) := by decide +kernel
theorem dX9_takesBits_77 : decode cX9_takesBits 77 = .ok (.lload 6, 2) := by decide +kernel
theorem dX9_takesBits_79 : decode cX9_takesBits 79 = .ok (.invokestatic 172, 3) := by decide +kernel
theorem dX9_takesBits_82 : decode cX9_takesBits 82 = .ok (.iadd, 1) := by decide +kernel
theorem dX9_takesBits_83 : decode cX9_takesBits 83 = .ok (.iadd, 1) := by decide +kernel
theorem dX9_takesBits_84 : decode cX9_takesBits 84 = .ok (.ireturn, 1) := by decide +kernel
theorem dX9_puts_0 : decode cX9_puts 0 = .ok (.iload 4, 2) := by decide +kernel
theorem dX9_puts_2 : decode cX9_puts 2 = .ok (.iconst 1, 1) := by decide +kernel
theorem dX9_puts_3 : decode cX9_puts 3 = .ok (.isub, 1) := by decide +kernel
theorem dX9_puts_4 : decode cX9_puts 4 = .ok (.istore 5, 2) := by decide +kernel
theorem dX9_puts_6 : decode cX9_puts 6 = .ok (.iload 5, 2) := by decide +kernel
theorem dX9_puts_8 : decode cX9_puts 8 = .ok (.ifCond .lt 83, 3) := by decide +kernel
theorem dX9_puts_11 : decode cX9_puts 11 = .ok (.sipush 200, 3) := by decide +kernel
theorem dX9_puts_14 : decode cX9_puts 14 = .ok (.iload_n 1, 1) := by decide +kernel
theorem dX9_puts_15 : decode cX9_puts 15 = .ok (.imul, 1) := by decide +kernel
theorem dX9_puts_16 : decode cX9_puts 16 = .ok (.bipush 14, 2) := by decide +kernel
theorem dX9_puts_18 : decode cX9_puts 18 = .ok (.iadd, 1) := by decide +kernel
theorem dX9_puts_19 : decode cX9_puts 19 = .ok (.aload_n 0, 1) := by decide +kernel
theorem dX9_puts_20 : decode cX9_puts 20 = .ok (.getfield 175, 3) := by decide +kernel
theorem dX9_puts_23 : decode cX9_puts 23 = .ok (.bipush 8, 2) := by decide +kernel
theorem dX9_puts_25 : decode cX9_puts 25 = .ok (.idiv, 1) := by decide +kernel
theorem dX9_puts_26 : decode cX9_puts 26 = .ok (.iadd, 1) := by decide +kernel
theorem dX9_puts_27 : decode cX9_puts 27 = .ok (.istore 6, 2) := by decide +kernel
theorem dX9_puts_29 : decode cX9_puts 29 = .ok (.aload_n 0, 1) := by decide +kernel
theorem dX9_puts_30 : decode cX9_puts 30 = .ok (.getfield 175, 3) := by decide +kernel
theorem dX9_puts_33 : decode cX9_puts 33 = .ok (.bipush 8, 2) := by decide +kernel
theorem dX9_puts_35 : decode cX9_puts 35 = .ok (.irem, 1) := by decide +kernel
theorem dX9_puts_36 : decode cX9_puts 36 = .ok (.ifCond .ne 11, 3) := by decide +kernel
theorem dX9_puts_39 : decode cX9_puts 39 = .ok (.aload_n 0, 1) := by decide +kernel
theorem dX9_puts_40 : decode cX9_puts 40 = .ok (.getfield 19, 3) := by decide +kernel
theorem dX9_puts_43 : decode cX9_puts 43 = .ok (.iload 6, 2) := by decide +kernel
theorem dX9_puts_45 : decode cX9_puts 45 = .ok (.iconst 0, 1) := by decide +kernel
theorem dX9_puts_46 : decode cX9_puts 46 = .ok (.iastore, 1) := by decide +kernel
theorem dX9_puts_47 : decode cX9_puts 47 = .ok (.aload_n 0, 1) := by decide +kernel
theorem dX9_puts_48 : decode cX9_puts 48 = .ok (.getfield 19, 3) := by decide +kernel
theorem dX9_puts_51 : decode cX9_puts 51 = .ok (.iload 6, 2) := by decide +kernel
theorem dX9_puts_53 : decode cX9_puts 53 = .ok (.dup2, 1) := by decide +kernel
theorem dX9_puts_54 : decode cX9_puts 54 = .ok (.iaload, 1) := by decide +kernel
theorem dX9_puts_55 : decode cX9_puts 55 = .ok (.lload_n 2, 1) := by decide +kernel
theorem dX9_puts_56 : decode cX9_puts 56 = .ok (.iload 5, 2) := by decide +kernel
theorem dX9_puts_58 : decode cX9_puts 58 = .ok (.lshr, 1) := by decide +kernel
theorem dX9_puts_59 : decode cX9_puts 59 = .ok (.lconst 1, 1) := by decide +kernel
theorem dX9_puts_60 : decode cX9_puts 60 = .ok (.land, 1) := by decide +kernel
theorem dX9_puts_61 : decode cX9_puts 61 = .ok (.l2i, 1) := by decide +kernel
theorem dX9_puts_62 : decode cX9_puts 62 = .ok (.bipush 7, 2) := by decide +kernel
theorem dX9_puts_64 : decode cX9_puts 64 = .ok (.aload_n 0, 1) := by decide +kernel
theorem dX9_puts_65 : decode cX9_puts 65 = .ok (.getfield 175, 3) := by decide +kernel
theorem dX9_puts_68 : decode cX9_puts 68 = .ok (.bipush 8, 2) := by decide +kernel
theorem dX9_puts_70 : decode cX9_puts 70 = .ok (.irem, 1) := by decide +kernel
theorem dX9_puts_71 : decode cX9_puts 71 = .ok (.isub, 1) := by decide +kernel
theorem dX9_puts_72 : decode cX9_puts 72 = .ok (.ishl, 1) := by decide +kernel
theorem dX9_puts_73 : decode cX9_puts 73 = .ok (.ior, 1) := by decide +kernel
theorem dX9_puts_74 : decode cX9_puts 74 = .ok (.iastore, 1) := by decide +kernel
theorem dX9_puts_75 : decode cX9_puts 75 = .ok (.aload_n 0, 1) := by decide +kernel
theorem dX9_puts_76 : decode cX9_puts 76 = .ok (.dup, 1) := by decide +kernel
theorem dX9_puts_77 : decode cX9_puts 77 = .ok (.getfield 175, 3) := by decide +kernel
theorem dX9_puts_80 : decode cX9_puts 80 = .ok (.iconst 1, 1) := by decide +kernel
theorem dX9_puts_81 : decode cX9_puts 81 = .ok (.iadd, 1) := by decide +kernel
theorem dX9_puts_82 : decode cX9_puts 82 = .ok (.putfield 175, 3) := by decide +kernel
theorem dX9_puts_85 : decode cX9_puts 85 = .ok (.iinc 5 (-1), 3) := by decide +kernel
theorem dX9_puts_88 : decode cX9_puts 88 = .ok (.goto (-82), 3) := by decide +kernel
theorem dX9_puts_91 : decode cX9_puts 91 = .ok (.return_, 1) := by decide +kernel
theorem dX9_writes_0 : decode cX9_writes 0 = .ok (.lload_n 2, 1) := by decide +kernel
theorem dX9_writes_1 : decode cX9_writes 1 = .ok (.aload_n 0, 1) := by decide +kernel
theorem dX9_writes_2 : decode cX9_writes 2 = .ok (.getfield 149, 3) := by decide +kernel
theorem dX9_writes_5 : decode cX9_writes 5 = .ok (.lsub, 1) := by decide +kernel
theorem dX9_writes_6 : decode cX9_writes 6 = .ok (.aload_n 0, 1) := by decide +kernel
theorem dX9_writes_7 : decode cX9_writes 7 = .ok (.getfield 153, 3) := by decide +kernel
theorem dX9_writes_10 : decode cX9_writes 10 = .ok (.lsub, 1) := by decide +kernel
theorem dX9_writes_11 : decode cX9_writes 11 = .ok (.lstore 6, 2) := by decide +kernel
theorem dX9_writes_13 : decode cX9_writes 13 = .ok (.lload 6, 2) := by decide +kernel
theorem dX9_writes_15 : decode cX9_writes 15 = .ok (.invokestatic 156, 3) := by decide +kernel
theorem dX9_writes_18 : decode cX9_writes 18 = .ok (.istore 8, 2) := by decide +kernel
theorem dX9_writes_20 : decode cX9_writes 20 = .ok (.aload_n 0, 1) := by decide +kernel
theorem dX9_writes_21 : decode cX9_writes 21 = .ok (.iload_n 1, 1) := by decide +kernel
theorem dX9_writes_22 : decode cX9_writes 22 = .ok (.iload 8, 2) := by decide +kernel
theorem dX9_writes_24 : decode cX9_writes 24 = .ok (.ifCond .ne 7, 3) := by decide +kernel
theorem dX9_writes_27 : decode cX9_writes 27 = .ok (.lconst 0, 1) := by decide +kernel
theorem dX9_writes_28 : decode cX9_writes 28 = .ok (.goto 42, 3) := by decide +kernel
theorem dX9_writes_31 : decode cX9_writes 31 = .ok (.iload 8, 2) := by decide +kernel
theorem dX9_writes_33 : decode cX9_writes 33 = .ok (.iconst 1, 1) := by decide +kernel
theorem dX9_writes_34 : decode cX9_writes 34 = .ok (.if_icmp .ne 9, 3) := by decide +kernel
theorem dX9_writes_37 : decode cX9_writes 37 = .ok (.ldc2_w 178, 3) := by decide +kernel
theorem dX9_writes_40 : decode cX9_writes 40 = .ok (.goto 30, 3) := by decide +kernel
theorem dX9_writes_43 : decode cX9_writes 43 = .ok (.iload 8, 2) := by decide +kernel
theorem dX9_writes_45 : decode cX9_writes 45 = .ok (.iconst 2, 1) := by decide +kernel
theorem dX9_writes_46 : decode cX9_writes 46 = .ok (.if_icmp .ne 9, 3) := by decide +kernel
theorem dX9_writes_49 : decode cX9_writes 49 = .ok (.ldc2_w 180, 3) := by decide +kernel
theorem dX9_writes_52 : decode cX9_writes 52 = .ok (.goto 18, 3) := by decide +kernel
theorem dX9_writes_55 : decode cX9_writes 55 = .ok (.iload 8, 2) := by decide +kernel
theorem dX9_writes_57 : decode cX9_writes 57 = .ok (.iconst 3, 1) := by decide +kernel
theorem dX9_writes_58 : decode cX9_writes 58 = .ok (.if_icmp .ne 9, 3) := by decide +kernel
theorem dX9_writes_61 : decode cX9_writes 61 = .ok (.ldc2_w 182, 3) := by decide +kernel
theorem dX9_writes_64 : decode cX9_writes 64 = .ok (.goto 6, 3) := by decide +kernel
theorem dX9_writes_67 : decode cX9_writes 67 = .ok (.ldc2_w 184, 3) := by decide +kernel
theorem dX9_writes_70 : decode cX9_writes 70 = .ok (.iload 8, 2) := by decide +kernel
theorem dX9_writes_72 : decode cX9_writes 72 = .ok (.invokestatic 165, 3) := by decide +kernel
theorem dX9_writes_75 : decode cX9_writes 75 = .ok (.invokevirtual 186, 3) := by decide +kernel
theorem dX9_writes_78 : decode cX9_writes 78 = .ok (.aload_n 0, 1) := by decide +kernel
theorem dX9_writes_79 : decode cX9_writes 79 = .ok (.iload_n 1, 1) := by decide +kernel
theorem dX9_writes_80 : decode cX9_writes 80 = .ok (.lload 6, 2) := by decide +kernel
theorem dX9_writes_82 : decode cX9_writes 82 = .ok (.iload 8, 2) := by decide +kernel
theorem dX9_writes_84 : decode cX9_writes 84 = .ok (.invokestatic 169, 3) := by decide +kernel
theorem dX9_writes_87 : decode cX9_writes 87 = .ok (.invokevirtual 186, 3) := by decide +kernel
theorem dX9_writes_90 : decode cX9_writes 90 = .ok (.lload 4, 2) := by decide +kernel
theorem dX9_writes_92 : decode cX9_writes 92 = .ok (.aload_n 0, 1) := by decide +kernel
theorem dX9_writes_93 : decode cX9_writes 93 = .ok (.getfield 159, 3) := by decide +kernel
theorem dX9_writes_96 : decode cX9_writes 96 = .ok (.lxor, 1) := by decide +kernel
theorem dX9_writes_97 : decode cX9_writes 97 = .ok (.lstore 9, 2) := by decide +kernel
theorem dX9_writes_99 : decode cX9_writes 99 = .ok (.aload_n 0, 1) := by decide +kernel
theorem dX9_writes_100 : decode cX9_writes 100 = .ok (.lload 9, 2) := by decide +kernel
theorem dX9_writes_102 : decode cX9_writes 102 = .ok (.invokevirtual 162, 3) := by decide +kernel
theorem dX9_writes_105 : decode cX9_writes 105 = .ok (.istore 11, 2) := by decide +kernel
theorem dX9_writes_107 : decode cX9_writes 107 = .ok (.iload 11, 2) := by decide +kernel
theorem dX9_writes_109 : decode cX9_writes 109 = .ok (.iconst 5, 1) := by decide +kernel
theorem dX9_writes_110 : decode cX9_writes 110 = .ok (.if_icmp .ne 13, 3) := by decide +kernel
theorem dX9_writes_113 : decode cX9_writes 113 = .ok (.aload_n 0, 1) := by decide +kernel
theorem dX9_writes_114 : decode cX9_writes 114 = .ok (.iload_n 1, 1) := by decide +kernel
theorem dX9_writes_115 : decode cX9_writes 115 = .ok (.lconst 0, 1) := by decide +kernel
theorem dX9_writes_116 : decode cX9_writes 116 = .ok (.iconst 1, 1) := by decide +kernel
theorem dX9_writes_117 : decode cX9_writes 117 = .ok (.invokevirtual 186, 3) := by decide +kernel
theorem dX9_writes_120 : decode cX9_writes 120 = .ok (.goto 121, 3) := by decide +kernel
theorem dX9_writes_123 : decode cX9_writes 123 = .ok (.iload 11, 2) := by decide +kernel
theorem dX9_writes_125 : decode cX9_writes 125 = .ok (.bipush 6, 2) := by decide +kernel
theorem dX9_writes_127 : decode cX9_writes 127 = .ok (.if_icmp .ne 39, 3) := by decide +kernel
theorem dX9_writes_130 : decode cX9_writes 130 = .ok (.aload_n 0, 1) := by decide +kernel
theorem dX9_writes_131 : decode cX9_writes 131 = .ok (.iload_n 1, 1) := by decide +kernel
theorem dX9_writes_132 : decode cX9_writes 132 = .ok (.ldc2_w 178, 3) := by decide +kernel
theorem dX9_writes_135 : decode cX9_writes 135 = .ok (.iconst 2, 1) := by decide +kernel
theorem dX9_writes_136 : decode cX9_writes 136 = .ok (.invokevirtual 186, 3) := by decide +kernel
theorem dX9_writes_139 : decode cX9_writes 139 = .ok (.aload_n 0, 1) := by decide +kernel
theorem dX9_writes_140 : decode cX9_writes 140 = .ok (.iload_n 1, 1) := by decide +kernel
theorem dX9_writes_141 : decode cX9_writes 141 = .ok (.lload 9, 2) := by decide +kernel
theorem dX9_writes_143 : decode cX9_writes 143 = .ok (.aload_n 0, 1) := by decide +kernel
theorem dX9_writes_144 : decode cX9_writes 144 = .ok (.getfield 138, 3) := by decide +kernel
theorem dX9_writes_147 : decode cX9_writes 147 = .ok (.lushr, 1) := by decide +kernel
theorem dX9_writes_148 : decode cX9_writes 148 = .ok (.bipush 64, 2) := by decide +kernel
theorem dX9_writes_150 : decode cX9_writes 150 = .ok (.aload_n 0, 1) := by decide +kernel
theorem dX9_writes_151 : decode cX9_writes 151 = .ok (.getfield 134, 3) := by decide +kernel
theorem dX9_writes_154 : decode cX9_writes 154 = .ok (.isub, 1) := by decide +kernel
theorem dX9_writes_155 : decode cX9_writes 155 = .ok (.aload_n 0, 1) := by decide +kernel
theorem dX9_writes_156 : decode cX9_writes 156 = .ok (.getfield 138, 3) := by decide +kernel
theorem dX9_writes_159 : decode cX9_writes 159 = .ok (.isub, 1) := by decide +kernel
theorem dX9_writes_160 : decode cX9_writes 160 = .ok (.invokevirtual 186, 3) := by decide +kernel
theorem dX9_writes_163 : decode cX9_writes 163 = .ok (.goto 78, 3) := by decide +kernel
theorem dX9_writes_166 : decode cX9_writes 166 = .ok (.aload_n 0, 1) := by decide +kernel
theorem dX9_writes_167 : decode cX9_writes 167 = .ok (.iload_n 1, 1) := by decide +kernel
theorem dX9_writes_168 : decode cX9_writes 168 = .ok (.ldc2_w 81, 3) := by decide +kernel
theorem dX9_writes_171 : decode cX9_writes 171 = .ok (.iconst 2, 1) := by decide +kernel
theorem dX9_writes_172 : decode cX9_writes 172 = .ok (.invokevirtual 186, 3) := by decide +kernel
theorem dX9_writes_175 : decode cX9_writes 175 = .ok (.aload_n 0, 1) := by decide +kernel
theorem dX9_writes_176 : decode cX9_writes 176 = .ok (.lload 9, 2) := by decide +kernel
theorem dX9_writes_178 : decode cX9_writes 178 = .ok (.invokestatic 146, 3) := by decide +kernel
theorem dX9_writes_181 : decode cX9_writes 181 = .ok (.putfield 134, 3) := by decide +kernel
theorem dX9_writes_184 : decode cX9_writes 184 = .ok (.aload_n 0, 1) := by decide +kernel
theorem dX9_writes_185 : decode cX9_writes 185 = .ok (.lload 9, 2) := by decide +kernel
theorem dX9_writes_187 : decode cX9_writes 187 = .ok (.invokestatic 127, 3) := by decide +kernel
theorem dX9_writes_190 : decode cX9_writes 190 = .ok (.putfield 138, 3) := by decide +kernel
theorem dX9_writes_193 : decode cX9_writes 193 = .ok (.aload_n 0, 1) := by decide +kernel
theorem dX9_writes_194 : decode cX9_writes 194 = .ok (.iconst 1, 1) := by decide +kernel
theorem dX9_writes_195 : decode cX9_writes 195 = .ok (.putfield 130, 3) := by decide +kernel
theorem dX9_writes_198 : decode cX9_writes 198 = .ok (.aload_n 0, 1) := by decide +kernel
theorem dX9_writes_199 : decode cX9_writes 199 = .ok (.iload_n 1, 1) := by decide +kernel
theorem dX9_writes_200 : decode cX9_writes 200 = .ok (.aload_n 0, 1) := by decide +kernel
theorem dX9_writes_201 : decode cX9_writes 201 = .ok (.getfield 134, 3) := by decide +kernel
theorem dX9_writes_204 : decode cX9_writes 204 = .ok (.i2l, 1) := by decide +kernel
theorem dX9_writes_205 : decode cX9_writes 205 = .ok (.iconst 5, 1) := by decide +kernel
theorem dX9_writes_206 : decode cX9_writes 206 = .ok (.invokevirtual 186, 3) := by decide +kernel
theorem dX9_writes_209 : decode cX9_writes 209 = .ok (.aload_n 0, 1) := by decide +kernel
theorem dX9_writes_210 : decode cX9_writes 210 = .ok (.iload_n 1, 1) := by decide +kernel
theorem dX9_writes_211 : decode cX9_writes 211 = .ok (.lload 9, 2) := by decide +kernel
theorem dX9_writes_213 : decode cX9_writes 213 = .ok (.invokestatic 172, 3) := by decide +kernel
theorem dX9_writes_216 : decode cX9_writes 216 = .ok (.iconst 1, 1) := by decide +kernel
theorem dX9_writes_217 : decode cX9_writes 217 = .ok (.isub, 1) := by decide +kernel
theorem dX9_writes_218 : decode cX9_writes 218 = .ok (.i2l, 1) := by decide +kernel
theorem dX9_writes_219 : decode cX9_writes 219 = .ok (.bipush 6, 2) := by decide +kernel
theorem dX9_writes_221 : decode cX9_writes 221 = .ok (.invokevirtual 186, 3) := by decide +kernel
theorem dX9_writes_224 : decode cX9_writes 224 = .ok (.aload_n 0, 1) := by decide +kernel
theorem dX9_writes_225 : decode cX9_writes 225 = .ok (.iload_n 1, 1) := by decide +kernel
theorem dX9_writes_226 : decode cX9_writes 226 = .ok (.lload 9, 2) := by decide +kernel
theorem dX9_writes_228 : decode cX9_writes 228 = .ok (.aload_n 0, 1) := by decide +kernel
theorem dX9_writes_229 : decode cX9_writes 229 = .ok (.getfield 138, 3) := by decide +kernel
theorem dX9_writes_232 : decode cX9_writes 232 = .ok (.lushr, 1) := by decide +kernel
theorem dX9_writes_233 : decode cX9_writes 233 = .ok (.lload 9, 2) := by decide +kernel
theorem dX9_writes_235 : decode cX9_writes 235 = .ok (.invokestatic 172, 3) := by decide +kernel
theorem dX9_writes_238 : decode cX9_writes 238 = .ok (.invokevirtual 186, 3) := by decide +kernel
theorem dX9_writes_241 : decode cX9_writes 241 = .ok (.aload_n 0, 1) := by decide +kernel
theorem dX9_writes_242 : decode cX9_writes 242 = .ok (.lload_n 2, 1) := by decide +kernel
theorem dX9_writes_243 : decode cX9_writes 243 = .ok (.aload_n 0, 1) := by decide +kernel
theorem dX9_writes_244 : decode cX9_writes 244 = .ok (.getfield 149, 3) := by decide +kernel
theorem dX9_writes_247 : decode cX9_writes 247 = .ok (.lsub, 1) := by decide +kernel
theorem dX9_writes_248 : decode cX9_writes 248 = .ok (.putfield 153, 3) := by decide +kernel
theorem dX9_writes_251 : decode cX9_writes 251 = .ok (.aload_n 0, 1) := by decide +kernel
theorem dX9_writes_252 : decode cX9_writes 252 = .ok (.lload_n 2, 1) := by decide +kernel
theorem dX9_writes_253 : decode cX9_writes 253 = .ok (.putfield 149, 3) := by decide +kernel
theorem dX9_writes_256 : decode cX9_writes 256 = .ok (.aload_n 0, 1) := by decide +kernel
theorem dX9_writes_257 : decode cX9_writes 257 = .ok (.lload 4, 2) := by decide +kernel
theorem dX9_writes_259 : decode cX9_writes 259 = .ok (.putfield 159, 3) := by decide +kernel
theorem dX9_writes_262 : decode cX9_writes 262 = .ok (.aload_n 0, 1) := by decide +kernel
theorem dX9_writes_263 : decode cX9_writes 263 = .ok (.iload_n 1, 1) := by decide +kernel
theorem dX9_writes_264 : decode cX9_writes 264 = .ok (.bipush 12, 2) := by decide +kernel
theorem dX9_writes_266 : decode cX9_writes 266 = .ok (.invokevirtual 107, 3) := by decide +kernel
theorem dX9_writes_269 : decode cX9_writes 269 = .ok (.sipush 256, 3) := by decide +kernel
theorem dX9_writes_272 : decode cX9_writes 272 = .ok (.imul, 1) := by decide +kernel
theorem dX9_writes_273 : decode cX9_writes 273 = .ok (.aload_n 0, 1) := by decide +kernel
theorem dX9_writes_274 : decode cX9_writes 274 = .ok (.iload_n 1, 1) := by decide +kernel
theorem dX9_writes_275 : decode cX9_writes 275 = .ok (.bipush 13, 2) := by decide +kernel
theorem dX9_writes_277 : decode cX9_writes 277 = .ok (.invokevirtual 107, 3) := by decide +kernel
theorem dX9_writes_280 : decode cX9_writes 280 = .ok (.iadd, 1) := by decide +kernel
theorem dX9_writes_281 : decode cX9_writes 281 = .ok (.iconst 1, 1) := by decide +kernel
theorem dX9_writes_282 : decode cX9_writes 282 = .ok (.iadd, 1) := by decide +kernel
theorem dX9_writes_283 : decode cX9_writes 283 = .ok (.istore 12, 2) := by decide +kernel
theorem dX9_writes_285 : decode cX9_writes 285 = .ok (.aload_n 0, 1) := by decide +kernel
theorem dX9_writes_286 : decode cX9_writes 286 = .ok (.getfield 19, 3) := by decide +kernel
theorem dX9_writes_289 : decode cX9_writes 289 = .ok (.sipush 200, 3) := by decide +kernel
theorem dX9_writes_292 : decode cX9_writes 292 = .ok (.iload_n 1, 1) := by decide +kernel
theorem dX9_writes_293 : decode cX9_writes 293 = .ok (.imul, 1) := by decide +kernel
theorem dX9_writes_294 : decode cX9_writes 294 = .ok (.bipush 12, 2) := by decide +kernel
theorem dX9_writes_296 : decode cX9_writes 296 = .ok (.iadd, 1) := by decide +kernel
theorem dX9_writes_297 : decode cX9_writes 297 = .ok (.iload 12, 2) := by decide +kernel
theorem dX9_writes_299 : decode cX9_writes 299 = .ok (.sipush 256, 3) := by decide +kernel
theorem dX9_writes_302 : decode cX9_writes 302 = .ok (.idiv, 1) := by decide +kernel
theorem dX9_writes_303 : decode cX9_writes 303 = .ok (.iastore, 1) := by decide +kernel
theorem dX9_writes_304 : decode cX9_writes 304 = .ok (.aload_n 0, 1) := by decide +kernel
theorem dX9_writes_305 : decode cX9_writes 305 = .ok (.getfield 19, 3) := by decide +kernel
theorem dX9_writes_308 : decode cX9_writes 308 = .ok (.sipush 200, 3) := by decide +kernel
theorem dX9_writes_311 : decode cX9_writes 311 = .ok (.iload_n 1, 1) := by decide +kernel
theorem dX9_writes_312 : decode cX9_writes 312 = .ok (.imul, 1) := by decide +kernel
theorem dX9_writes_313 : decode cX9_writes 313 = .ok (.bipush 13, 2) := by decide +kernel
theorem dX9_writes_315 : decode cX9_writes 315 = .ok (.iadd, 1) := by decide +kernel
theorem dX9_writes_316 : decode cX9_writes 316 = .ok (.iload 12, 2) := by decide +kernel
theorem dX9_writes_318 : decode cX9_writes 318 = .ok (.sipush 256, 3) := by decide +kernel
theorem dX9_writes_321 : decode cX9_writes 321 = .ok (.irem, 1) := by decide +kernel
theorem dX9_writes_322 : decode cX9_writes 322 = .ok (.iastore, 1) := by decide +kernel
theorem dX9_writes_323 : decode cX9_writes 323 = .ok (.aload_n 0, 1) := by decide +kernel
theorem dX9_writes_324 : decode cX9_writes 324 = .ok (.getfield 25, 3) := by decide +kernel
theorem dX9_writes_327 : decode cX9_writes 327 = .ok (.iload_n 1, 1) := by decide +kernel
theorem dX9_writes_328 : decode cX9_writes 328 = .ok (.aload_n 0, 1) := by decide +kernel
theorem dX9_writes_329 : decode cX9_writes 329 = .ok (.getfield 175, 3) := by decide +kernel
theorem dX9_writes_332 : decode cX9_writes 332 = .ok (.iastore, 1) := by decide +kernel
theorem dX9_writes_333 : decode cX9_writes 333 = .ok (.aload_n 0, 1) := by decide +kernel
theorem dX9_writes_334 : decode cX9_writes 334 = .ok (.getfield 22, 3) := by decide +kernel
theorem dX9_writes_337 : decode cX9_writes 337 = .ok (.iload_n 1, 1) := by decide +kernel
theorem dX9_writes_338 : decode cX9_writes 338 = .ok (.bipush 14, 2) := by decide +kernel
theorem dX9_writes_340 : decode cX9_writes 340 = .ok (.aload_n 0, 1) := by decide +kernel
theorem dX9_writes_341 : decode cX9_writes 341 = .ok (.getfield 175, 3) := by decide +kernel
theorem dX9_writes_344 : decode cX9_writes 344 = .ok (.bipush 7, 2) := by decide +kernel
theorem dX9_writes_346 : decode cX9_writes 346 = .ok (.iadd, 1) := by decide +kernel
theorem dX9_writes_347 : decode cX9_writes 347 = .ok (.bipush 8, 2) := by decide +kernel
theorem dX9_writes_349 : decode cX9_writes 349 = .ok (.idiv, 1) := by decide +kernel
theorem dX9_writes_350 : decode cX9_writes 350 = .ok (.iadd, 1) := by decide +kernel
theorem dX9_writes_351 : decode cX9_writes 351 = .ok (.iastore, 1) := by decide +kernel
theorem dX9_writes_352 : decode cX9_writes 352 = .ok (.return_, 1) := by decide +kernel
theorem dX9_writesHead_0 : decode cX9_writesHead 0 = .ok (.iconst 0, 1) := by decide +kernel
theorem dX9_writesHead_1 : decode cX9_writesHead 1 = .ok (.istore 6, 2) := by decide +kernel
theorem dX9_writesHead_3 : decode cX9_writesHead 3 = .ok (.iload 6, 2) := by decide +kernel
theorem dX9_writesHead_5 : decode cX9_writesHead 5 = .ok (.iconst 4, 1) := by decide +kernel
theorem dX9_writesHead_6 : decode cX9_writesHead 6 = .ok (.if_icmp .ge 37, 3) := by decide +kernel
theorem dX9_writesHead_9 : decode cX9_writesHead 9 = .ok (.aload_n 0, 1) := by decide +kernel
theorem dX9_writesHead_10 : decode cX9_writesHead 10 = .ok (.getfield 19, 3) := by decide +kernel
theorem dX9_writesHead_13 : decode cX9_writesHead 13 = .ok (.sipush 200, 3) := by decide +kernel
theorem dX9_writesHead_16 : decode cX9_writesHead 16 = .ok (.iload_n 1, 1) := by decide +kernel
theorem dX9_writesHead_17 : decode cX9_writesHead 17 = .ok (.imul, 1) := by decide +kernel
theorem dX9_writesHead_18 : decode cX9_writesHead 18 = .ok (.iload 6, 2) := by decide +kernel
theorem dX9_writesHead_20 : decode cX9_writesHead 20 = .ok (.iadd, 1) := by decide +kernel
theorem dX9_writesHead_21 : decode cX9_writesHead 21 = .ok (.lload_n 2, 1) := by decide +kernel
theorem dX9_writesHead_22 : decode cX9_writesHead 22 = .ok (.bipush 24, 2) := by decide +kernel
theorem dX9_writesHead_24 : decode cX9_writesHead 24 = .ok (.bipush 8, 2) := by decide +kernel
theorem dX9_writesHead_26 : decode cX9_writesHead 26 = .ok (.iload 6, 2) := by decide +kernel
theorem dX9_writesHead_28 : decode cX9_writesHead 28 = .ok (.imul, 1) := by decide +kernel
theorem dX9_writesHead_29 : decode cX9_writesHead 29 = .ok (.isub, 1) := by decide +kernel
theorem dX9_writesHead_30 : decode cX9_writesHead 30 = .ok (.lshr, 1) := by decide +kernel
theorem dX9_writesHead_31 : decode cX9_writesHead 31 = .ok (.ldc2_w 190, 3) := by decide +kernel
theorem dX9_writesHead_34 : decode cX9_writesHead 34 = .ok (.land, 1) := by decide +kernel
theorem dX9_writesHead_35 : decode cX9_writesHead 35 = .ok (.l2i, 1) := by decide +kernel
theorem dX9_writesHead_36 : decode cX9_writesHead 36 = .ok (.iastore, 1) := by decide +kernel
theorem dX9_writesHead_37 : decode cX9_writesHead 37 = .ok (.iinc 6 1, 3) := by decide +kernel
theorem dX9_writesHead_40 : decode cX9_writesHead 40 = .ok (.goto (-37), 3) := by decide +kernel
theorem dX9_writesHead_43 : decode cX9_writesHead 43 = .ok (.iconst 0, 1) := by decide +kernel
theorem dX9_writesHead_44 : decode cX9_writesHead 44 = .ok (.istore 6, 2) := by decide +kernel
theorem dX9_writesHead_46 : decode cX9_writesHead 46 = .ok (.iload 6, 2) := by decide +kernel
theorem dX9_writesHead_48 : decode cX9_writesHead 48 = .ok (.bipush 8, 2) := by decide +kernel
theorem dX9_writesHead_50 : decode cX9_writesHead 50 = .ok (.if_icmp .ge 40, 3) := by decide +kernel
theorem dX9_writesHead_53 : decode cX9_writesHead 53 = .ok (.aload_n 0, 1) := by decide +kernel
theorem dX9_writesHead_54 : decode cX9_writesHead 54 = .ok (.getfield 19, 3) := by decide +kernel
theorem dX9_writesHead_57 : decode cX9_writesHead 57 = .ok (.sipush 200, 3) := by decide +kernel
theorem dX9_writesHead_60 : decode cX9_writesHead 60 = .ok (.iload_n 1, 1) := by decide +kernel
theorem dX9_writesHead_61 : decode cX9_writesHead 61 = .ok (.imul, 1) := by decide +kernel
theorem dX9_writesHead_62 : decode cX9_writesHead 62 = .ok (.iconst 4, 1) := by decide +kernel
theorem dX9_writesHead_63 : decode cX9_writesHead 63 = .ok (.iadd, 1) := by decide +kernel
theorem dX9_writesHead_64 : decode cX9_writesHead 64 = .ok (.iload 6, 2) := by decide +kernel
theorem dX9_writesHead_66 : decode cX9_writesHead 66 = .ok (.iadd, 1) := by decide +kernel
theorem dX9_writesHead_67 : decode cX9_writesHead 67 = .ok (.lload 4, 2) := by decide +kernel
theorem dX9_writesHead_69 : decode cX9_writesHead 69 = .ok (.bipush 56, 2) := by decide +kernel
theorem dX9_writesHead_71 : decode cX9_writesHead 71 = .ok (.bipush 8, 2) := by decide +kernel
theorem dX9_writesHead_73 : decode cX9_writesHead 73 = .ok (.iload 6, 2) := by decide +kernel
theorem dX9_writesHead_75 : decode cX9_writesHead 75 = .ok (.imul, 1) := by decide +kernel
theorem dX9_writesHead_76 : decode cX9_writesHead 76 = .ok (.isub, 1) := by decide +kernel
theorem dX9_writesHead_77 : decode cX9_writesHead 77 = .ok (.lshr, 1) := by decide +kernel
theorem dX9_writesHead_78 : decode cX9_writesHead 78 = .ok (.ldc2_w 190, 3) := by decide +kernel
theorem dX9_writesHead_81 : decode cX9_writesHead 81 = .ok (.land, 1) := by decide +kernel
theorem dX9_writesHead_82 : decode cX9_writesHead 82 = .ok (.l2i, 1) := by decide +kernel
theorem dX9_writesHead_83 : decode cX9_writesHead 83 = .ok (.iastore, 1) := by decide +kernel
theorem dX9_writesHead_84 : decode cX9_writesHead 84 = .ok (.iinc 6 1, 3) := by decide +kernel
theorem dX9_writesHead_87 : decode cX9_writesHead 87 = .ok (.goto (-41), 3) := by decide +kernel
theorem dX9_writesHead_90 : decode cX9_writesHead 90 = .ok (.aload_n 0, 1) := by decide +kernel
theorem dX9_writesHead_91 : decode cX9_writesHead 91 = .ok (.getfield 19, 3) := by decide +kernel
theorem dX9_writesHead_94 : decode cX9_writesHead 94 = .ok (.sipush 200, 3) := by decide +kernel
theorem dX9_writesHead_97 : decode cX9_writesHead 97 = .ok (.iload_n 1, 1) := by decide +kernel
theorem dX9_writesHead_98 : decode cX9_writesHead 98 = .ok (.imul, 1) := by decide +kernel
theorem dX9_writesHead_99 : decode cX9_writesHead 99 = .ok (.bipush 12, 2) := by decide +kernel
theorem dX9_writesHead_101 : decode cX9_writesHead 101 = .ok (.iadd, 1) := by decide +kernel
theorem dX9_writesHead_102 : decode cX9_writesHead 102 = .ok (.iconst 0, 1) := by decide +kernel
theorem dX9_writesHead_103 : decode cX9_writesHead 103 = .ok (.iastore, 1) := by decide +kernel
theorem dX9_writesHead_104 : decode cX9_writesHead 104 = .ok (.aload_n 0, 1) := by decide +kernel
theorem dX9_writesHead_105 : decode cX9_writesHead 105 = .ok (.getfield 19, 3) := by decide +kernel
theorem dX9_writesHead_108 : decode cX9_writesHead 108 = .ok (.sipush 200, 3) := by decide +kernel
theorem dX9_writesHead_111 : decode cX9_writesHead 111 = .ok (.iload_n 1, 1) := by decide +kernel
theorem dX9_writesHead_112 : decode cX9_writesHead 112 = .ok (.imul, 1) := by decide +kernel
theorem dX9_writesHead_113 : decode cX9_writesHead 113 = .ok (.bipush 13, 2) := by decide +kernel
theorem dX9_writesHead_115 : decode cX9_writesHead 115 = .ok (.iadd, 1) := by decide +kernel
theorem dX9_writesHead_116 : decode cX9_writesHead 116 = .ok (.iconst 1, 1) := by decide +kernel
theorem dX9_writesHead_117 : decode cX9_writesHead 117 = .ok (.iastore, 1) := by decide +kernel
theorem dX9_writesHead_118 : decode cX9_writesHead 118 = .ok (.aload_n 0, 1) := by decide +kernel
theorem dX9_writesHead_119 : decode cX9_writesHead 119 = .ok (.getfield 25, 3) := by decide +kernel
theorem dX9_writesHead_122 : decode cX9_writesHead 122 = .ok (.iload_n 1, 1) := by decide +kernel
theorem dX9_writesHead_123 : decode cX9_writesHead 123 = .ok (.iconst 0, 1) := by decide +kernel
theorem dX9_writesHead_124 : decode cX9_writesHead 124 = .ok (.iastore, 1) := by decide +kernel
theorem dX9_writesHead_125 : decode cX9_writesHead 125 = .ok (.aload_n 0, 1) := by decide +kernel
theorem dX9_writesHead_126 : decode cX9_writesHead 126 = .ok (.getfield 22, 3) := by decide +kernel
theorem dX9_writesHead_129 : decode cX9_writesHead 129 = .ok (.iload_n 1, 1) := by decide +kernel
theorem dX9_writesHead_130 : decode cX9_writesHead 130 = .ok (.bipush 14, 2) := by decide +kernel
theorem dX9_writesHead_132 : decode cX9_writesHead 132 = .ok (.iastore, 1) := by decide +kernel
theorem dX9_writesHead_133 : decode cX9_writesHead 133 = .ok (.aload_n 0, 1) := by decide +kernel
theorem dX9_writesHead_134 : decode cX9_writesHead 134 = .ok (.getfield 28, 3) := by decide +kernel
theorem dX9_writesHead_137 : decode cX9_writesHead 137 = .ok (.iload_n 1, 1) := by decide +kernel
theorem dX9_writesHead_138 : decode cX9_writesHead 138 = .ok (.iconst 0, 1) := by decide +kernel
theorem dX9_writesHead_139 : decode cX9_writesHead 139 = .ok (.bastore, 1) := by decide +kernel
theorem dX9_writesHead_140 : decode cX9_writesHead 140 = .ok (.aload_n 0, 1) := by decide +kernel
theorem dX9_writesHead_141 : decode cX9_writesHead 141 = .ok (.lload_n 2, 1) := by decide +kernel
theorem dX9_writesHead_142 : decode cX9_writesHead 142 = .ok (.lload 4, 2) := by decide +kernel
theorem dX9_writesHead_144 : decode cX9_writesHead 144 = .ok (.invokevirtual 192, 3) := by decide +kernel
theorem dX9_writesHead_147 : decode cX9_writesHead 147 = .ok (.return_, 1) := by decide +kernel
theorem dX9_heads_0 : decode cX9_heads 0 = .ok (.aload_n 0, 1) := by decide +kernel
theorem dX9_heads_1 : decode cX9_heads 1 = .ok (.lload_n 1, 1) := by decide +kernel
theorem dX9_heads_2 : decode cX9_heads 2 = .ok (.putfield 149, 3) := by decide +kernel
theorem dX9_heads_5 : decode cX9_heads 5 = .ok (.aload_n 0, 1) := by decide +kernel
theorem dX9_heads_6 : decode cX9_heads 6 = .ok (.lconst 0, 1) := by decide +kernel
theorem dX9_heads_7 : decode cX9_heads 7 = .ok (.putfield 153, 3) := by decide +kernel
theorem dX9_heads_10 : decode cX9_heads 10 = .ok (.aload_n 0, 1) := by decide +kernel
theorem dX9_heads_11 : decode cX9_heads 11 = .ok (.lload_n 3, 1) := by decide +kernel
theorem dX9_heads_12 : decode cX9_heads 12 = .ok (.putfield 159, 3) := by decide +kernel
theorem dX9_heads_15 : decode cX9_heads 15 = .ok (.aload_n 0, 1) := by decide +kernel
theorem dX9_heads_16 : decode cX9_heads 16 = .ok (.iconst 0, 1) := by decide +kernel
theorem dX9_heads_17 : decode cX9_heads 17 = .ok (.putfield 130, 3) := by decide +kernel
theorem dX9_heads_20 : decode cX9_heads 20 = .ok (.aload_n 0, 1) := by decide +kernel
theorem dX9_heads_21 : decode cX9_heads 21 = .ok (.iconst 0, 1) := by decide +kernel
theorem dX9_heads_22 : decode cX9_heads 22 = .ok (.putfield 134, 3) := by decide +kernel
theorem dX9_heads_25 : decode cX9_heads 25 = .ok (.aload_n 0, 1) := by decide +kernel
theorem dX9_heads_26 : decode cX9_heads 26 = .ok (.iconst 0, 1) := by decide +kernel
theorem dX9_heads_27 : decode cX9_heads 27 = .ok (.putfield 138, 3) := by decide +kernel
theorem dX9_heads_30 : decode cX9_heads 30 = .ok (.aload_n 0, 1) := by decide +kernel
theorem dX9_heads_31 : decode cX9_heads 31 = .ok (.iconst 0, 1) := by decide +kernel
theorem dX9_heads_32 : decode cX9_heads 32 = .ok (.putfield 175, 3) := by decide +kernel
theorem dX9_heads_35 : decode cX9_heads 35 = .ok (.return_, 1) := by decide +kernel
theorem dX9_checkOf_0 : decode cX9_checkOf 0 = .ok (.bipush 7, 2) := by decide +kernel
theorem dX9_checkOf_2 : decode cX9_checkOf 2 = .ok (.istore_n 3, 1) := by decide +kernel
theorem dX9_checkOf_3 : decode cX9_checkOf 3 = .ok (.iconst 0, 1) := by decide +kernel
theorem dX9_checkOf_4 : decode cX9_checkOf 4 = .ok (.istore 4, 2) := by decide +kernel
theorem dX9_checkOf_6 : decode cX9_checkOf 6 = .ok (.iload 4, 2) := by decide +kernel
theorem dX9_checkOf_8 : decode cX9_checkOf 8 = .ok (.iload_n 2, 1) := by decide +kernel
theorem dX9_checkOf_9 : decode cX9_checkOf 9 = .ok (.if_icmp .ge 26, 3) := by decide +kernel
theorem dX9_checkOf_12 : decode cX9_checkOf 12 = .ok (.bipush 31, 2) := by decide +kernel
theorem dX9_checkOf_14 : decode cX9_checkOf 14 = .ok (.iload_n 3, 1) := by decide +kernel
theorem dX9_checkOf_15 : decode cX9_checkOf 15 = .ok (.imul, 1) := by decide +kernel
theorem dX9_checkOf_16 : decode cX9_checkOf 16 = .ok (.aload_n 0, 1) := by decide +kernel
theorem dX9_checkOf_17 : decode cX9_checkOf 17 = .ok (.iload_n 1, 1) := by decide +kernel
theorem dX9_checkOf_18 : decode cX9_checkOf 18 = .ok (.iload 4, 2) := by decide +kernel
theorem dX9_checkOf_20 : decode cX9_checkOf 20 = .ok (.invokevirtual 107, 3) := by decide +kernel
theorem dX9_checkOf_23 : decode cX9_checkOf 23 = .ok (.iadd, 1) := by decide +kernel
theorem dX9_checkOf_24 : decode cX9_checkOf 24 = .ok (.sipush 251, 3) := by decide +kernel
theorem dX9_checkOf_27 : decode cX9_checkOf 27 = .ok (.irem, 1) := by decide +kernel
theorem dX9_checkOf_28 : decode cX9_checkOf 28 = .ok (.istore_n 3, 1) := by decide +kernel
theorem dX9_checkOf_29 : decode cX9_checkOf 29 = .ok (.iinc 4 1, 3) := by decide +kernel
theorem dX9_checkOf_32 : decode cX9_checkOf 32 = .ok (.goto (-26), 3) := by decide +kernel
theorem dX9_checkOf_35 : decode cX9_checkOf 35 = .ok (.iload_n 3, 1) := by decide +kernel
theorem dX9_checkOf_36 : decode cX9_checkOf 36 = .ok (.ireturn, 1) := by decide +kernel
theorem dX9_seals0_0 : decode cX9_seals0 0 = .ok (.aload_n 0, 1) := by decide +kernel
theorem dX9_seals0_1 : decode cX9_seals0 1 = .ok (.getfield 32, 3) := by decide +kernel
theorem dX9_seals0_4 : decode cX9_seals0 4 = .ok (.iload_n 1, 1) := by decide +kernel
theorem dX9_seals0_5 : decode cX9_seals0 5 = .ok (.aload_n 0, 1) := by decide +kernel
theorem dX9_seals0_6 : decode cX9_seals0 6 = .ok (.iload_n 1, 1) := by decide +kernel
theorem dX9_seals0_7 : decode cX9_seals0 7 = .ok (.invokevirtual 196, 3) := by decide +kernel
theorem dX9_seals0_10 : decode cX9_seals0 10 = .ok (.l2i, 1) := by decide +kernel
theorem dX9_seals0_11 : decode cX9_seals0 11 = .ok (.iastore, 1) := by decide +kernel
theorem dX9_seals0_12 : decode cX9_seals0 12 = .ok (.aload_n 0, 1) := by decide +kernel
theorem dX9_seals0_13 : decode cX9_seals0 13 = .ok (.getfield 35, 3) := by decide +kernel
theorem dX9_seals0_16 : decode cX9_seals0 16 = .ok (.iload_n 1, 1) := by decide +kernel
theorem dX9_seals0_17 : decode cX9_seals0 17 = .ok (.aload_n 0, 1) := by decide +kernel
theorem dX9_seals0_18 : decode cX9_seals0 18 = .ok (.getfield 149, 3) := by decide +kernel
theorem dX9_seals0_21 : decode cX9_seals0 21 = .ok (.l2i, 1) := by decide +kernel
theorem dX9_seals0_22 : decode cX9_seals0 22 = .ok (.iastore, 1) := by decide +kernel
theorem dX9_seals0_23 : decode cX9_seals0 23 = .ok (.aload_n 0, 1) := by decide +kernel
theorem dX9_seals0_24 : decode cX9_seals0 24 = .ok (.getfield 19, 3) := by decide +kernel
theorem dX9_seals0_27 : decode cX9_seals0 27 = .ok (.sipush 200, 3) := by decide +kernel
theorem dX9_seals0_30 : decode cX9_seals0 30 = .ok (.iload_n 1, 1) := by decide +kernel
theorem dX9_seals0_31 : decode cX9_seals0 31 = .ok (.imul, 1) := by decide +kernel
theorem dX9_seals0_32 : decode cX9_seals0 32 = .ok (.aload_n 0, 1) := by decide +kernel
theorem dX9_seals0_33 : decode cX9_seals0 33 = .ok (.getfield 22, 3) := by decide +kernel
theorem dX9_seals0_36 : decode cX9_seals0 36 = .ok (.iload_n 1, 1) := by decide +kernel
theorem dX9_seals0_37 : decode cX9_seals0 37 = .ok (.iaload, 1) := by decide +kernel
theorem dX9_seals0_38 : decode cX9_seals0 38 = .ok (.iadd, 1) := by decide +kernel
theorem dX9_seals0_39 : decode cX9_seals0 39 = .ok (.aload_n 0, 1) := by decide +kernel
theorem dX9_seals0_40 : decode cX9_seals0 40 = .ok (.iload_n 1, 1) := by decide +kernel
theorem dX9_seals0_41 : decode cX9_seals0 41 = .ok (.aload_n 0, 1) := by decide +kernel
theorem dX9_seals0_42 : decode cX9_seals0 42 = .ok (.getfield 22, 3) := by decide +kernel
theorem dX9_seals0_45 : decode cX9_seals0 45 = .ok (.iload_n 1, 1) := by decide +kernel
theorem dX9_seals0_46 : decode cX9_seals0 46 = .ok (.iaload, 1) := by decide +kernel
theorem dX9_seals0_47 : decode cX9_seals0 47 = .ok (.invokevirtual 200, 3) := by decide +kernel
theorem dX9_seals0_50 : decode cX9_seals0 50 = .ok (.iastore, 1) := by decide +kernel
theorem dX9_seals0_51 : decode cX9_seals0 51 = .ok (.aload_n 0, 1) := by decide +kernel
theorem dX9_seals0_52 : decode cX9_seals0 52 = .ok (.getfield 22, 3) := by decide +kernel
theorem dX9_seals0_55 : decode cX9_seals0 55 = .ok (.iload_n 1, 1) := by decide +kernel
theorem dX9_seals0_56 : decode cX9_seals0 56 = .ok (.dup2, 1) := by decide +kernel
theorem dX9_seals0_57 : decode cX9_seals0 57 = .ok (.iaload, 1) := by decide +kernel
theorem dX9_seals0_58 : decode cX9_seals0 58 = .ok (.iconst 1, 1) := by decide +kernel
theorem dX9_seals0_59 : decode cX9_seals0 59 = .ok (.iadd, 1) := by decide +kernel
theorem dX9_seals0_60 : decode cX9_seals0 60 = .ok (.iastore, 1) := by decide +kernel
theorem dX9_seals0_61 : decode cX9_seals0 61 = .ok (.aload_n 0, 1) := by decide +kernel
theorem dX9_seals0_62 : decode cX9_seals0 62 = .ok (.getfield 28, 3) := by decide +kernel
theorem dX9_seals0_65 : decode cX9_seals0 65 = .ok (.iload_n 1, 1) := by decide +kernel
theorem dX9_seals0_66 : decode cX9_seals0 66 = .ok (.iconst 1, 1) := by decide +kernel
theorem dX9_seals0_67 : decode cX9_seals0 67 = .ok (.bastore, 1) := by decide +kernel
theorem dX9_seals0_68 : decode cX9_seals0 68 = .ok (.return_, 1) := by decide +kernel
theorem dX9_headStamp_0 : decode cX9_headStamp 0 = .ok (.lconst 0, 1) := by decide +kernel
theorem dX9_headStamp_1 : decode cX9_headStamp 1 = .ok (.lstore_n 2, 1) := by decide +kernel
theorem dX9_headStamp_2 : decode cX9_headStamp 2 = .ok (.iconst 0, 1) := by decide +kernel
theorem dX9_headStamp_3 : decode cX9_headStamp 3 = .ok (.istore 4, 2) := by decide +kernel
theorem dX9_headStamp_5 : decode cX9_headStamp 5 = .ok (.iload 4, 2) := by decide +kernel
theorem dX9_headStamp_7 : decode cX9_headStamp 7 = .ok (.iconst 4, 1) := by decide +kernel
theorem dX9_headStamp_8 : decode cX9_headStamp 8 = .ok (.if_icmp .ge 23, 3) := by decide +kernel
theorem dX9_headStamp_11 : decode cX9_headStamp 11 = .ok (.lload_n 2, 1) := by decide +kernel
theorem dX9_headStamp_12 : decode cX9_headStamp 12 = .ok (.bipush 8, 2) := by decide +kernel
theorem dX9_headStamp_14 : decode cX9_headStamp 14 = .ok (.lshl, 1) := by decide +kernel
theorem dX9_headStamp_15 : decode cX9_headStamp 15 = .ok (.aload_n 0, 1) := by decide +kernel
theorem dX9_headStamp_16 : decode cX9_headStamp 16 = .ok (.iload_n 1, 1) := by decide +kernel
theorem dX9_headStamp_17 : decode cX9_headStamp 17 = .ok (.iload 4, 2) := by decide +kernel
theorem dX9_headStamp_19 : decode cX9_headStamp 19 = .ok (.invokevirtual 107, 3) := by decide +kernel
theorem dX9_headStamp_22 : decode cX9_headStamp 22 = .ok (.i2l, 1) := by decide +kernel
theorem dX9_headStamp_23 : decode cX9_headStamp 23 = .ok (.lor, 1) := by decide +kernel
theorem dX9_headStamp_24 : decode cX9_headStamp 24 = .ok (.lstore_n 2, 1) := by decide +kernel
theorem dX9_headStamp_25 : decode cX9_headStamp 25 = .ok (.iinc 4 1, 3) := by decide +kernel
theorem dX9_headStamp_28 : decode cX9_headStamp 28 = .ok (.goto (-23), 3) := by decide +kernel
theorem dX9_headStamp_31 : decode cX9_headStamp 31 = .ok (.lload_n 2, 1) := by decide +kernel
theorem dX9_headStamp_32 : decode cX9_headStamp 32 = .ok (.lreturn, 1) := by decide +kernel
theorem dX9_headBits_0 : decode cX9_headBits 0 = .ok (.lconst 0, 1) := by decide +kernel
theorem dX9_headBits_1 : decode cX9_headBits 1 = .ok (.lstore_n 2, 1) := by decide +kernel
theorem dX9_headBits_2 : decode cX9_headBits 2 = .ok (.iconst 4, 1) := by decide +kernel
theorem dX9_headBits_3 : decode cX9_headBits 3 = .ok (.istore 4, 2) := by decide +kernel
theorem dX9_headBits_5 : decode cX9_headBits 5 = .ok (.iload 4, 2) := by decide +kernel
theorem dX9_headBits_7 : decode cX9_headBits 7 = .ok (.bipush 12, 2) := by decide +kernel
theorem dX9_headBits_9 : decode cX9_headBits 9 = .ok (.if_icmp .ge 23, 3) := by decide +kernel
theorem dX9_headBits_12 : decode cX9_headBits 12 = .ok (.lload_n 2, 1) := by decide +kernel
theorem dX9_headBits_13 : decode cX9_headBits 13 = .ok (.bipush 8, 2) := by decide +kernel
theorem dX9_headBits_15 : decode cX9_headBits 15 = .ok (.lshl, 1) := by decide +kernel
theorem dX9_headBits_16 : decode cX9_headBits 16 = .ok (.aload_n 0, 1) := by decide +kernel
theorem dX9_headBits_17 : decode cX9_headBits 17 = .ok (.iload_n 1, 1) := by decide +kernel
theorem dX9_headBits_18 : decode cX9_headBits 18 = .ok (.iload 4, 2) := by decide +kernel
theorem dX9_headBits_20 : decode cX9_headBits 20 = .ok (.invokevirtual 107, 3) := by decide +kernel
theorem dX9_headBits_23 : decode cX9_headBits 23 = .ok (.i2l, 1) := by decide +kernel
theorem dX9_headBits_24 : decode cX9_headBits 24 = .ok (.lor, 1) := by decide +kernel
theorem dX9_headBits_25 : decode cX9_headBits 25 = .ok (.lstore_n 2, 1) := by decide +kernel
theorem dX9_headBits_26 : decode cX9_headBits 26 = .ok (.iinc 4 1, 3) := by decide +kernel
theorem dX9_headBits_29 : decode cX9_headBits 29 = .ok (.goto (-24), 3) := by decide +kernel
theorem dX9_headBits_32 : decode cX9_headBits 32 = .ok (.lload_n 2, 1) := by decide +kernel
theorem dX9_headBits_33 : decode cX9_headBits 33 = .ok (.lreturn, 1) := by decide +kernel
theorem dX9_faults_0 : decode cX9_faults 0 = .ok (.aload_n 0, 1) := by decide +kernel
theorem dX9_faults_1 : decode cX9_faults 1 = .ok (.iload_n 1, 1) := by decide +kernel
theorem dX9_faults_2 : decode cX9_faults 2 = .ok (.putfield 203, 3) := by decide +kernel
theorem dX9_faults_5 : decode cX9_faults 5 = .ok (.aload_n 0, 1) := by decide +kernel
theorem dX9_faults_6 : decode cX9_faults 6 = .ok (.iload_n 2, 1) := by decide +kernel
theorem dX9_faults_7 : decode cX9_faults 7 = .ok (.putfield 206, 3) := by decide +kernel
theorem dX9_faults_10 : decode cX9_faults 10 = .ok (.return_, 1) := by decide +kernel
theorem dX9_gets_0 : decode cX9_gets 0 = .ok (.lconst 0, 1) := by decide +kernel
theorem dX9_gets_1 : decode cX9_gets 1 = .ok (.lstore_n 3, 1) := by decide +kernel
theorem dX9_gets_2 : decode cX9_gets 2 = .ok (.iconst 0, 1) := by decide +kernel
theorem dX9_gets_3 : decode cX9_gets 3 = .ok (.istore 5, 2) := by decide +kernel
theorem dX9_gets_5 : decode cX9_gets 5 = .ok (.iload 5, 2) := by decide +kernel
theorem dX9_gets_7 : decode cX9_gets 7 = .ok (.iload_n 2, 1) := by decide +kernel
theorem dX9_gets_8 : decode cX9_gets 8 = .ok (.if_icmp .ge 49, 3) := by decide +kernel
theorem dX9_gets_11 : decode cX9_gets 11 = .ok (.lload_n 3, 1) := by decide +kernel
theorem dX9_gets_12 : decode cX9_gets 12 = .ok (.iconst 1, 1) := by decide +kernel
theorem dX9_gets_13 : decode cX9_gets 13 = .ok (.lshl, 1) := by decide +kernel
theorem dX9_gets_14 : decode cX9_gets 14 = .ok (.aload_n 0, 1) := by decide +kernel
theorem dX9_gets_15 : decode cX9_gets 15 = .ok (.getfield 175, 3) := by decide +kernel
theorem dX9_gets_18 : decode cX9_gets 18 = .ok (.aload_n 0, 1) := by decide +kernel
theorem dX9_gets_19 : decode cX9_gets 19 = .ok (.getfield 209, 3) := by decide +kernel
theorem dX9_gets_22 : decode cX9_gets 22 = .ok (.if_icmp .ge 15, 3) := by decide +kernel
theorem dX9_gets_25 : decode cX9_gets 25 = .ok (.aload_n 0, 1) := by decide +kernel
theorem dX9_gets_26 : decode cX9_gets 26 = .ok (.iload_n 1, 1) := by decide +kernel
theorem dX9_gets_27 : decode cX9_gets 27 = .ok (.aload_n 0, 1) := by decide +kernel
theorem dX9_gets_28 : decode cX9_gets 28 = .ok (.getfield 175, 3) := by decide +kernel
theorem dX9_gets_31 : decode cX9_gets 31 = .ok (.invokevirtual 212, 3) := by decide +kernel
theorem dX9_gets_34 : decode cX9_gets 34 = .ok (.goto 4, 3) := by decide +kernel
theorem dX9_gets_37 : decode cX9_gets 37 = .ok (.iconst 0, 1) := by decide +kernel
theorem dX9_gets_38 : decode cX9_gets 38 = .ok (.i2l, 1) := by decide +kernel
theorem dX9_gets_39 : decode cX9_gets 39 = .ok (.lor, 1) := by decide +kernel
theorem dX9_gets_40 : decode cX9_gets 40 = .ok (.lstore_n 3, 1) := by decide +kernel
theorem dX9_gets_41 : decode cX9_gets 41 = .ok (.aload_n 0, 1) := by decide +kernel
theorem dX9_gets_42 : decode cX9_gets 42 = .ok (.dup, 1) := by decide +kernel
theorem dX9_gets_43 : decode cX9_gets 43 = .ok (.getfield 175, 3) := by decide +kernel
theorem dX9_gets_46 : decode cX9_gets 46 = .ok (.iconst 1, 1) := by decide +kernel
theorem dX9_gets_47 : decode cX9_gets 47 = .ok (.iadd, 1) := by decide +kernel
theorem dX9_gets_48 : decode cX9_gets 48 = .ok (.putfield 175, 3) := by decide +kernel
theorem dX9_gets_51 : decode cX9_gets 51 = .ok (.iinc 5 1, 3) := by decide +kernel
theorem dX9_gets_54 : decode cX9_gets 54 = .ok (.goto (-49), 3) := by decide +kernel
theorem dX9_gets_57 : decode cX9_gets 57 = .ok (.lload_n 3, 1) := by decide +kernel
theorem dX9_gets_58 : decode cX9_gets 58 = .ok (.lreturn, 1) := by decide +kernel
theorem dX9_signed_0 : decode cX9_signed 0 = .ok (.iload_n 2, 1) := by decide +kernel
theorem dX9_signed_1 : decode cX9_signed 1 = .ok (.iconst 4, 1) := by decide +kernel
theorem dX9_signed_2 : decode cX9_signed 2 = .ok (.if_icmp .ne 7, 3) := by decide +kernel
theorem dX9_signed_5 : decode cX9_signed 5 = .ok (.lload_n 0, 1) := by decide +kernel
theorem dX9_signed_6 : decode cX9_signed 6 = .ok (.l2i, 1) := by decide +kernel
theorem dX9_signed_7 : decode cX9_signed 7 = .ok (.i2l, 1) := by decide +kernel
theorem dX9_signed_8 : decode cX9_signed 8 = .ok (.lreturn, 1) := by decide +kernel
theorem dX9_signed_9 : decode cX9_signed 9 = .ok (.iload_n 2, 1) := by decide +kernel
theorem dX9_signed_10 : decode cX9_signed 10 = .ok (.iconst 1, 1) := by decide +kernel
theorem dX9_signed_11 : decode cX9_signed 11 = .ok (.if_icmp .ne 9, 3) := by decide +kernel
theorem dX9_signed_14 : decode cX9_signed 14 = .ok (.ldc2_w 113, 3) := by decide +kernel
theorem dX9_signed_17 : decode cX9_signed 17 = .ok (.goto 17, 3) := by decide +kernel
theorem dX9_signed_20 : decode cX9_signed 20 = .ok (.iload_n 2, 1) := by decide +kernel
theorem dX9_signed_21 : decode cX9_signed 21 = .ok (.iconst 2, 1) := by decide +kernel
theorem dX9_signed_22 : decode cX9_signed 22 = .ok (.if_icmp .ne 9, 3) := by decide +kernel
theorem dX9_signed_25 : decode cX9_signed 25 = .ok (.ldc2_w 117, 3) := by decide +kernel
theorem dX9_signed_28 : decode cX9_signed 28 = .ok (.goto 6, 3) := by decide +kernel
theorem dX9_signed_31 : decode cX9_signed 31 = .ok (.ldc2_w 121, 3) := by decide +kernel
theorem dX9_signed_34 : decode cX9_signed 34 = .ok (.lstore_n 3, 1) := by decide +kernel
theorem dX9_signed_35 : decode cX9_signed 35 = .ok (.lload_n 0, 1) := by decide +kernel
theorem dX9_signed_36 : decode cX9_signed 36 = .ok (.lload_n 3, 1) := by decide +kernel
theorem dX9_signed_37 : decode cX9_signed 37 = .ok (.lcmp, 1) := by decide +kernel
theorem dX9_signed_38 : decode cX9_signed 38 = .ok (.ifCond .le 13, 3) := by decide +kernel
theorem dX9_signed_41 : decode cX9_signed 41 = .ok (.lload_n 0, 1) := by decide +kernel
theorem dX9_signed_42 : decode cX9_signed 42 = .ok (.ldc2_w 178, 3) := by decide +kernel
theorem dX9_signed_45 : decode cX9_signed 45 = .ok (.lload_n 3, 1) := by decide +kernel
theorem dX9_signed_46 : decode cX9_signed 46 = .ok (.lmul, 1) := by decide +kernel
theorem dX9_signed_47 : decode cX9_signed 47 = .ok (.lsub, 1) := by decide +kernel
theorem dX9_signed_48 : decode cX9_signed 48 = .ok (.goto 4, 3) := by decide +kernel
theorem dX9_signed_51 : decode cX9_signed 51 = .ok (.lload_n 0, 1) := by decide +kernel
theorem dX9_signed_52 : decode cX9_signed 52 = .ok (.lreturn, 1) := by decide +kernel
theorem dX9_readsOne_0 : decode cX9_readsOne 0 = .ok (.iconst 0, 1) := by decide +kernel
theorem dX9_readsOne_1 : decode cX9_readsOne 1 = .ok (.istore_n 2, 1) := by decide +kernel
theorem dX9_readsOne_2 : decode cX9_readsOne 2 = .ok (.iload_n 2, 1) := by decide +kernel
theorem dX9_readsOne_3 : decode cX9_readsOne 3 = .ok (.iconst 4, 1) := by decide +kernel
theorem dX9_readsOne_4 : decode cX9_readsOne 4 = .ok (.if_icmp .ge 20, 3) := by decide +kernel
theorem dX9_readsOne_7 : decode cX9_readsOne 7 = .ok (.aload_n 0, 1) := by decide +kernel
theorem dX9_readsOne_8 : decode cX9_readsOne 8 = .ok (.iload_n 1, 1) := by decide +kernel
theorem dX9_readsOne_9 : decode cX9_readsOne 9 = .ok (.iconst 1, 1) := by decide +kernel
theorem dX9_readsOne_10 : decode cX9_readsOne 10 = .ok (.invokevirtual 215, 3) := by decide +kernel
theorem dX9_readsOne_13 : decode cX9_readsOne 13 = .ok (.lconst 1, 1) := by decide +kernel
theorem dX9_readsOne_14 : decode cX9_readsOne 14 = .ok (.lcmp, 1) := by decide +kernel
theorem dX9_readsOne_15 : decode cX9_readsOne 15 = .ok (.ifCond .ne 9, 3) := by decide +kernel
theorem dX9_readsOne_18 : decode cX9_readsOne 18 = .ok (.iinc 2 1, 3) := by decide +kernel
theorem dX9_readsOne_21 : decode cX9_readsOne 21 = .ok (.goto (-19), 3) := by decide +kernel
theorem dX9_readsOne_24 : decode cX9_readsOne 24 = .ok (.iload_n 2, 1) := by decide +kernel
theorem dX9_readsOne_25 : decode cX9_readsOne 25 = .ok (.ifCond .ne 7, 3) := by decide +kernel
theorem dX9_readsOne_28 : decode cX9_readsOne 28 = .ok (.lconst 0, 1) := by decide +kernel
theorem dX9_readsOne_29 : decode cX9_readsOne 29 = .ok (.goto 16, 3) := by decide +kernel
theorem dX9_readsOne_32 : decode cX9_readsOne 32 = .ok (.aload_n 0, 1) := by decide +kernel
theorem dX9_readsOne_33 : decode cX9_readsOne 33 = .ok (.iload_n 1, 1) := by decide +kernel
theorem dX9_readsOne_34 : decode cX9_readsOne 34 = .ok (.iload_n 2, 1) := by decide +kernel
theorem dX9_readsOne_35 : decode cX9_readsOne 35 = .ok (.invokestatic 169, 3) := by decide +kernel
theorem dX9_readsOne_38 : decode cX9_readsOne 38 = .ok (.invokevirtual 215, 3) := by decide +kernel
theorem dX9_readsOne_41 : decode cX9_readsOne 41 = .ok (.iload_n 2, 1) := by decide +kernel
theorem dX9_readsOne_42 : decode cX9_readsOne 42 = .ok (.invokestatic 219, 3) := by decide +kernel
theorem dX9_readsOne_45 : decode cX9_readsOne 45 = .ok (.lstore_n 3, 1) := by decide +kernel
theorem dX9_readsOne_46 : decode cX9_readsOne 46 = .ok (.lload_n 3, 1) := by decide +kernel
theorem dX9_readsOne_47 : decode cX9_readsOne 47 = .ok (.invokestatic 156, 3) := by decide +kernel
theorem dX9_readsOne_50 : decode cX9_readsOne 50 = .ok (.iload_n 2, 1) := by decide +kernel
theorem dX9_readsOne_51 : decode cX9_readsOne 51 = .ok (.if_icmp .ne 7, 3) := by decide +kernel
theorem dX9_readsOne_54 : decode cX9_readsOne 54 = .ok (.iconst 1, 1) := by decide +kernel
theorem dX9_readsOne_55 : decode cX9_readsOne 55 = .ok (.goto 4, 3) := by decide +kernel
theorem dX9_readsOne_58 : decode cX9_readsOne 58 = .ok (.iconst 0, 1) := by decide +kernel
theorem dX9_readsOne_59 : decode cX9_readsOne 59 = .ok (.istore 5, 2) := by decide +kernel
theorem dX9_readsOne_61 : decode cX9_readsOne 61 = .ok (.lconst 0, 1) := by decide +kernel
theorem dX9_readsOne_62 : decode cX9_readsOne 62 = .ok (.lstore 6, 2) := by decide +kernel
theorem dX9_readsOne_64 : decode cX9_readsOne 64 = .ok (.iconst 5, 1) := by decide +kernel
theorem dX9_readsOne_65 : decode cX9_readsOne 65 = .ok (.istore 8, 2) := by decide +kernel
theorem dX9_readsOne_67 : decode cX9_readsOne 67 = .ok (.aload_n 0, 1) := by decide +kernel
theorem dX9_readsOne_68 : decode cX9_readsOne 68 = .ok (.getfield 134, 3) := by decide +kernel
theorem dX9_readsOne_71 : decode cX9_readsOne 71 = .ok (.istore 9, 2) := by decide +kernel
theorem dX9_readsOne_73 : decode cX9_readsOne 73 = .ok (.aload_n 0, 1) := by decide +kernel
theorem dX9_readsOne_74 : decode cX9_readsOne 74 = .ok (.getfield 138, 3) := by decide +kernel
theorem dX9_readsOne_77 : decode cX9_readsOne 77 = .ok (.istore 10, 2) := by decide +kernel
theorem dX9_readsOne_79 : decode cX9_readsOne 79 = .ok (.aload_n 0, 1) := by decide +kernel
theorem dX9_readsOne_80 : decode cX9_readsOne 80 = .ok (.iload_n 1, 1) := by decide +kernel
theorem dX9_readsOne_81 : decode cX9_readsOne 81 = .ok (.iconst 1, 1) := by decide +kernel
theorem dX9_readsOne_82 : decode cX9_readsOne 82 = .ok (.invokevirtual 215, 3) := by decide +kernel
theorem dX9_readsOne_85 : decode cX9_readsOne 85 = .ok (.lconst 1, 1) := by decide +kernel
theorem dX9_readsOne_86 : decode cX9_readsOne 86 = .ok (.lcmp, 1) := by decide +kernel
theorem dX9_readsOne_87 : decode cX9_readsOne 87 = .ok (.ifCond .ne 161, 3) := by decide +kernel
theorem dX9_readsOne_90 : decode cX9_readsOne 90 = .ok (.aload_n 0, 1) := by decide +kernel
theorem dX9_readsOne_91 : decode cX9_readsOne 91 = .ok (.iload_n 1, 1) := by decide +kernel
theorem dX9_readsOne_92 : decode cX9_readsOne 92 = .ok (.iconst 1, 1) := by decide +kernel
theorem dX9_readsOne_93 : decode cX9_readsOne 93 = .ok (.invokevirtual 215, 3) := by decide +kernel
theorem dX9_readsOne_96 : decode cX9_readsOne 96 = .ok (.lconst 0, 1) := by decide +kernel
theorem dX9_readsOne_97 : decode cX9_readsOne 97 = .ok (.lcmp, 1) := by decide +kernel
theorem dX9_readsOne_98 : decode cX9_readsOne 98 = .ok (.ifCond .ne 8, 3) := by decide +kernel
theorem dX9_readsOne_101 : decode cX9_readsOne 101 = .ok (.bipush 6, 2) := by decide +kernel
theorem dX9_readsOne_103 : decode cX9_readsOne 103 = .ok (.goto 5, 3) := by decide +kernel
theorem dX9_readsOne_106 : decode cX9_readsOne 106 = .ok (.bipush 7, 2) := by decide +kernel
theorem dX9_readsOne_108 : decode cX9_readsOne 108 = .ok (.istore 8, 2) := by decide +kernel
theorem dX9_readsOne_110 : decode cX9_readsOne 110 = .ok (.iload 8, 2) := by decide +kernel
theorem dX9_readsOne_112 : decode cX9_readsOne 112 = .ok (.bipush 7, 2) := by decide +kernel
theorem dX9_readsOne_114 : decode cX9_readsOne 114 = .ok (.if_icmp .ne 46, 3) := by decide +kernel
theorem dX9_readsOne_117 : decode cX9_readsOne 117 = .ok (.aload_n 0, 1) := by decide +kernel
theorem dX9_readsOne_118 : decode cX9_readsOne 118 = .ok (.iload_n 1, 1) := by decide +kernel
theorem dX9_readsOne_119 : decode cX9_readsOne 119 = .ok (.iconst 5, 1) := by decide +kernel
theorem dX9_readsOne_120 : decode cX9_readsOne 120 = .ok (.invokevirtual 215, 3) := by decide +kernel
theorem dX9_readsOne_123 : decode cX9_readsOne 123 = .ok (.l2i, 1) := by decide +kernel
theorem dX9_readsOne_124 : decode cX9_readsOne 124 = .ok (.istore 9, 2) := by decide +kernel
theorem dX9_readsOne_126 : decode cX9_readsOne 126 = .ok (.aload_n 0, 1) := by decide +kernel
theorem dX9_readsOne_127 : decode cX9_readsOne 127 = .ok (.iload_n 1, 1) := by decide +kernel
theorem dX9_readsOne_128 : decode cX9_readsOne 128 = .ok (.bipush 6, 2) := by decide +kernel
theorem dX9_readsOne_130 : decode cX9_readsOne 130 = .ok (.invokevirtual 215, 3) := by decide +kernel
theorem dX9_readsOne_133 : decode cX9_readsOne 133 = .ok (.l2i, 1) := by decide +kernel
theorem dX9_readsOne_134 : decode cX9_readsOne 134 = .ok (.iconst 1, 1) := by decide +kernel
theorem dX9_readsOne_135 : decode cX9_readsOne 135 = .ok (.iadd, 1) := by decide +kernel
theorem dX9_readsOne_136 : decode cX9_readsOne 136 = .ok (.istore 11, 2) := by decide +kernel
theorem dX9_readsOne_138 : decode cX9_readsOne 138 = .ok (.bipush 64, 2) := by decide +kernel
theorem dX9_readsOne_140 : decode cX9_readsOne 140 = .ok (.iload 9, 2) := by decide +kernel
theorem dX9_readsOne_142 : decode cX9_readsOne 142 = .ok (.isub, 1) := by decide +kernel
theorem dX9_readsOne_143 : decode cX9_readsOne 143 = .ok (.iload 11, 2) := by decide +kernel
theorem dX9_readsOne_145 : decode cX9_readsOne 145 = .ok (.isub, 1) := by decide +kernel
theorem dX9_readsOne_146 : decode cX9_readsOne 146 = .ok (.istore 10, 2) := by decide +kernel
theorem dX9_readsOne_148 : decode cX9_readsOne 148 = .ok (.aload_n 0, 1) := by decide +kernel
theorem dX9_readsOne_149 : decode cX9_readsOne 149 = .ok (.iload_n 1, 1) := by decide +kernel
theorem dX9_readsOne_150 : decode cX9_readsOne 150 = .ok (.iload 11, 2) := by decide +kernel
theorem dX9_readsOne_152 : decode cX9_readsOne 152 = .ok (.invokevirtual 215, 3) := by decide +kernel
theorem dX9_readsOne_155 : decode cX9_readsOne 155 = .ok (.lstore 6, 2) := by decide +kernel
theorem dX9_readsOne_157 : decode cX9_readsOne 157 = .ok (.goto 25, 3) := by decide +kernel
theorem dX9_readsOne_160 : decode cX9_readsOne 160 = .ok (.aload_n 0, 1) := by decide +kernel
theorem dX9_readsOne_161 : decode cX9_readsOne 161 = .ok (.getfield 130, 3) := by decide +kernel
theorem dX9_readsOne_164 : decode cX9_readsOne 164 = .ok (.ifCond .eq 18, 3) := by decide +kernel
theorem dX9_readsOne_167 : decode cX9_readsOne 167 = .ok (.aload_n 0, 1) := by decide +kernel
theorem dX9_readsOne_168 : decode cX9_readsOne 168 = .ok (.iload_n 1, 1) := by decide +kernel
theorem dX9_readsOne_169 : decode cX9_readsOne 169 = .ok (.bipush 64, 2) := by decide +kernel
theorem dX9_readsOne_171 : decode cX9_readsOne 171 = .ok (.iload 9, 2) := by decide +kernel
theorem dX9_readsOne_173 : decode cX9_readsOne 173 = .ok (.isub, 1) := by decide +kernel
theorem dX9_readsOne_174 : decode cX9_readsOne 174 = .ok (.iload 10, 2) := by decide +kernel
theorem dX9_readsOne_176 : decode cX9_readsOne 176 = .ok (.isub, 1) := by decide +kernel
theorem dX9_readsOne_177 : decode cX9_readsOne 177 = .ok (.invokevirtual 215, 3) := by decide +kernel
theorem dX9_readsOne_180 : decode cX9_readsOne 180 = .ok (.lstore 6, 2) := by decide +kernel
theorem dX9_readsOne_182 : decode cX9_readsOne 182 = .ok (.iload 10, 2) := by decide +kernel
theorem dX9_readsOne_184 : decode cX9_readsOne 184 = .ok (.ifCond .ge 7, 3) := by decide +kernel
theorem dX9_readsOne_187 : decode cX9_readsOne 187 = .ok (.lconst 0, 1) := by decide +kernel
theorem dX9_readsOne_188 : decode cX9_readsOne 188 = .ok (.goto 8, 3) := by decide +kernel
theorem dX9_readsOne_191 : decode cX9_readsOne 191 = .ok (.lload 6, 2) := by decide +kernel
theorem dX9_readsOne_193 : decode cX9_readsOne 193 = .ok (.iload 10, 2) := by decide +kernel
theorem dX9_readsOne_195 : decode cX9_readsOne 195 = .ok (.lshl, 1) := by decide +kernel
theorem dX9_readsOne_196 : decode cX9_readsOne 196 = .ok (.lstore 6, 2) := by decide +kernel
theorem dX9_readsOne_198 : decode cX9_readsOne 198 = .ok (.iload 5, 2) := by decide +kernel
theorem dX9_readsOne_200 : decode cX9_readsOne 200 = .ok (.ifCond .eq 45, 3) := by decide +kernel
theorem dX9_readsOne_203 : decode cX9_readsOne 203 = .ok (.aload_n 0, 1) := by decide +kernel
theorem dX9_readsOne_204 : decode cX9_readsOne 204 = .ok (.lload 6, 2) := by decide +kernel
theorem dX9_readsOne_206 : decode cX9_readsOne 206 = .ok (.invokevirtual 162, 3) := by decide +kernel
theorem dX9_readsOne_209 : decode cX9_readsOne 209 = .ok (.iload 8, 2) := by decide +kernel
theorem dX9_readsOne_211 : decode cX9_readsOne 211 = .ok (.if_icmp .ne 34, 3) := by decide +kernel
theorem dX9_readsOne_214 : decode cX9_readsOne 214 = .ok (.iload 8, 2) := by decide +kernel
theorem dX9_readsOne_216 : decode cX9_readsOne 216 = .ok (.bipush 6, 2) := by decide +kernel
theorem dX9_readsOne_218 : decode cX9_readsOne 218 = .ok (.if_icmp .eq 23, 3) := by decide +kernel
theorem dX9_readsOne_221 : decode cX9_readsOne 221 = .ok (.iload 9, 2) := by decide +kernel
theorem dX9_readsOne_223 : decode cX9_readsOne 223 = .ok (.lload 6, 2) := by decide +kernel
theorem dX9_readsOne_225 : decode cX9_readsOne 225 = .ok (.invokestatic 146, 3) := by decide +kernel
theorem dX9_readsOne_228 : decode cX9_readsOne 228 = .ok (.if_icmp .ne 17, 3) := by decide +kernel
theorem dX9_readsOne_231 : decode cX9_readsOne 231 = .ok (.iload 10, 2) := by decide +kernel
theorem dX9_readsOne_233 : decode cX9_readsOne 233 = .ok (.lload 6, 2) := by decide +kernel
theorem dX9_readsOne_235 : decode cX9_readsOne 235 = .ok (.invokestatic 127, 3) := by decide +kernel
theorem dX9_readsOne_238 : decode cX9_readsOne 238 = .ok (.if_icmp .ne 7, 3) := by decide +kernel
theorem dX9_readsOne_241 : decode cX9_readsOne 241 = .ok (.iconst 1, 1) := by decide +kernel
theorem dX9_readsOne_242 : decode cX9_readsOne 242 = .ok (.goto 4, 3) := by decide +kernel
theorem dX9_readsOne_245 : decode cX9_readsOne 245 = .ok (.iconst 0, 1) := by decide +kernel
theorem dX9_readsOne_246 : decode cX9_readsOne 246 = .ok (.istore 5, 2) := by decide +kernel
theorem dX9_readsOne_248 : decode cX9_readsOne 248 = .ok (.aload_n 0, 1) := by decide +kernel
theorem dX9_readsOne_249 : decode cX9_readsOne 249 = .ok (.getfield 175, 3) := by decide +kernel
theorem dX9_readsOne_252 : decode cX9_readsOne 252 = .ok (.aload_n 0, 1) := by decide +kernel
theorem dX9_readsOne_253 : decode cX9_readsOne 253 = .ok (.getfield 209, 3) := by decide +kernel
theorem dX9_readsOne_256 : decode cX9_readsOne 256 = .ok (.if_icmp .le 5, 3) := by decide +kernel
theorem dX9_readsOne_259 : decode cX9_readsOne 259 = .ok (.iconst 2, 1) := by decide +kernel
theorem dX9_readsOne_260 : decode cX9_readsOne 260 = .ok (.ireturn, 1) := by decide +kernel
theorem dX9_readsOne_261 : decode cX9_readsOne 261 = .ok (.aload_n 0, 1) := by decide +kernel
theorem dX9_readsOne_262 : decode cX9_readsOne 262 = .ok (.getfield 149, 3) := by decide +kernel
theorem dX9_readsOne_265 : decode cX9_readsOne 265 = .ok (.aload_n 0, 1) := by decide +kernel
theorem dX9_readsOne_266 : decode cX9_readsOne 266 = .ok (.getfield 153, 3) := by decide +kernel
theorem dX9_readsOne_269 : decode cX9_readsOne 269 = .ok (.ladd, 1) := by decide +kernel
theorem dX9_readsOne_270 : decode cX9_readsOne 270 = .ok (.lload_n 3, 1) := by decide +kernel
theorem dX9_readsOne_271 : decode cX9_readsOne 271 = .ok (.ladd, 1) := by decide +kernel
theorem dX9_readsOne_272 : decode cX9_readsOne 272 = .ok (.lstore 11, 2) := by decide +kernel
theorem dX9_readsOne_274 : decode cX9_readsOne 274 = .ok (.lload 11, 2) := by decide +kernel
theorem dX9_readsOne_276 : decode cX9_readsOne 276 = .ok (.aload_n 0, 1) := by decide +kernel
theorem dX9_readsOne_277 : decode cX9_readsOne 277 = .ok (.getfield 149, 3) := by decide +kernel
theorem dX9_readsOne_280 : decode cX9_readsOne 280 = .ok (.lcmp, 1) := by decide +kernel
theorem dX9_readsOne_281 : decode cX9_readsOne 281 = .ok (.ifCond .le 12, 3) := by decide +kernel
theorem dX9_readsOne_284 : decode cX9_readsOne 284 = .ok (.lload 11, 2) := by decide +kernel
theorem dX9_readsOne_286 : decode cX9_readsOne 286 = .ok (.ldc2_w 91, 3) := by decide +kernel
theorem dX9_readsOne_289 : decode cX9_readsOne 289 = .ok (.lcmp, 1) := by decide +kernel
theorem dX9_readsOne_290 : decode cX9_readsOne 290 = .ok (.ifCond .le 5, 3) := by decide +kernel
theorem dX9_readsOne_293 : decode cX9_readsOne 293 = .ok (.iconst 3, 1) := by decide +kernel
theorem dX9_readsOne_294 : decode cX9_readsOne 294 = .ok (.ireturn, 1) := by decide +kernel
theorem dX9_readsOne_295 : decode cX9_readsOne 295 = .ok (.iload 5, 2) := by decide +kernel
theorem dX9_readsOne_297 : decode cX9_readsOne 297 = .ok (.ifCond .ne 5, 3) := by decide +kernel
theorem dX9_readsOne_300 : decode cX9_readsOne 300 = .ok (.iconst 4, 1) := by decide +kernel
theorem dX9_readsOne_301 : decode cX9_readsOne 301 = .ok (.ireturn, 1) := by decide +kernel
theorem dX9_readsOne_302 : decode cX9_readsOne 302 = .ok (.iload 8, 2) := by decide +kernel
theorem dX9_readsOne_304 : decode cX9_readsOne 304 = .ok (.bipush 7, 2) := by decide +kernel
theorem dX9_readsOne_306 : decode cX9_readsOne 306 = .ok (.if_icmp .ne 20, 3) := by decide +kernel
theorem dX9_readsOne_309 : decode cX9_readsOne 309 = .ok (.aload_n 0, 1) := by decide +kernel
theorem dX9_readsOne_310 : decode cX9_readsOne 310 = .ok (.iconst 1, 1) := by decide +kernel
theorem dX9_readsOne_311 : decode cX9_readsOne 311 = .ok (.putfield 130, 3) := by decide +kernel
theorem dX9_readsOne_314 : decode cX9_readsOne 314 = .ok (.aload_n 0, 1) := by decide +kernel
theorem dX9_readsOne_315 : decode cX9_readsOne 315 = .ok (.iload 9, 2) := by decide +kernel
theorem dX9_readsOne_317 : decode cX9_readsOne 317 = .ok (.putfield 134, 3) := by decide +kernel
theorem dX9_readsOne_320 : decode cX9_readsOne 320 = .ok (.aload_n 0, 1) := by decide +kernel
theorem dX9_readsOne_321 : decode cX9_readsOne 321 = .ok (.iload 10, 2) := by decide +kernel
theorem dX9_readsOne_323 : decode cX9_readsOne 323 = .ok (.putfield 138, 3) := by decide +kernel
theorem dX9_readsOne_326 : decode cX9_readsOne 326 = .ok (.aload_n 0, 1) := by decide +kernel
theorem dX9_readsOne_327 : decode cX9_readsOne 327 = .ok (.lload 11, 2) := by decide +kernel
theorem dX9_readsOne_329 : decode cX9_readsOne 329 = .ok (.aload_n 0, 1) := by decide +kernel
theorem dX9_readsOne_330 : decode cX9_readsOne 330 = .ok (.getfield 149, 3) := by decide +kernel
theorem dX9_readsOne_333 : decode cX9_readsOne 333 = .ok (.lsub, 1) := by decide +kernel
theorem dX9_readsOne_334 : decode cX9_readsOne 334 = .ok (.putfield 153, 3) := by decide +kernel
theorem dX9_readsOne_337 : decode cX9_readsOne 337 = .ok (.aload_n 0, 1) := by decide +kernel
theorem dX9_readsOne_338 : decode cX9_readsOne 338 = .ok (.lload 11, 2) := by decide +kernel
theorem dX9_readsOne_340 : decode cX9_readsOne 340 = .ok (.putfield 149, 3) := by decide +kernel
theorem dX9_readsOne_343 : decode cX9_readsOne 343 = .ok (.aload_n 0, 1) := by decide +kernel
theorem dX9_readsOne_344 : decode cX9_readsOne 344 = .ok (.dup, 1) := by decide +kernel
theorem dX9_readsOne_345 : decode cX9_readsOne 345 = .ok (.getfield 159, 3) := by decide +kernel
theorem dX9_readsOne_348 : decode cX9_readsOne 348 = .ok (.lload 6, 2) := by decide +kernel
theorem dX9_readsOne_350 : decode cX9_readsOne 350 = .ok (.lxor, 1) := by decide +kernel
theorem dX9_readsOne_351 : decode cX9_readsOne 351 = .ok (.putfield 159, 3) := by decide +kernel
theorem dX9_readsOne_354 : decode cX9_readsOne 354 = .ok (.aload_n 0, 1) := by decide +kernel
theorem dX9_readsOne_355 : decode cX9_readsOne 355 = .ok (.getfield 60, 3) := by decide +kernel
theorem dX9_readsOne_358 : decode cX9_readsOne 358 = .ok (.aload_n 0, 1) := by decide +kernel
theorem dX9_readsOne_359 : decode cX9_readsOne 359 = .ok (.getfield 223, 3) := by decide +kernel
theorem dX9_readsOne_362 : decode cX9_readsOne 362 = .ok (.iload_n 2, 1) := by decide +kernel
theorem dX9_readsOne_363 : decode cX9_readsOne 363 = .ok (.iastore, 1) := by decide +kernel
theorem dX9_readsOne_364 : decode cX9_readsOne 364 = .ok (.aload_n 0, 1) := by decide +kernel
theorem dX9_readsOne_365 : decode cX9_readsOne 365 = .ok (.getfield 63, 3) := by decide +kernel
theorem dX9_readsOne_368 : decode cX9_readsOne 368 = .ok (.aload_n 0, 1) := by decide +kernel
theorem dX9_readsOne_369 : decode cX9_readsOne 369 = .ok (.getfield 223, 3) := by decide +kernel
theorem dX9_readsOne_372 : decode cX9_readsOne 372 = .ok (.iload 8, 2) := by decide +kernel
theorem dX9_readsOne_374 : decode cX9_readsOne 374 = .ok (.iastore, 1) := by decide +kernel
theorem dX9_readsOne_375 : decode cX9_readsOne 375 = .ok (.iconst 0, 1) := by decide +kernel
theorem dX9_readsOne_376 : decode cX9_readsOne 376 = .ok (.ireturn, 1) := by decide +kernel
theorem dX9_keepsOne_0 : decode cX9_keepsOne 0 = .ok (.aload_n 0, 1) := by decide +kernel
theorem dX9_keepsOne_1 : decode cX9_keepsOne 1 = .ok (.getfield 51, 3) := by decide +kernel
theorem dX9_keepsOne_4 : decode cX9_keepsOne 4 = .ok (.aload_n 0, 1) := by decide +kernel
theorem dX9_keepsOne_5 : decode cX9_keepsOne 5 = .ok (.getfield 223, 3) := by decide +kernel
theorem dX9_keepsOne_8 : decode cX9_keepsOne 8 = .ok (.aload_n 0, 1) := by decide +kernel
theorem dX9_keepsOne_9 : decode cX9_keepsOne 9 = .ok (.getfield 149, 3) := by decide +kernel
theorem dX9_keepsOne_12 : decode cX9_keepsOne 12 = .ok (.lastore, 1) := by decide +kernel
theorem dX9_keepsOne_13 : decode cX9_keepsOne 13 = .ok (.aload_n 0, 1) := by decide +kernel
theorem dX9_keepsOne_14 : decode cX9_keepsOne 14 = .ok (.getfield 54, 3) := by decide +kernel
theorem dX9_keepsOne_17 : decode cX9_keepsOne 17 = .ok (.aload_n 0, 1) := by decide +kernel
theorem dX9_keepsOne_18 : decode cX9_keepsOne 18 = .ok (.getfield 223, 3) := by decide +kernel
theorem dX9_keepsOne_21 : decode cX9_keepsOne 21 = .ok (.aload_n 0, 1) := by decide +kernel
theorem dX9_keepsOne_22 : decode cX9_keepsOne 22 = .ok (.getfield 159, 3) := by decide +kernel
theorem dX9_keepsOne_25 : decode cX9_keepsOne 25 = .ok (.lastore, 1) := by decide +kernel
theorem dX9_keepsOne_26 : decode cX9_keepsOne 26 = .ok (.aload_n 0, 1) := by decide +kernel
theorem dX9_keepsOne_27 : decode cX9_keepsOne 27 = .ok (.getfield 57, 3) := by decide +kernel
theorem dX9_keepsOne_30 : decode cX9_keepsOne 30 = .ok (.aload_n 0, 1) := by decide +kernel
theorem dX9_keepsOne_31 : decode cX9_keepsOne 31 = .ok (.getfield 223, 3) := by decide +kernel
theorem dX9_keepsOne_34 : decode cX9_keepsOne 34 = .ok (.aload_n 0, 1) := by decide +kernel
theorem dX9_keepsOne_35 : decode cX9_keepsOne 35 = .ok (.getfield 175, 3) := by decide +kernel
theorem dX9_keepsOne_38 : decode cX9_keepsOne 38 = .ok (.iload_n 1, 1) := by decide +kernel
theorem dX9_keepsOne_39 : decode cX9_keepsOne 39 = .ok (.isub, 1) := by decide +kernel
theorem dX9_keepsOne_40 : decode cX9_keepsOne 40 = .ok (.iastore, 1) := by decide +kernel
theorem dX9_keepsOne_41 : decode cX9_keepsOne 41 = .ok (.aload_n 0, 1) := by decide +kernel
theorem dX9_keepsOne_42 : decode cX9_keepsOne 42 = .ok (.dup, 1) := by decide +kernel
theorem dX9_keepsOne_43 : decode cX9_keepsOne 43 = .ok (.getfield 223, 3) := by decide +kernel
theorem dX9_keepsOne_46 : decode cX9_keepsOne 46 = .ok (.iconst 1, 1) := by decide +kernel
theorem dX9_keepsOne_47 : decode cX9_keepsOne 47 = .ok (.iadd, 1) := by decide +kernel
theorem dX9_keepsOne_48 : decode cX9_keepsOne 48 = .ok (.putfield 223, 3) := by decide +kernel
theorem dX9_keepsOne_51 : decode cX9_keepsOne 51 = .ok (.return_, 1) := by decide +kernel
theorem dX9_readsAll_0 : decode cX9_readsAll 0 = .ok (.aload_n 0, 1) := by decide +kernel
theorem dX9_readsAll_1 : decode cX9_readsAll 1 = .ok (.iconst 0, 1) := by decide +kernel
theorem dX9_readsAll_2 : decode cX9_readsAll 2 = .ok (.iconst (-1), 1) := by decide +kernel
theorem dX9_readsAll_3 : decode cX9_readsAll 3 = .ok (.invokevirtual 226, 3) := by decide +kernel
theorem dX9_readsAll_6 : decode cX9_readsAll 6 = .ok (.aload_n 0, 1) := by decide +kernel
theorem dX9_readsAll_7 : decode cX9_readsAll 7 = .ok (.iconst 0, 1) := by decide +kernel
theorem dX9_readsAll_8 : decode cX9_readsAll 8 = .ok (.putfield 223, 3) := by decide +kernel
theorem dX9_readsAll_11 : decode cX9_readsAll 11 = .ok (.aload_n 0, 1) := by decide +kernel
theorem dX9_readsAll_12 : decode cX9_readsAll 12 = .ok (.getfield 28, 3) := by decide +kernel
theorem dX9_readsAll_15 : decode cX9_readsAll 15 = .ok (.iload_n 1, 1) := by decide +kernel
theorem dX9_readsAll_16 : decode cX9_readsAll 16 = .ok (.baload, 1) := by decide +kernel
theorem dX9_readsAll_17 : decode cX9_readsAll 17 = .ok (.ifCond .eq 14, 3) := by decide +kernel
theorem dX9_readsAll_20 : decode cX9_readsAll 20 = .ok (.aload_n 0, 1) := by decide +kernel
theorem dX9_readsAll_21 : decode cX9_readsAll 21 = .ok (.getfield 22, 3) := by decide +kernel
theorem dX9_readsAll_24 : decode cX9_readsAll 24 = .ok (.iload_n 1, 1) := by decide +kernel
theorem dX9_readsAll_25 : decode cX9_readsAll 25 = .ok (.iaload, 1) := by decide +kernel
theorem dX9_readsAll_26 : decode cX9_readsAll 26 = .ok (.iconst 1, 1) := by decide +kernel
theorem dX9_readsAll_27 : decode cX9_readsAll 27 = .ok (.isub, 1) := by decide +kernel
theorem dX9_readsAll_28 : decode cX9_readsAll 28 = .ok (.goto 9, 3) := by decide +kernel
theorem dX9_readsAll_31 : decode cX9_readsAll 31 = .ok (.aload_n 0, 1) := by decide +kernel
theorem dX9_readsAll_32 : decode cX9_readsAll 32 = .ok (.getfield 22, 3) := by decide +kernel
theorem dX9_readsAll_35 : decode cX9_readsAll 35 = .ok (.iload_n 1, 1) := by decide +kernel
theorem dX9_readsAll_36 : decode cX9_readsAll 36 = .ok (.iaload, 1) := by decide +kernel
theorem dX9_readsAll_37 : decode cX9_readsAll 37 = .ok (.istore_n 2, 1) := by decide +kernel
theorem dX9_readsAll_38 : decode cX9_readsAll 38 = .ok (.aload_n 0, 1) := by decide +kernel
theorem dX9_readsAll_39 : decode cX9_readsAll 39 = .ok (.getfield 28, 3) := by decide +kernel
theorem dX9_readsAll_42 : decode cX9_readsAll 42 = .ok (.iload_n 1, 1) := by decide +kernel
theorem dX9_readsAll_43 : decode cX9_readsAll 43 = .ok (.baload, 1) := by decide +kernel
theorem dX9_readsAll_44 : decode cX9_readsAll 44 = .ok (.ifCond .eq 36, 3) := by decide +kernel
theorem dX9_readsAll_47 : decode cX9_readsAll 47 = .ok (.aload_n 0, 1) := by decide +kernel
theorem dX9_readsAll_48 : decode cX9_readsAll 48 = .ok (.getfield 22, 3) := by decide +kernel
theorem dX9_readsAll_51 : decode cX9_readsAll 51 = .ok (.iload_n 1, 1) := by decide +kernel
theorem dX9_readsAll_52 : decode cX9_readsAll 52 = .ok (.iaload, 1) := by decide +kernel
theorem dX9_readsAll_53 : decode cX9_readsAll 53 = .ok (.bipush 15, 2) := by decide +kernel
theorem dX9_readsAll_55 : decode cX9_readsAll 55 = .ok (.if_icmp .lt 18, 3) := by decide +kernel
theorem dX9_readsAll_58 : decode cX9_readsAll 58 = .ok (.aload_n 0, 1) := by decide +kernel
theorem dX9_readsAll_59 : decode cX9_readsAll 59 = .ok (.iload_n 1, 1) := by decide +kernel
theorem dX9_readsAll_60 : decode cX9_readsAll 60 = .ok (.iload_n 2, 1) := by decide +kernel
theorem dX9_readsAll_61 : decode cX9_readsAll 61 = .ok (.invokevirtual 107, 3) := by decide +kernel
theorem dX9_readsAll_64 : decode cX9_readsAll 64 = .ok (.aload_n 0, 1) := by decide +kernel
theorem dX9_readsAll_65 : decode cX9_readsAll 65 = .ok (.iload_n 1, 1) := by decide +kernel
theorem dX9_readsAll_66 : decode cX9_readsAll 66 = .ok (.iload_n 2, 1) := by decide +kernel
theorem dX9_readsAll_67 : decode cX9_readsAll 67 = .ok (.invokevirtual 200, 3) := by decide +kernel
theorem dX9_readsAll_70 : decode cX9_readsAll 70 = .ok (.if_icmp .eq 10, 3) := by decide +kernel
theorem dX9_readsAll_73 : decode cX9_readsAll 73 = .ok (.aload_n 0, 1) := by decide +kernel
theorem dX9_readsAll_74 : decode cX9_readsAll 74 = .ok (.iconst 1, 1) := by decide +kernel
theorem dX9_readsAll_75 : decode cX9_readsAll 75 = .ok (.iconst (-1), 1) := by decide +kernel
theorem dX9_readsAll_76 : decode cX9_readsAll 76 = .ok (.invokevirtual 226, 3) := by decide +kernel
theorem dX9_readsAll_79 : decode cX9_readsAll 79 = .ok (.return_, 1) := by decide +kernel
theorem dX9_readsAll_80 : decode cX9_readsAll 80 = .ok (.aload_n 0, 1) := by decide +kernel
theorem dX9_readsAll_81 : decode cX9_readsAll 81 = .ok (.aload_n 0, 1) := by decide +kernel
theorem dX9_readsAll_82 : decode cX9_readsAll 82 = .ok (.getfield 28, 3) := by decide +kernel
theorem dX9_readsAll_85 : decode cX9_readsAll 85 = .ok (.iload_n 1, 1) := by decide +kernel
theorem dX9_readsAll_86 : decode cX9_readsAll 86 = .ok (.baload, 1) := by decide +kernel
theorem dX9_readsAll_87 : decode cX9_readsAll 87 = .ok (.ifCond .eq 13, 3) := by decide +kernel
theorem dX9_readsAll_90 : decode cX9_readsAll 90 = .ok (.bipush 8, 2) := by decide +kernel
theorem dX9_readsAll_92 : decode cX9_readsAll 92 = .ok (.iload_n 2, 1) := by decide +kernel
theorem dX9_readsAll_93 : decode cX9_readsAll 93 = .ok (.bipush 14, 2) := by decide +kernel
theorem dX9_readsAll_95 : decode cX9_readsAll 95 = .ok (.isub, 1) := by decide +kernel
theorem dX9_readsAll_96 : decode cX9_readsAll 96 = .ok (.imul, 1) := by decide +kernel
theorem dX9_readsAll_97 : decode cX9_readsAll 97 = .ok (.goto 9, 3) := by decide +kernel
theorem dX9_readsAll_100 : decode cX9_readsAll 100 = .ok (.aload_n 0, 1) := by decide +kernel
theorem dX9_readsAll_101 : decode cX9_readsAll 101 = .ok (.getfield 25, 3) := by decide +kernel
theorem dX9_readsAll_104 : decode cX9_readsAll 104 = .ok (.iload_n 1, 1) := by decide +kernel
theorem dX9_readsAll_105 : decode cX9_readsAll 105 = .ok (.iaload, 1) := by decide +kernel
theorem dX9_readsAll_106 : decode cX9_readsAll 106 = .ok (.putfield 209, 3) := by decide +kernel
theorem dX9_readsAll_109 : decode cX9_readsAll 109 = .ok (.aload_n 0, 1) := by decide +kernel
theorem dX9_readsAll_110 : decode cX9_readsAll 110 = .ok (.iload_n 1, 1) := by decide +kernel
theorem dX9_readsAll_111 : decode cX9_readsAll 111 = .ok (.bipush 12, 2) := by decide +kernel
theorem dX9_readsAll_113 : decode cX9_readsAll 113 = .ok (.invokevirtual 107, 3) := by decide +kernel
theorem dX9_readsAll_116 : decode cX9_readsAll 116 = .ok (.sipush 256, 3) := by decide +kernel
theorem dX9_readsAll_119 : decode cX9_readsAll 119 = .ok (.imul, 1) := by decide +kernel
theorem dX9_readsAll_120 : decode cX9_readsAll 120 = .ok (.aload_n 0, 1) := by decide +kernel
theorem dX9_readsAll_121 : decode cX9_readsAll 121 = .ok (.iload_n 1, 1) := by decide +kernel
theorem dX9_readsAll_122 : decode cX9_readsAll 122 = .ok (.bipush 13, 2) := by decide +kernel
theorem dX9_readsAll_124 : decode cX9_readsAll 124 = .ok (.invokevirtual 107, 3) := by decide +kernel
theorem dX9_readsAll_127 : decode cX9_readsAll 127 = .ok (.iadd, 1) := by decide +kernel
theorem dX9_readsAll_128 : decode cX9_readsAll 128 = .ok (.istore_n 3, 1) := by decide +kernel
theorem dX9_readsAll_129 : decode cX9_readsAll 129 = .ok (.aload_n 0, 1) := by decide +kernel
theorem dX9_readsAll_130 : decode cX9_readsAll 130 = .ok (.aload_n 0, 1) := by decide +kernel
theorem dX9_readsAll_131 : decode cX9_readsAll 131 = .ok (.iload_n 1, 1) := by decide +kernel
theorem dX9_readsAll_132 : decode cX9_readsAll 132 = .ok (.invokevirtual 196, 3) := by decide +kernel
theorem dX9_readsAll_135 : decode cX9_readsAll 135 = .ok (.aload_n 0, 1) := by decide +kernel
theorem dX9_readsAll_136 : decode cX9_readsAll 136 = .ok (.iload_n 1, 1) := by decide +kernel
theorem dX9_readsAll_137 : decode cX9_readsAll 137 = .ok (.invokevirtual 229, 3) := by decide +kernel
theorem dX9_readsAll_140 : decode cX9_readsAll 140 = .ok (.invokevirtual 192, 3) := by decide +kernel
theorem dX9_readsAll_143 : decode cX9_readsAll 143 = .ok (.iload_n 3, 1) := by decide +kernel
theorem dX9_readsAll_144 : decode cX9_readsAll 144 = .ok (.ifCond .eq 14, 3) := by decide +kernel
theorem dX9_readsAll_147 : decode cX9_readsAll 147 = .ok (.aload_n 0, 1) := by decide +kernel
theorem dX9_readsAll_148 : decode cX9_readsAll 148 = .ok (.getfield 149, 3) := by decide +kernel
theorem dX9_readsAll_151 : decode cX9_readsAll 151 = .ok (.ldc2_w 91, 3) := by decide +kernel
theorem dX9_readsAll_154 : decode cX9_readsAll 154 = .ok (.lcmp, 1) := by decide +kernel
theorem dX9_readsAll_155 : decode cX9_readsAll 155 = .ok (.ifCond .le 18, 3) := by decide +kernel
theorem dX9_readsAll_158 : decode cX9_readsAll 158 = .ok (.aload_n 0, 1) := by decide +kernel
theorem dX9_readsAll_159 : decode cX9_readsAll 159 = .ok (.iload_n 3, 1) := by decide +kernel
theorem dX9_readsAll_160 : decode cX9_readsAll 160 = .ok (.ifCond .ne 7, 3) := by decide +kernel
theorem dX9_readsAll_163 : decode cX9_readsAll 163 = .ok (.iconst 5, 1) := by decide +kernel
theorem dX9_readsAll_164 : decode cX9_readsAll 164 = .ok (.goto 4, 3) := by decide +kernel
theorem dX9_readsAll_167 : decode cX9_readsAll 167 = .ok (.iconst 3, 1) := by decide +kernel
theorem dX9_readsAll_168 : decode cX9_readsAll 168 = .ok (.iconst 0, 1) := by decide +kernel
theorem dX9_readsAll_169 : decode cX9_readsAll 169 = .ok (.invokevirtual 226, 3) := by decide +kernel
theorem dX9_readsAll_172 : decode cX9_readsAll 172 = .ok (.return_, 1) := by decide +kernel
theorem dX9_readsAll_173 : decode cX9_readsAll 173 = .ok (.aload_n 0, 1) := by decide +kernel
theorem dX9_readsAll_174 : decode cX9_readsAll 174 = .ok (.getfield 63, 3) := by decide +kernel
theorem dX9_readsAll_177 : decode cX9_readsAll 177 = .ok (.iconst 0, 1) := by decide +kernel
theorem dX9_readsAll_178 : decode cX9_readsAll 178 = .ok (.iconst (-1), 1) := by decide +kernel
theorem dX9_readsAll_179 : decode cX9_readsAll 179 = .ok (.iastore, 1) := by decide +kernel
theorem dX9_readsAll_180 : decode cX9_readsAll 180 = .ok (.aload_n 0, 1) := by decide +kernel
theorem dX9_readsAll_181 : decode cX9_readsAll 181 = .ok (.getfield 60, 3) := by decide +kernel
theorem dX9_readsAll_184 : decode cX9_readsAll 184 = .ok (.iconst 0, 1) := by decide +kernel
theorem dX9_readsAll_185 : decode cX9_readsAll 185 = .ok (.iconst (-1), 1) := by decide +kernel
theorem dX9_readsAll_186 : decode cX9_readsAll 186 = .ok (.iastore, 1) := by decide +kernel
theorem dX9_readsAll_187 : decode cX9_readsAll 187 = .ok (.aload_n 0, 1) := by decide +kernel
theorem dX9_readsAll_188 : decode cX9_readsAll 188 = .ok (.iconst 0, 1) := by decide +kernel
theorem dX9_readsAll_189 : decode cX9_readsAll 189 = .ok (.invokevirtual 232, 3) := by decide +kernel
theorem dX9_readsAll_192 : decode cX9_readsAll 192 = .ok (.aload_n 0, 1) := by decide +kernel
theorem dX9_readsAll_193 : decode cX9_readsAll 193 = .ok (.getfield 223, 3) := by decide +kernel
theorem dX9_readsAll_196 : decode cX9_readsAll 196 = .ok (.iload_n 3, 1) := by decide +kernel
theorem dX9_readsAll_197 : decode cX9_readsAll 197 = .ok (.if_icmp .ge 39, 3) := by decide +kernel
theorem dX9_readsAll_200 : decode cX9_readsAll 200 = .ok (.aload_n 0, 1) := by decide +kernel
theorem dX9_readsAll_201 : decode cX9_readsAll 201 = .ok (.getfield 175, 3) := by decide +kernel
theorem dX9_readsAll_204 : decode cX9_readsAll 204 = .ok (.istore 4, 2) := by decide +kernel
theorem dX9_readsAll_206 : decode cX9_readsAll 206 = .ok (.aload_n 0, 1) := by decide +kernel
theorem dX9_readsAll_207 : decode cX9_readsAll 207 = .ok (.iload_n 1, 1) := by decide +kernel
theorem dX9_readsAll_208 : decode cX9_readsAll 208 = .ok (.invokevirtual 236, 3) := by decide +kernel
theorem dX9_readsAll_211 : decode cX9_readsAll 211 = .ok (.istore 5, 2) := by decide +kernel
theorem dX9_readsAll_213 : decode cX9_readsAll 213 = .ok (.iload 5, 2) := by decide +kernel
theorem dX9_readsAll_215 : decode cX9_readsAll 215 = .ok (.ifCond .le 12, 3) := by decide +kernel
theorem dX9_readsAll_218 : decode cX9_readsAll 218 = .ok (.aload_n 0, 1) := by decide +kernel
theorem dX9_readsAll_219 : decode cX9_readsAll 219 = .ok (.iload 5, 2) := by decide +kernel
theorem dX9_readsAll_221 : decode cX9_readsAll 221 = .ok (.iload 4, 2) := by decide +kernel
theorem dX9_readsAll_223 : decode cX9_readsAll 223 = .ok (.invokevirtual 226, 3) := by decide +kernel
theorem dX9_readsAll_226 : decode cX9_readsAll 226 = .ok (.return_, 1) := by decide +kernel
theorem dX9_readsAll_227 : decode cX9_readsAll 227 = .ok (.aload_n 0, 1) := by decide +kernel
theorem dX9_readsAll_228 : decode cX9_readsAll 228 = .ok (.iload 4, 2) := by decide +kernel
theorem dX9_readsAll_230 : decode cX9_readsAll 230 = .ok (.invokevirtual 232, 3) := by decide +kernel
theorem dX9_readsAll_233 : decode cX9_readsAll 233 = .ok (.goto (-41), 3) := by decide +kernel
theorem dX9_readsAll_236 : decode cX9_readsAll 236 = .ok (.aload_n 0, 1) := by decide +kernel
theorem dX9_readsAll_237 : decode cX9_readsAll 237 = .ok (.getfield 209, 3) := by decide +kernel
theorem dX9_readsAll_240 : decode cX9_readsAll 240 = .ok (.aload_n 0, 1) := by decide +kernel
theorem dX9_readsAll_241 : decode cX9_readsAll 241 = .ok (.getfield 175, 3) := by decide +kernel
theorem dX9_readsAll_244 : decode cX9_readsAll 244 = .ok (.isub, 1) := by decide +kernel
theorem dX9_readsAll_245 : decode cX9_readsAll 245 = .ok (.bipush 7, 2) := by decide +kernel
theorem dX9_readsAll_247 : decode cX9_readsAll 247 = .ok (.if_icmp .le 7, 3) := by decide +kernel
theorem dX9_readsAll_250 : decode cX9_readsAll 250 = .ok (.iconst 1, 1) := by decide +kernel
theorem dX9_readsAll_251 : decode cX9_readsAll 251 = .ok (.goto 4, 3) := by decide +kernel
theorem dX9_readsAll_254 : decode cX9_readsAll 254 = .ok (.iconst 0, 1) := by decide +kernel
theorem dX9_readsAll_255 : decode cX9_readsAll 255 = .ok (.istore 4, 2) := by decide +kernel
theorem dX9_readsAll_257 : decode cX9_readsAll 257 = .ok (.aload_n 0, 1) := by decide +kernel
theorem dX9_readsAll_258 : decode cX9_readsAll 258 = .ok (.getfield 175, 3) := by decide +kernel
theorem dX9_readsAll_261 : decode cX9_readsAll 261 = .ok (.istore 5, 2) := by decide +kernel
theorem dX9_readsAll_263 : decode cX9_readsAll 263 = .ok (.iload 5, 2) := by decide +kernel
theorem dX9_readsAll_265 : decode cX9_readsAll 265 = .ok (.aload_n 0, 1) := by decide +kernel
theorem dX9_readsAll_266 : decode cX9_readsAll 266 = .ok (.getfield 209, 3) := by decide +kernel
theorem dX9_readsAll_269 : decode cX9_readsAll 269 = .ok (.if_icmp .ge 32, 3) := by decide +kernel
theorem dX9_readsAll_272 : decode cX9_readsAll 272 = .ok (.iload 4, 2) := by decide +kernel
theorem dX9_readsAll_274 : decode cX9_readsAll 274 = .ok (.ifCond .ne 27, 3) := by decide +kernel
theorem dX9_readsAll_277 : decode cX9_readsAll 277 = .ok (.aload_n 0, 1) := by decide +kernel
theorem dX9_readsAll_278 : decode cX9_readsAll 278 = .ok (.iload_n 1, 1) := by decide +kernel
theorem dX9_readsAll_279 : decode cX9_readsAll 279 = .ok (.iload 5, 2) := by decide +kernel
theorem dX9_readsAll_281 : decode cX9_readsAll 281 = .ok (.invokevirtual 212, 3) := by decide +kernel
theorem dX9_readsAll_284 : decode cX9_readsAll 284 = .ok (.iconst 1, 1) := by decide +kernel
theorem dX9_readsAll_285 : decode cX9_readsAll 285 = .ok (.if_icmp .ne 7, 3) := by decide +kernel
theorem dX9_readsAll_288 : decode cX9_readsAll 288 = .ok (.iconst 1, 1) := by decide +kernel
theorem dX9_readsAll_289 : decode cX9_readsAll 289 = .ok (.goto 4, 3) := by decide +kernel
theorem dX9_readsAll_292 : decode cX9_readsAll 292 = .ok (.iconst 0, 1) := by decide +kernel
theorem dX9_readsAll_293 : decode cX9_readsAll 293 = .ok (.istore 4, 2) := by decide +kernel
theorem dX9_readsAll_295 : decode cX9_readsAll 295 = .ok (.iinc 5 1, 3) := by decide +kernel
theorem dX9_readsAll_298 : decode cX9_readsAll 298 = .ok (.goto (-35), 3) := by decide +kernel
theorem dX9_readsAll_301 : decode cX9_readsAll 301 = .ok (.iload 4, 2) := by decide +kernel
theorem dX9_readsAll_303 : decode cX9_readsAll 303 = .ok (.ifCond .eq 13, 3) := by decide +kernel
theorem dX9_readsAll_306 : decode cX9_readsAll 306 = .ok (.aload_n 0, 1) := by decide +kernel
theorem dX9_readsAll_307 : decode cX9_readsAll 307 = .ok (.bipush 6, 2) := by decide +kernel
theorem dX9_readsAll_309 : decode cX9_readsAll 309 = .ok (.aload_n 0, 1) := by decide +kernel
theorem dX9_readsAll_310 : decode cX9_readsAll 310 = .ok (.getfield 175, 3) := by decide +kernel
theorem dX9_readsAll_313 : decode cX9_readsAll 313 = .ok (.invokevirtual 226, 3) := by decide +kernel
theorem dX9_readsAll_316 : decode cX9_readsAll 316 = .ok (.aload_n 0, 1) := by decide +kernel
theorem dX9_readsAll_317 : decode cX9_readsAll 317 = .ok (.getfield 25, 3) := by decide +kernel
theorem dX9_readsAll_320 : decode cX9_readsAll 320 = .ok (.iload_n 1, 1) := by decide +kernel
theorem dX9_readsAll_321 : decode cX9_readsAll 321 = .ok (.aload_n 0, 1) := by decide +kernel
theorem dX9_readsAll_322 : decode cX9_readsAll 322 = .ok (.getfield 175, 3) := by decide +kernel
theorem dX9_readsAll_325 : decode cX9_readsAll 325 = .ok (.iastore, 1) := by decide +kernel
theorem dX9_readsAll_326 : decode cX9_readsAll 326 = .ok (.return_, 1) := by decide +kernel
theorem dX9_reads_0 : decode cX9_reads 0 = .ok (.aload_n 0, 1) := by decide +kernel
theorem dX9_reads_1 : decode cX9_reads 1 = .ok (.iload_n 1, 1) := by decide +kernel
theorem dX9_reads_2 : decode cX9_reads 2 = .ok (.invokevirtual 239, 3) := by decide +kernel
theorem dX9_reads_5 : decode cX9_reads 5 = .ok (.aload_n 0, 1) := by decide +kernel
theorem dX9_reads_6 : decode cX9_reads 6 = .ok (.getfield 203, 3) := by decide +kernel
theorem dX9_reads_9 : decode cX9_reads 9 = .ok (.ifCond .ne 51, 3) := by decide +kernel
theorem dX9_reads_12 : decode cX9_reads 12 = .ok (.aload_n 0, 1) := by decide +kernel
theorem dX9_reads_13 : decode cX9_reads 13 = .ok (.getfield 28, 3) := by decide +kernel
theorem dX9_reads_16 : decode cX9_reads 16 = .ok (.iload_n 1, 1) := by decide +kernel
theorem dX9_reads_17 : decode cX9_reads 17 = .ok (.baload, 1) := by decide +kernel
theorem dX9_reads_18 : decode cX9_reads 18 = .ok (.ifCond .eq 42, 3) := by decide +kernel
theorem dX9_reads_21 : decode cX9_reads 21 = .ok (.aload_n 0, 1) := by decide +kernel
theorem dX9_reads_22 : decode cX9_reads 22 = .ok (.getfield 51, 3) := by decide +kernel
theorem dX9_reads_25 : decode cX9_reads 25 = .ok (.iconst 0, 1) := by decide +kernel
theorem dX9_reads_26 : decode cX9_reads 26 = .ok (.laload, 1) := by decide +kernel
theorem dX9_reads_27 : decode cX9_reads 27 = .ok (.aload_n 0, 1) := by decide +kernel
theorem dX9_reads_28 : decode cX9_reads 28 = .ok (.getfield 32, 3) := by decide +kernel
theorem dX9_reads_31 : decode cX9_reads 31 = .ok (.iload_n 1, 1) := by decide +kernel
theorem dX9_reads_32 : decode cX9_reads 32 = .ok (.iaload, 1) := by decide +kernel
theorem dX9_reads_33 : decode cX9_reads 33 = .ok (.i2l, 1) := by decide +kernel
theorem dX9_reads_34 : decode cX9_reads 34 = .ok (.lcmp, 1) := by decide +kernel
theorem dX9_reads_35 : decode cX9_reads 35 = .ok (.ifCond .ne 18, 3) := by decide +kernel
theorem dX9_reads_38 : decode cX9_reads 38 = .ok (.aload_n 0, 1) := by decide +kernel
theorem dX9_reads_39 : decode cX9_reads 39 = .ok (.getfield 149, 3) := by decide +kernel
theorem dX9_reads_42 : decode cX9_reads 42 = .ok (.aload_n 0, 1) := by decide +kernel
theorem dX9_reads_43 : decode cX9_reads 43 = .ok (.getfield 35, 3) := by decide +kernel
theorem dX9_reads_46 : decode cX9_reads 46 = .ok (.iload_n 1, 1) := by decide +kernel
theorem dX9_reads_47 : decode cX9_reads 47 = .ok (.iaload, 1) := by decide +kernel
theorem dX9_reads_48 : decode cX9_reads 48 = .ok (.i2l, 1) := by decide +kernel
theorem dX9_reads_49 : decode cX9_reads 49 = .ok (.lcmp, 1) := by decide +kernel
theorem dX9_reads_50 : decode cX9_reads 50 = .ok (.ifCond .eq 10, 3) := by decide +kernel
theorem dX9_reads_53 : decode cX9_reads 53 = .ok (.aload_n 0, 1) := by decide +kernel
theorem dX9_reads_54 : decode cX9_reads 54 = .ok (.bipush 7, 2) := by decide +kernel
theorem dX9_reads_56 : decode cX9_reads 56 = .ok (.iconst 0, 1) := by decide +kernel
theorem dX9_reads_57 : decode cX9_reads 57 = .ok (.invokevirtual 226, 3) := by decide +kernel
theorem dX9_reads_60 : decode cX9_reads 60 = .ok (.return_, 1) := by decide +kernel
theorem dX9_isBroken_0 : decode cX9_isBroken 0 = .ok (.aload_n 0, 1) := by decide +kernel
theorem dX9_isBroken_1 : decode cX9_isBroken 1 = .ok (.iload_n 1, 1) := by decide +kernel
theorem dX9_isBroken_2 : decode cX9_isBroken 2 = .ok (.invokevirtual 242, 3) := by decide +kernel
theorem dX9_isBroken_5 : decode cX9_isBroken 5 = .ok (.aload_n 0, 1) := by decide +kernel
theorem dX9_isBroken_6 : decode cX9_isBroken 6 = .ok (.getfield 203, 3) := by decide +kernel
theorem dX9_isBroken_9 : decode cX9_isBroken 9 = .ok (.ifCond .le 7, 3) := by decide +kernel
theorem dX9_isBroken_12 : decode cX9_isBroken 12 = .ok (.iconst 1, 1) := by decide +kernel
theorem dX9_isBroken_13 : decode cX9_isBroken 13 = .ok (.goto 4, 3) := by decide +kernel
theorem dX9_isBroken_16 : decode cX9_isBroken 16 = .ok (.iconst 0, 1) := by decide +kernel
theorem dX9_isBroken_17 : decode cX9_isBroken 17 = .ok (.ireturn, 1) := by decide +kernel
theorem dX9_hasBroken_0 : decode cX9_hasBroken 0 = .ok (.iconst 0, 1) := by decide +kernel
theorem dX9_hasBroken_1 : decode cX9_hasBroken 1 = .ok (.istore_n 2, 1) := by decide +kernel
theorem dX9_hasBroken_2 : decode cX9_hasBroken 2 = .ok (.iload_n 2, 1) := by decide +kernel
theorem dX9_hasBroken_3 : decode cX9_hasBroken 3 = .ok (.aload_n 0, 1) := by decide +kernel
theorem dX9_hasBroken_4 : decode cX9_hasBroken 4 = .ok (.getfield 16, 3) := by decide +kernel
theorem dX9_hasBroken_7 : decode cX9_hasBroken 7 = .ok (.iload_n 1, 1) := by decide +kernel
theorem dX9_hasBroken_8 : decode cX9_hasBroken 8 = .ok (.iaload, 1) := by decide +kernel
theorem dX9_hasBroken_9 : decode cX9_hasBroken 9 = .ok (.if_icmp .ge 24, 3) := by decide +kernel
theorem dX9_hasBroken_12 : decode cX9_hasBroken 12 = .ok (.aload_n 0, 1) := by decide +kernel
theorem dX9_hasBroken_13 : decode cX9_hasBroken 13 = .ok (.bipush 16, 2) := by decide +kernel
theorem dX9_hasBroken_15 : decode cX9_hasBroken 15 = .ok (.iload_n 1, 1) := by decide +kernel
theorem dX9_hasBroken_16 : decode cX9_hasBroken 16 = .ok (.imul, 1) := by decide +kernel
theorem dX9_hasBroken_17 : decode cX9_hasBroken 17 = .ok (.iload_n 2, 1) := by decide +kernel
theorem dX9_hasBroken_18 : decode cX9_hasBroken 18 = .ok (.iadd, 1) := by decide +kernel
theorem dX9_hasBroken_19 : decode cX9_hasBroken 19 = .ok (.invokevirtual 245, 3) := by decide +kernel
theorem dX9_hasBroken_22 : decode cX9_hasBroken 22 = .ok (.ifCond .eq 5, 3) := by decide +kernel
theorem dX9_hasBroken_25 : decode cX9_hasBroken 25 = .ok (.iconst 1, 1) := by decide +kernel
theorem dX9_hasBroken_26 : decode cX9_hasBroken 26 = .ok (.ireturn, 1) := by decide +kernel
theorem dX9_hasBroken_27 : decode cX9_hasBroken 27 = .ok (.iinc 2 1, 3) := by decide +kernel
theorem dX9_hasBroken_30 : decode cX9_hasBroken 30 = .ok (.goto (-28), 3) := by decide +kernel
theorem dX9_hasBroken_33 : decode cX9_hasBroken 33 = .ok (.iconst 0, 1) := by decide +kernel
theorem dX9_hasBroken_34 : decode cX9_hasBroken 34 = .ok (.ireturn, 1) := by decide +kernel
theorem dX9_gathers_0 : decode cX9_gathers 0 = .ok (.aload_n 0, 1) := by decide +kernel
theorem dX9_gathers_1 : decode cX9_gathers 1 = .ok (.iconst 0, 1) := by decide +kernel
theorem dX9_gathers_2 : decode cX9_gathers 2 = .ok (.putfield 248, 3) := by decide +kernel
theorem dX9_gathers_5 : decode cX9_gathers 5 = .ok (.iconst 0, 1) := by decide +kernel
theorem dX9_gathers_6 : decode cX9_gathers 6 = .ok (.istore_n 2, 1) := by decide +kernel
theorem dX9_gathers_7 : decode cX9_gathers 7 = .ok (.iload_n 2, 1) := by decide +kernel
theorem dX9_gathers_8 : decode cX9_gathers 8 = .ok (.aload_n 0, 1) := by decide +kernel
theorem dX9_gathers_9 : decode cX9_gathers 9 = .ok (.getfield 16, 3) := by decide +kernel
theorem dX9_gathers_12 : decode cX9_gathers 12 = .ok (.iload_n 1, 1) := by decide +kernel
theorem dX9_gathers_13 : decode cX9_gathers 13 = .ok (.iaload, 1) := by decide +kernel
theorem dX9_gathers_14 : decode cX9_gathers 14 = .ok (.if_icmp .ge 91, 3) := by decide +kernel
theorem dX9_gathers_17 : decode cX9_gathers 17 = .ok (.aload_n 0, 1) := by decide +kernel
theorem dX9_gathers_18 : decode cX9_gathers 18 = .ok (.bipush 16, 2) := by decide +kernel
theorem dX9_gathers_20 : decode cX9_gathers 20 = .ok (.iload_n 1, 1) := by decide +kernel
theorem dX9_gathers_21 : decode cX9_gathers 21 = .ok (.imul, 1) := by decide +kernel
theorem dX9_gathers_22 : decode cX9_gathers 22 = .ok (.iload_n 2, 1) := by decide +kernel
theorem dX9_gathers_23 : decode cX9_gathers 23 = .ok (.iadd, 1) := by decide +kernel
theorem dX9_gathers_24 : decode cX9_gathers 24 = .ok (.invokevirtual 245, 3) := by decide +kernel
theorem dX9_gathers_27 : decode cX9_gathers 27 = .ok (.ifCond .eq 6, 3) := by decide +kernel
theorem dX9_gathers_30 : decode cX9_gathers 30 = .ok (.goto 69, 3) := by decide +kernel
theorem dX9_gathers_33 : decode cX9_gathers 33 = .ok (.iconst 0, 1) := by decide +kernel
theorem dX9_gathers_34 : decode cX9_gathers 34 = .ok (.istore_n 3, 1) := by decide +kernel
theorem dX9_gathers_35 : decode cX9_gathers 35 = .ok (.iload_n 3, 1) := by decide +kernel
theorem dX9_gathers_36 : decode cX9_gathers 36 = .ok (.aload_n 0, 1) := by decide +kernel
theorem dX9_gathers_37 : decode cX9_gathers 37 = .ok (.getfield 223, 3) := by decide +kernel
theorem dX9_gathers_40 : decode cX9_gathers 40 = .ok (.if_icmp .ge 59, 3) := by decide +kernel
theorem dX9_gathers_43 : decode cX9_gathers 43 = .ok (.aload_n 0, 1) := by decide +kernel
theorem dX9_gathers_44 : decode cX9_gathers 44 = .ok (.getfield 66, 3) := by decide +kernel
theorem dX9_gathers_47 : decode cX9_gathers 47 = .ok (.aload_n 0, 1) := by decide +kernel
theorem dX9_gathers_48 : decode cX9_gathers 48 = .ok (.getfield 248, 3) := by decide +kernel
theorem dX9_gathers_51 : decode cX9_gathers 51 = .ok (.aload_n 0, 1) := by decide +kernel
theorem dX9_gathers_52 : decode cX9_gathers 52 = .ok (.getfield 51, 3) := by decide +kernel
theorem dX9_gathers_55 : decode cX9_gathers 55 = .ok (.iload_n 3, 1) := by decide +kernel
theorem dX9_gathers_56 : decode cX9_gathers 56 = .ok (.laload, 1) := by decide +kernel
theorem dX9_gathers_57 : decode cX9_gathers 57 = .ok (.lastore, 1) := by decide +kernel
theorem dX9_gathers_58 : decode cX9_gathers 58 = .ok (.aload_n 0, 1) := by decide +kernel
theorem dX9_gathers_59 : decode cX9_gathers 59 = .ok (.getfield 69, 3) := by decide +kernel
theorem dX9_gathers_62 : decode cX9_gathers 62 = .ok (.aload_n 0, 1) := by decide +kernel
theorem dX9_gathers_63 : decode cX9_gathers 63 = .ok (.getfield 248, 3) := by decide +kernel
theorem dX9_gathers_66 : decode cX9_gathers 66 = .ok (.aload_n 0, 1) := by decide +kernel
theorem dX9_gathers_67 : decode cX9_gathers 67 = .ok (.getfield 54, 3) := by decide +kernel
theorem dX9_gathers_70 : decode cX9_gathers 70 = .ok (.iload_n 3, 1) := by decide +kernel
theorem dX9_gathers_71 : decode cX9_gathers 71 = .ok (.laload, 1) := by decide +kernel
theorem dX9_gathers_72 : decode cX9_gathers 72 = .ok (.lastore, 1) := by decide +kernel
theorem dX9_gathers_73 : decode cX9_gathers 73 = .ok (.aload_n 0, 1) := by decide +kernel
theorem dX9_gathers_74 : decode cX9_gathers 74 = .ok (.getfield 72, 3) := by decide +kernel
theorem dX9_gathers_77 : decode cX9_gathers 77 = .ok (.aload_n 0, 1) := by decide +kernel
theorem dX9_gathers_78 : decode cX9_gathers 78 = .ok (.getfield 248, 3) := by decide +kernel
theorem dX9_gathers_81 : decode cX9_gathers 81 = .ok (.iload_n 2, 1) := by decide +kernel
theorem dX9_gathers_82 : decode cX9_gathers 82 = .ok (.iastore, 1) := by decide +kernel
theorem dX9_gathers_83 : decode cX9_gathers 83 = .ok (.aload_n 0, 1) := by decide +kernel
theorem dX9_gathers_84 : decode cX9_gathers 84 = .ok (.dup, 1) := by decide +kernel
theorem dX9_gathers_85 : decode cX9_gathers 85 = .ok (.getfield 248, 3) := by decide +kernel
theorem dX9_gathers_88 : decode cX9_gathers 88 = .ok (.iconst 1, 1) := by decide +kernel
theorem dX9_gathers_89 : decode cX9_gathers 89 = .ok (.iadd, 1) := by decide +kernel
theorem dX9_gathers_90 : decode cX9_gathers 90 = .ok (.putfield 248, 3) := by decide +kernel
theorem dX9_gathers_93 : decode cX9_gathers 93 = .ok (.iinc 3 1, 3) := by decide +kernel
theorem dX9_gathers_96 : decode cX9_gathers 96 = .ok (.goto (-61), 3) := by decide +kernel
theorem dX9_gathers_99 : decode cX9_gathers 99 = .ok (.iinc 2 1, 3) := by decide +kernel
theorem dX9_gathers_102 : decode cX9_gathers 102 = .ok (.goto (-95), 3) := by decide +kernel
theorem dX9_gathers_105 : decode cX9_gathers 105 = .ok (.bipush 20, 2) := by decide +kernel
theorem dX9_gathers_107 : decode cX9_gathers 107 = .ok (.iload_n 1, 1) := by decide +kernel
theorem dX9_gathers_108 : decode cX9_gathers 108 = .ok (.imul, 1) := by decide +kernel
theorem dX9_gathers_109 : decode cX9_gathers 109 = .ok (.istore_n 2, 1) := by decide +kernel
theorem dX9_gathers_110 : decode cX9_gathers 110 = .ok (.iload_n 2, 1) := by decide +kernel
theorem dX9_gathers_111 : decode cX9_gathers 111 = .ok (.bipush 20, 2) := by decide +kernel
theorem dX9_gathers_113 : decode cX9_gathers 113 = .ok (.iload_n 1, 1) := by decide +kernel
theorem dX9_gathers_114 : decode cX9_gathers 114 = .ok (.imul, 1) := by decide +kernel
theorem dX9_gathers_115 : decode cX9_gathers 115 = .ok (.aload_n 0, 1) := by decide +kernel
theorem dX9_gathers_116 : decode cX9_gathers 116 = .ok (.getfield 38, 3) := by decide +kernel
theorem dX9_gathers_119 : decode cX9_gathers 119 = .ok (.iload_n 1, 1) := by decide +kernel
theorem dX9_gathers_120 : decode cX9_gathers 120 = .ok (.iaload, 1) := by decide +kernel
theorem dX9_gathers_121 : decode cX9_gathers 121 = .ok (.iadd, 1) := by decide +kernel
theorem dX9_gathers_122 : decode cX9_gathers 122 = .ok (.if_icmp .ge 154, 3) := by decide +kernel
theorem dX9_gathers_125 : decode cX9_gathers 125 = .ok (.aload_n 0, 1) := by decide +kernel
theorem dX9_gathers_126 : decode cX9_gathers 126 = .ok (.aload_n 0, 1) := by decide +kernel
theorem dX9_gathers_127 : decode cX9_gathers 127 = .ok (.getfield 41, 3) := by decide +kernel
theorem dX9_gathers_130 : decode cX9_gathers 130 = .ok (.iload_n 2, 1) := by decide +kernel
theorem dX9_gathers_131 : decode cX9_gathers 131 = .ok (.iaload, 1) := by decide +kernel
theorem dX9_gathers_132 : decode cX9_gathers 132 = .ok (.i2l, 1) := by decide +kernel
theorem dX9_gathers_133 : decode cX9_gathers 133 = .ok (.invokevirtual 251, 3) := by decide +kernel
theorem dX9_gathers_136 : decode cX9_gathers 136 = .ok (.istore_n 3, 1) := by decide +kernel
theorem dX9_gathers_137 : decode cX9_gathers 137 = .ok (.iload_n 3, 1) := by decide +kernel
theorem dX9_gathers_138 : decode cX9_gathers 138 = .ok (.aload_n 0, 1) := by decide +kernel
theorem dX9_gathers_139 : decode cX9_gathers 139 = .ok (.getfield 248, 3) := by decide +kernel
theorem dX9_gathers_142 : decode cX9_gathers 142 = .ok (.if_icmp .eq 20, 3) := by decide +kernel
theorem dX9_gathers_145 : decode cX9_gathers 145 = .ok (.aload_n 0, 1) := by decide +kernel
theorem dX9_gathers_146 : decode cX9_gathers 146 = .ok (.getfield 66, 3) := by decide +kernel
theorem dX9_gathers_149 : decode cX9_gathers 149 = .ok (.iload_n 3, 1) := by decide +kernel
theorem dX9_gathers_150 : decode cX9_gathers 150 = .ok (.laload, 1) := by decide +kernel
theorem dX9_gathers_151 : decode cX9_gathers 151 = .ok (.aload_n 0, 1) := by decide +kernel
theorem dX9_gathers_152 : decode cX9_gathers 152 = .ok (.getfield 41, 3) := by decide +kernel
theorem dX9_gathers_155 : decode cX9_gathers 155 = .ok (.iload_n 2, 1) := by decide +kernel
theorem dX9_gathers_156 : decode cX9_gathers 156 = .ok (.iaload, 1) := by decide +kernel
theorem dX9_gathers_157 : decode cX9_gathers 157 = .ok (.i2l, 1) := by decide +kernel
theorem dX9_gathers_158 : decode cX9_gathers 158 = .ok (.lcmp, 1) := by decide +kernel
theorem dX9_gathers_159 : decode cX9_gathers 159 = .ok (.ifCond .eq 79, 3) := by decide +kernel
theorem dX9_gathers_162 : decode cX9_gathers 162 = .ok (.aload_n 0, 1) := by decide +kernel
theorem dX9_gathers_163 : decode cX9_gathers 163 = .ok (.getfield 248, 3) := by decide +kernel
theorem dX9_gathers_166 : decode cX9_gathers 166 = .ok (.istore 4, 2) := by decide +kernel
theorem dX9_gathers_168 : decode cX9_gathers 168 = .ok (.iload 4, 2) := by decide +kernel
theorem dX9_gathers_170 : decode cX9_gathers 170 = .ok (.iload_n 3, 1) := by decide +kernel
theorem dX9_gathers_171 : decode cX9_gathers 171 = .ok (.if_icmp .le 57, 3) := by decide +kernel
theorem dX9_gathers_174 : decode cX9_gathers 174 = .ok (.aload_n 0, 1) := by decide +kernel
theorem dX9_gathers_175 : decode cX9_gathers 175 = .ok (.getfield 66, 3) := by decide +kernel
theorem dX9_gathers_178 : decode cX9_gathers 178 = .ok (.iload 4, 2) := by decide +kernel
theorem dX9_gathers_180 : decode cX9_gathers 180 = .ok (.aload_n 0, 1) := by decide +kernel
theorem dX9_gathers_181 : decode cX9_gathers 181 = .ok (.getfield 66, 3) := by decide +kernel
theorem dX9_gathers_184 : decode cX9_gathers 184 = .ok (.iload 4, 2) := by decide +kernel
theorem dX9_gathers_186 : decode cX9_gathers 186 = .ok (.iconst 1, 1) := by decide +kernel
theorem dX9_gathers_187 : decode cX9_gathers 187 = .ok (.isub, 1) := by decide +kernel
theorem dX9_gathers_188 : decode cX9_gathers 188 = .ok (.laload, 1) := by decide +kernel
theorem dX9_gathers_189 : decode cX9_gathers 189 = .ok (.lastore, 1) := by decide +kernel
theorem dX9_gathers_190 : decode cX9_gathers 190 = .ok (.aload_n 0, 1) := by decide +kernel
theorem dX9_gathers_191 : decode cX9_gathers 191 = .ok (.getfield 69, 3) := by decide +kernel
theorem dX9_gathers_194 : decode cX9_gathers 194 = .ok (.iload 4, 2) := by decide +kernel
theorem dX9_gathers_196 : decode cX9_gathers 196 = .ok (.aload_n 0, 1) := by decide +kernel
theorem dX9_gathers_197 : decode cX9_gathers 197 = .ok (.getfield 69, 3) := by decide +kernel
theorem dX9_gathers_200 : decode cX9_gathers 200 = .ok (.iload 4, 2) := by decide +kernel
theorem dX9_gathers_202 : decode cX9_gathers 202 = .ok (.iconst 1, 1) := by decide +kernel
theorem dX9_gathers_203 : decode cX9_gathers 203 = .ok (.isub, 1) := by decide +kernel
theorem dX9_gathers_204 : decode cX9_gathers 204 = .ok (.laload, 1) := by decide +kernel
theorem dX9_gathers_205 : decode cX9_gathers 205 = .ok (.lastore, 1) := by decide +kernel
theorem dX9_gathers_206 : decode cX9_gathers 206 = .ok (.aload_n 0, 1) := by decide +kernel
theorem dX9_gathers_207 : decode cX9_gathers 207 = .ok (.getfield 72, 3) := by decide +kernel
theorem dX9_gathers_210 : decode cX9_gathers 210 = .ok (.iload 4, 2) := by decide +kernel
theorem dX9_gathers_212 : decode cX9_gathers 212 = .ok (.aload_n 0, 1) := by decide +kernel
theorem dX9_gathers_213 : decode cX9_gathers 213 = .ok (.getfield 72, 3) := by decide +kernel
theorem dX9_gathers_216 : decode cX9_gathers 216 = .ok (.iload 4, 2) := by decide +kernel
theorem dX9_gathers_218 : decode cX9_gathers 218 = .ok (.iconst 1, 1) := by decide +kernel
theorem dX9_gathers_219 : decode cX9_gathers 219 = .ok (.isub, 1) := by decide +kernel
theorem dX9_gathers_220 : decode cX9_gathers 220 = .ok (.iaload, 1) := by decide +kernel
theorem dX9_gathers_221 : decode cX9_gathers 221 = .ok (.iastore, 1) := by decide +kernel
theorem dX9_gathers_222 : decode cX9_gathers 222 = .ok (.iinc 4 (-1), 3) := by decide +kernel
theorem dX9_gathers_225 : decode cX9_gathers 225 = .ok (.goto (-57), 3) := by decide +kernel
theorem dX9_gathers_228 : decode cX9_gathers 228 = .ok (.aload_n 0, 1) := by decide +kernel
theorem dX9_gathers_229 : decode cX9_gathers 229 = .ok (.dup, 1) := by decide +kernel
theorem dX9_gathers_230 : decode cX9_gathers 230 = .ok (.getfield 248, 3) := by decide +kernel
theorem dX9_gathers_233 : decode cX9_gathers 233 = .ok (.iconst 1, 1) := by decide +kernel
theorem dX9_gathers_234 : decode cX9_gathers 234 = .ok (.iadd, 1) := by decide +kernel
theorem dX9_gathers_235 : decode cX9_gathers 235 = .ok (.putfield 248, 3) := by decide +kernel
theorem dX9_gathers_238 : decode cX9_gathers 238 = .ok (.aload_n 0, 1) := by decide +kernel
theorem dX9_gathers_239 : decode cX9_gathers 239 = .ok (.getfield 66, 3) := by decide +kernel
theorem dX9_gathers_242 : decode cX9_gathers 242 = .ok (.iload_n 3, 1) := by decide +kernel
theorem dX9_gathers_243 : decode cX9_gathers 243 = .ok (.aload_n 0, 1) := by decide +kernel
theorem dX9_gathers_244 : decode cX9_gathers 244 = .ok (.getfield 41, 3) := by decide +kernel
theorem dX9_gathers_247 : decode cX9_gathers 247 = .ok (.iload_n 2, 1) := by decide +kernel
theorem dX9_gathers_248 : decode cX9_gathers 248 = .ok (.iaload, 1) := by decide +kernel
theorem dX9_gathers_249 : decode cX9_gathers 249 = .ok (.i2l, 1) := by decide +kernel
theorem dX9_gathers_250 : decode cX9_gathers 250 = .ok (.lastore, 1) := by decide +kernel
theorem dX9_gathers_251 : decode cX9_gathers 251 = .ok (.aload_n 0, 1) := by decide +kernel
theorem dX9_gathers_252 : decode cX9_gathers 252 = .ok (.getfield 69, 3) := by decide +kernel
theorem dX9_gathers_255 : decode cX9_gathers 255 = .ok (.iload_n 3, 1) := by decide +kernel
theorem dX9_gathers_256 : decode cX9_gathers 256 = .ok (.aload_n 0, 1) := by decide +kernel
theorem dX9_gathers_257 : decode cX9_gathers 257 = .ok (.getfield 44, 3) := by decide +kernel
theorem dX9_gathers_260 : decode cX9_gathers 260 = .ok (.iload_n 2, 1) := by decide +kernel
theorem dX9_gathers_261 : decode cX9_gathers 261 = .ok (.laload, 1) := by decide +kernel
theorem dX9_gathers_262 : decode cX9_gathers 262 = .ok (.lastore, 1) := by decide +kernel
theorem dX9_gathers_263 : decode cX9_gathers 263 = .ok (.aload_n 0, 1) := by decide +kernel
theorem dX9_gathers_264 : decode cX9_gathers 264 = .ok (.getfield 72, 3) := by decide +kernel
theorem dX9_gathers_267 : decode cX9_gathers 267 = .ok (.iload_n 3, 1) := by decide +kernel
theorem dX9_gathers_268 : decode cX9_gathers 268 = .ok (.iconst (-1), 1) := by decide +kernel
theorem dX9_gathers_269 : decode cX9_gathers 269 = .ok (.iastore, 1) := by decide +kernel
theorem dX9_gathers_270 : decode cX9_gathers 270 = .ok (.iinc 2 1, 3) := by decide +kernel
theorem dX9_gathers_273 : decode cX9_gathers 273 = .ok (.goto (-163), 3) := by decide +kernel
theorem dX9_gathers_276 : decode cX9_gathers 276 = .ok (.return_, 1) := by decide +kernel
theorem dX9_firstNot_0 : decode cX9_firstNot 0 = .ok (.iconst 0, 1) := by decide +kernel
theorem dX9_firstNot_1 : decode cX9_firstNot 1 = .ok (.istore_n 3, 1) := by decide +kernel
theorem dX9_firstNot_2 : decode cX9_firstNot 2 = .ok (.aload_n 0, 1) := by decide +kernel
theorem dX9_firstNot_3 : decode cX9_firstNot 3 = .ok (.getfield 248, 3) := by decide +kernel
theorem dX9_firstNot_6 : decode cX9_firstNot 6 = .ok (.istore 4, 2) := by decide +kernel
theorem dX9_firstNot_8 : decode cX9_firstNot 8 = .ok (.iload_n 3, 1) := by decide +kernel
theorem dX9_firstNot_9 : decode cX9_firstNot 9 = .ok (.iload 4, 2) := by decide +kernel
theorem dX9_firstNot_11 : decode cX9_firstNot 11 = .ok (.if_icmp .ge 38, 3) := by decide +kernel
theorem dX9_firstNot_14 : decode cX9_firstNot 14 = .ok (.iload_n 3, 1) := by decide +kernel
theorem dX9_firstNot_15 : decode cX9_firstNot 15 = .ok (.iload 4, 2) := by decide +kernel
theorem dX9_firstNot_17 : decode cX9_firstNot 17 = .ok (.iadd, 1) := by decide +kernel
theorem dX9_firstNot_18 : decode cX9_firstNot 18 = .ok (.iconst 2, 1) := by decide +kernel
theorem dX9_firstNot_19 : decode cX9_firstNot 19 = .ok (.idiv, 1) := by decide +kernel
theorem dX9_firstNot_20 : decode cX9_firstNot 20 = .ok (.istore 5, 2) := by decide +kernel
theorem dX9_firstNot_22 : decode cX9_firstNot 22 = .ok (.aload_n 0, 1) := by decide +kernel
theorem dX9_firstNot_23 : decode cX9_firstNot 23 = .ok (.getfield 66, 3) := by decide +kernel
theorem dX9_firstNot_26 : decode cX9_firstNot 26 = .ok (.iload 5, 2) := by decide +kernel
theorem dX9_firstNot_28 : decode cX9_firstNot 28 = .ok (.laload, 1) := by decide +kernel
theorem dX9_firstNot_29 : decode cX9_firstNot 29 = .ok (.lload_n 1, 1) := by decide +kernel
theorem dX9_firstNot_30 : decode cX9_firstNot 30 = .ok (.lcmp, 1) := by decide +kernel
theorem dX9_firstNot_31 : decode cX9_firstNot 31 = .ok (.ifCond .ge 11, 3) := by decide +kernel
theorem dX9_firstNot_34 : decode cX9_firstNot 34 = .ok (.iload 5, 2) := by decide +kernel
theorem dX9_firstNot_36 : decode cX9_firstNot 36 = .ok (.iconst 1, 1) := by decide +kernel
theorem dX9_firstNot_37 : decode cX9_firstNot 37 = .ok (.iadd, 1) := by decide +kernel
theorem dX9_firstNot_38 : decode cX9_firstNot 38 = .ok (.istore_n 3, 1) := by decide +kernel
theorem dX9_firstNot_39 : decode cX9_firstNot 39 = .ok (.goto 7, 3) := by decide +kernel
theorem dX9_firstNot_42 : decode cX9_firstNot 42 = .ok (.iload 5, 2) := by decide +kernel
theorem dX9_firstNot_44 : decode cX9_firstNot 44 = .ok (.istore 4, 2) := by decide +kernel
theorem dX9_firstNot_46 : decode cX9_firstNot 46 = .ok (.goto (-38), 3) := by decide +kernel
theorem dX9_firstNot_49 : decode cX9_firstNot 49 = .ok (.iload_n 3, 1) := by decide +kernel
theorem dX9_firstNot_50 : decode cX9_firstNot 50 = .ok (.ireturn, 1) := by decide +kernel
theorem dX9_comes_0 : decode cX9_comes 0 = .ok (.bipush 16, 2) := by decide +kernel
theorem dX9_comes_2 : decode cX9_comes 2 = .ok (.iload_n 1, 1) := by decide +kernel
theorem dX9_comes_3 : decode cX9_comes 3 = .ok (.imul, 1) := by decide +kernel
theorem dX9_comes_4 : decode cX9_comes 4 = .ok (.aload_n 0, 1) := by decide +kernel
theorem dX9_comes_5 : decode cX9_comes 5 = .ok (.getfield 16, 3) := by decide +kernel
theorem dX9_comes_8 : decode cX9_comes 8 = .ok (.iload_n 1, 1) := by decide +kernel
theorem dX9_comes_9 : decode cX9_comes 9 = .ok (.iaload, 1) := by decide +kernel
theorem dX9_comes_10 : decode cX9_comes 10 = .ok (.iadd, 1) := by decide +kernel
theorem dX9_comes_11 : decode cX9_comes 11 = .ok (.iconst 1, 1) := by decide +kernel
theorem dX9_comes_12 : decode cX9_comes 12 = .ok (.isub, 1) := by decide +kernel
theorem dX9_comes_13 : decode cX9_comes 13 = .ok (.istore 6, 2) := by decide +kernel
theorem dX9_comes_15 : decode cX9_comes 15 = .ok (.aload_n 0, 1) := by decide +kernel
theorem dX9_comes_16 : decode cX9_comes 16 = .ok (.getfield 16, 3) := by decide +kernel
theorem dX9_comes_19 : decode cX9_comes 19 = .ok (.iload_n 1, 1) := by decide +kernel
theorem dX9_comes_20 : decode cX9_comes 20 = .ok (.iaload, 1) := by decide +kernel
theorem dX9_comes_21 : decode cX9_comes 21 = .ok (.ifCond .le 17, 3) := by decide +kernel
theorem dX9_comes_24 : decode cX9_comes 24 = .ok (.aload_n 0, 1) := by decide +kernel
theorem dX9_comes_25 : decode cX9_comes 25 = .ok (.getfield 28, 3) := by decide +kernel
theorem dX9_comes_28 : decode cX9_comes 28 = .ok (.iload 6, 2) := by decide +kernel
theorem dX9_comes_30 : decode cX9_comes 30 = .ok (.baload, 1) := by decide +kernel
theorem dX9_comes_31 : decode cX9_comes 31 = .ok (.ifCond .ne 7, 3) := by decide +kernel
theorem dX9_comes_34 : decode cX9_comes 34 = .ok (.iconst 1, 1) := by decide +kernel
theorem dX9_comes_35 : decode cX9_comes 35 = .ok (.goto 4, 3) := by decide +kernel
theorem dX9_comes_38 : decode cX9_comes 38 = .ok (.iconst 0, 1) := by decide +kernel
theorem dX9_comes_39 : decode cX9_comes 39 = .ok (.istore 7, 2) := by decide +kernel
theorem dX9_comes_41 : decode cX9_comes 41 = .ok (.iload 7, 2) := by decide +kernel
theorem dX9_comes_43 : decode cX9_comes 43 = .ok (.ifCond .eq 46, 3) := by decide +kernel
theorem dX9_comes_46 : decode cX9_comes 46 = .ok (.bipush 14, 2) := by decide +kernel
theorem dX9_comes_48 : decode cX9_comes 48 = .ok (.aload_n 0, 1) := by decide +kernel
theorem dX9_comes_49 : decode cX9_comes 49 = .ok (.getfield 175, 3) := by decide +kernel
theorem dX9_comes_52 : decode cX9_comes 52 = .ok (.aload_n 0, 1) := by decide +kernel
theorem dX9_comes_53 : decode cX9_comes 53 = .ok (.lload_n 2, 1) := by decide +kernel
theorem dX9_comes_54 : decode cX9_comes 54 = .ok (.lload 4, 2) := by decide +kernel
theorem dX9_comes_56 : decode cX9_comes 56 = .ok (.invokevirtual 254, 3) := by decide +kernel
theorem dX9_comes_59 : decode cX9_comes 59 = .ok (.iadd, 1) := by decide +kernel
theorem dX9_comes_60 : decode cX9_comes 60 = .ok (.bipush 7, 2) := by decide +kernel
theorem dX9_comes_62 : decode cX9_comes 62 = .ok (.iadd, 1) := by decide +kernel
theorem dX9_comes_63 : decode cX9_comes 63 = .ok (.bipush 8, 2) := by decide +kernel
theorem dX9_comes_65 : decode cX9_comes 65 = .ok (.idiv, 1) := by decide +kernel
theorem dX9_comes_66 : decode cX9_comes 66 = .ok (.iadd, 1) := by decide +kernel
theorem dX9_comes_67 : decode cX9_comes 67 = .ok (.iconst 1, 1) := by decide +kernel
theorem dX9_comes_68 : decode cX9_comes 68 = .ok (.iadd, 1) := by decide +kernel
theorem dX9_comes_69 : decode cX9_comes 69 = .ok (.aload_n 0, 1) := by decide +kernel
theorem dX9_comes_70 : decode cX9_comes 70 = .ok (.getfield 7, 3) := by decide +kernel
theorem dX9_comes_73 : decode cX9_comes 73 = .ok (.iload_n 1, 1) := by decide +kernel
theorem dX9_comes_74 : decode cX9_comes 74 = .ok (.iaload, 1) := by decide +kernel
theorem dX9_comes_75 : decode cX9_comes 75 = .ok (.if_icmp .gt 14, 3) := by decide +kernel
theorem dX9_comes_78 : decode cX9_comes 78 = .ok (.aload_n 0, 1) := by decide +kernel
theorem dX9_comes_79 : decode cX9_comes 79 = .ok (.iload 6, 2) := by decide +kernel
theorem dX9_comes_81 : decode cX9_comes 81 = .ok (.lload_n 2, 1) := by decide +kernel
theorem dX9_comes_82 : decode cX9_comes 82 = .ok (.lload 4, 2) := by decide +kernel
theorem dX9_comes_84 : decode cX9_comes 84 = .ok (.invokevirtual 258, 3) := by decide +kernel
theorem dX9_comes_87 : decode cX9_comes 87 = .ok (.iconst 1, 1) := by decide +kernel
theorem dX9_comes_88 : decode cX9_comes 88 = .ok (.ireturn, 1) := by decide +kernel
theorem dX9_comes_89 : decode cX9_comes 89 = .ok (.aload_n 0, 1) := by decide +kernel
theorem dX9_comes_90 : decode cX9_comes 90 = .ok (.getfield 16, 3) := by decide +kernel
theorem dX9_comes_93 : decode cX9_comes 93 = .ok (.iload_n 1, 1) := by decide +kernel
theorem dX9_comes_94 : decode cX9_comes 94 = .ok (.iaload, 1) := by decide +kernel
theorem dX9_comes_95 : decode cX9_comes 95 = .ok (.bipush 16, 2) := by decide +kernel
theorem dX9_comes_97 : decode cX9_comes 97 = .ok (.if_icmp .ne 5, 3) := by decide +kernel
theorem dX9_comes_100 : decode cX9_comes 100 = .ok (.iconst 0, 1) := by decide +kernel
theorem dX9_comes_101 : decode cX9_comes 101 = .ok (.ireturn, 1) := by decide +kernel
theorem dX9_comes_102 : decode cX9_comes 102 = .ok (.iload 7, 2) := by decide +kernel
theorem dX9_comes_104 : decode cX9_comes 104 = .ok (.ifCond .eq 9, 3) := by decide +kernel
theorem dX9_comes_107 : decode cX9_comes 107 = .ok (.aload_n 0, 1) := by decide +kernel
theorem dX9_comes_108 : decode cX9_comes 108 = .ok (.iload 6, 2) := by decide +kernel
theorem dX9_comes_110 : decode cX9_comes 110 = .ok (.invokevirtual 262, 3) := by decide +kernel
theorem dX9_comes_113 : decode cX9_comes 113 = .ok (.aload_n 0, 1) := by decide +kernel
theorem dX9_comes_114 : decode cX9_comes 114 = .ok (.getfield 16, 3) := by decide +kernel
theorem dX9_comes_117 : decode cX9_comes 117 = .ok (.iload_n 1, 1) := by decide +kernel
theorem dX9_comes_118 : decode cX9_comes 118 = .ok (.dup2, 1) := by decide +kernel
theorem dX9_comes_119 : decode cX9_comes 119 = .ok (.iaload, 1) := by decide +kernel
theorem dX9_comes_120 : decode cX9_comes 120 = .ok (.iconst 1, 1) := by decide +kernel
theorem dX9_comes_121 : decode cX9_comes 121 = .ok (.iadd, 1) := by decide +kernel
theorem dX9_comes_122 : decode cX9_comes 122 = .ok (.iastore, 1) := by decide +kernel
theorem dX9_comes_123 : decode cX9_comes 123 = .ok (.aload_n 0, 1) := by decide +kernel
theorem dX9_comes_124 : decode cX9_comes 124 = .ok (.bipush 16, 2) := by decide +kernel
theorem dX9_comes_126 : decode cX9_comes 126 = .ok (.iload_n 1, 1) := by decide +kernel
theorem dX9_comes_127 : decode cX9_comes 127 = .ok (.imul, 1) := by decide +kernel
theorem dX9_comes_128 : decode cX9_comes 128 = .ok (.aload_n 0, 1) := by decide +kernel
theorem dX9_comes_129 : decode cX9_comes 129 = .ok (.getfield 16, 3) := by decide +kernel
theorem dX9_comes_132 : decode cX9_comes 132 = .ok (.iload_n 1, 1) := by decide +kernel
theorem dX9_comes_133 : decode cX9_comes 133 = .ok (.iaload, 1) := by decide +kernel
theorem dX9_comes_134 : decode cX9_comes 134 = .ok (.iadd, 1) := by decide +kernel
theorem dX9_comes_135 : decode cX9_comes 135 = .ok (.iconst 1, 1) := by decide +kernel
theorem dX9_comes_136 : decode cX9_comes 136 = .ok (.isub, 1) := by decide +kernel
theorem dX9_comes_137 : decode cX9_comes 137 = .ok (.lload_n 2, 1) := by decide +kernel
theorem dX9_comes_138 : decode cX9_comes 138 = .ok (.lload 4, 2) := by decide +kernel
theorem dX9_comes_140 : decode cX9_comes 140 = .ok (.invokevirtual 265, 3) := by decide +kernel
theorem dX9_comes_143 : decode cX9_comes 143 = .ok (.iconst 1, 1) := by decide +kernel
theorem dX9_comes_144 : decode cX9_comes 144 = .ok (.ireturn, 1) := by decide +kernel
theorem dX9_packs_0 : decode cX9_packs 0 = .ok (.aload_n 0, 1) := by decide +kernel
theorem dX9_packs_1 : decode cX9_packs 1 = .ok (.iconst 4, 1) := by decide +kernel
theorem dX9_packs_2 : decode cX9_packs 2 = .ok (.iload_n 1, 1) := by decide +kernel
theorem dX9_packs_3 : decode cX9_packs 3 = .ok (.invokevirtual 103, 3) := by decide +kernel
theorem dX9_packs_6 : decode cX9_packs 6 = .ok (.iconst 0, 1) := by decide +kernel
theorem dX9_packs_7 : decode cX9_packs 7 = .ok (.istore_n 2, 1) := by decide +kernel
theorem dX9_packs_8 : decode cX9_packs 8 = .ok (.iload_n 2, 1) := by decide +kernel
theorem dX9_packs_9 : decode cX9_packs 9 = .ok (.aload_n 0, 1) := by decide +kernel
theorem dX9_packs_10 : decode cX9_packs 10 = .ok (.getfield 248, 3) := by decide +kernel
theorem dX9_packs_13 : decode cX9_packs 13 = .ok (.if_icmp .ge 31, 3) := by decide +kernel
theorem dX9_packs_16 : decode cX9_packs 16 = .ok (.aload_n 0, 1) := by decide +kernel
theorem dX9_packs_17 : decode cX9_packs 17 = .ok (.iconst 4, 1) := by decide +kernel
theorem dX9_packs_18 : decode cX9_packs 18 = .ok (.aload_n 0, 1) := by decide +kernel
theorem dX9_packs_19 : decode cX9_packs 19 = .ok (.getfield 66, 3) := by decide +kernel
theorem dX9_packs_22 : decode cX9_packs 22 = .ok (.iload_n 2, 1) := by decide +kernel
theorem dX9_packs_23 : decode cX9_packs 23 = .ok (.laload, 1) := by decide +kernel
theorem dX9_packs_24 : decode cX9_packs 24 = .ok (.aload_n 0, 1) := by decide +kernel
theorem dX9_packs_25 : decode cX9_packs 25 = .ok (.getfield 69, 3) := by decide +kernel
theorem dX9_packs_28 : decode cX9_packs 28 = .ok (.iload_n 2, 1) := by decide +kernel
theorem dX9_packs_29 : decode cX9_packs 29 = .ok (.laload, 1) := by decide +kernel
theorem dX9_packs_30 : decode cX9_packs 30 = .ok (.invokevirtual 268, 3) := by decide +kernel
theorem dX9_packs_33 : decode cX9_packs 33 = .ok (.ifCond .ne 5, 3) := by decide +kernel
theorem dX9_packs_36 : decode cX9_packs 36 = .ok (.iconst 0, 1) := by decide +kernel
theorem dX9_packs_37 : decode cX9_packs 37 = .ok (.ireturn, 1) := by decide +kernel
theorem dX9_packs_38 : decode cX9_packs 38 = .ok (.iinc 2 1, 3) := by decide +kernel
theorem dX9_packs_41 : decode cX9_packs 41 = .ok (.goto (-33), 3) := by decide +kernel
theorem dX9_packs_44 : decode cX9_packs 44 = .ok (.iconst 1, 1) := by decide +kernel
theorem dX9_packs_45 : decode cX9_packs 45 = .ok (.ireturn, 1) := by decide +kernel
theorem dX9_bytesOf_0 : decode cX9_bytesOf 0 = .ok (.iconst 0, 1) := by decide +kernel
theorem dX9_bytesOf_1 : decode cX9_bytesOf 1 = .ok (.istore_n 2, 1) := by decide +kernel
theorem dX9_bytesOf_2 : decode cX9_bytesOf 2 = .ok (.iconst 0, 1) := by decide +kernel
theorem dX9_bytesOf_3 : decode cX9_bytesOf 3 = .ok (.istore_n 3, 1) := by decide +kernel
theorem dX9_bytesOf_4 : decode cX9_bytesOf 4 = .ok (.iload_n 3, 1) := by decide +kernel
theorem dX9_bytesOf_5 : decode cX9_bytesOf 5 = .ok (.aload_n 0, 1) := by decide +kernel
theorem dX9_bytesOf_6 : decode cX9_bytesOf 6 = .ok (.getfield 16, 3) := by decide +kernel
theorem dX9_bytesOf_9 : decode cX9_bytesOf 9 = .ok (.iload_n 1, 1) := by decide +kernel
theorem dX9_bytesOf_10 : decode cX9_bytesOf 10 = .ok (.iaload, 1) := by decide +kernel
theorem dX9_bytesOf_11 : decode cX9_bytesOf 11 = .ok (.if_icmp .ge 23, 3) := by decide +kernel
theorem dX9_bytesOf_14 : decode cX9_bytesOf 14 = .ok (.iload_n 2, 1) := by decide +kernel
theorem dX9_bytesOf_15 : decode cX9_bytesOf 15 = .ok (.aload_n 0, 1) := by decide +kernel
theorem dX9_bytesOf_16 : decode cX9_bytesOf 16 = .ok (.getfield 22, 3) := by decide +kernel
theorem dX9_bytesOf_19 : decode cX9_bytesOf 19 = .ok (.bipush 16, 2) := by decide +kernel
theorem dX9_bytesOf_21 : decode cX9_bytesOf 21 = .ok (.iload_n 1, 1) := by decide +kernel
theorem dX9_bytesOf_22 : decode cX9_bytesOf 22 = .ok (.imul, 1) := by decide +kernel
theorem dX9_bytesOf_23 : decode cX9_bytesOf 23 = .ok (.iload_n 3, 1) := by decide +kernel
theorem dX9_bytesOf_24 : decode cX9_bytesOf 24 = .ok (.iadd, 1) := by decide +kernel
theorem dX9_bytesOf_25 : decode cX9_bytesOf 25 = .ok (.iaload, 1) := by decide +kernel
theorem dX9_bytesOf_26 : decode cX9_bytesOf 26 = .ok (.iadd, 1) := by decide +kernel
theorem dX9_bytesOf_27 : decode cX9_bytesOf 27 = .ok (.istore_n 2, 1) := by decide +kernel
theorem dX9_bytesOf_28 : decode cX9_bytesOf 28 = .ok (.iinc 3 1, 3) := by decide +kernel
theorem dX9_bytesOf_31 : decode cX9_bytesOf 31 = .ok (.goto (-27), 3) := by decide +kernel
theorem dX9_bytesOf_34 : decode cX9_bytesOf 34 = .ok (.iload_n 2, 1) := by decide +kernel
theorem dX9_bytesOf_35 : decode cX9_bytesOf 35 = .ok (.ireturn, 1) := by decide +kernel
theorem dX9_copiesTo_0 : decode cX9_copiesTo 0 = .ok (.aload_n 0, 1) := by decide +kernel
theorem dX9_copiesTo_1 : decode cX9_copiesTo 1 = .ok (.getfield 7, 3) := by decide +kernel
theorem dX9_copiesTo_4 : decode cX9_copiesTo 4 = .ok (.iload_n 2, 1) := by decide +kernel
theorem dX9_copiesTo_5 : decode cX9_copiesTo 5 = .ok (.aload_n 0, 1) := by decide +kernel
theorem dX9_copiesTo_6 : decode cX9_copiesTo 6 = .ok (.getfield 7, 3) := by decide +kernel
theorem dX9_copiesTo_9 : decode cX9_copiesTo 9 = .ok (.iload_n 1, 1) := by decide +kernel
theorem dX9_copiesTo_10 : decode cX9_copiesTo 10 = .ok (.iaload, 1) := by decide +kernel
theorem dX9_copiesTo_11 : decode cX9_copiesTo 11 = .ok (.iastore, 1) := by decide +kernel
theorem dX9_copiesTo_12 : decode cX9_copiesTo 12 = .ok (.aload_n 0, 1) := by decide +kernel
theorem dX9_copiesTo_13 : decode cX9_copiesTo 13 = .ok (.getfield 13, 3) := by decide +kernel
theorem dX9_copiesTo_16 : decode cX9_copiesTo 16 = .ok (.iload_n 2, 1) := by decide +kernel
theorem dX9_copiesTo_17 : decode cX9_copiesTo 17 = .ok (.aload_n 0, 1) := by decide +kernel
theorem dX9_copiesTo_18 : decode cX9_copiesTo 18 = .ok (.getfield 13, 3) := by decide +kernel
theorem dX9_copiesTo_21 : decode cX9_copiesTo 21 = .ok (.iload_n 1, 1) := by decide +kernel
theorem dX9_copiesTo_22 : decode cX9_copiesTo 22 = .ok (.iaload, 1) := by decide +kernel
theorem dX9_copiesTo_23 : decode cX9_copiesTo 23 = .ok (.iastore, 1) := by decide +kernel
theorem dX9_copiesTo_24 : decode cX9_copiesTo 24 = .ok (.aload_n 0, 1) := by decide +kernel
theorem dX9_copiesTo_25 : decode cX9_copiesTo 25 = .ok (.getfield 16, 3) := by decide +kernel
theorem dX9_copiesTo_28 : decode cX9_copiesTo 28 = .ok (.iload_n 2, 1) := by decide +kernel
theorem dX9_copiesTo_29 : decode cX9_copiesTo 29 = .ok (.aload_n 0, 1) := by decide +kernel
theorem dX9_copiesTo_30 : decode cX9_copiesTo 30 = .ok (.getfield 16, 3) := by decide +kernel
theorem dX9_copiesTo_33 : decode cX9_copiesTo 33 = .ok (.iload_n 1, 1) := by decide +kernel
theorem dX9_copiesTo_34 : decode cX9_copiesTo 34 = .ok (.iaload, 1) := by decide +kernel
theorem dX9_copiesTo_35 : decode cX9_copiesTo 35 = .ok (.iastore, 1) := by decide +kernel
theorem dX9_copiesTo_36 : decode cX9_copiesTo 36 = .ok (.aload_n 0, 1) := by decide +kernel
theorem dX9_copiesTo_37 : decode cX9_copiesTo 37 = .ok (.getfield 38, 3) := by decide +kernel
theorem dX9_copiesTo_40 : decode cX9_copiesTo 40 = .ok (.iload_n 2, 1) := by decide +kernel
theorem dX9_copiesTo_41 : decode cX9_copiesTo 41 = .ok (.aload_n 0, 1) := by decide +kernel
theorem dX9_copiesTo_42 : decode cX9_copiesTo 42 = .ok (.getfield 38, 3) := by decide +kernel
theorem dX9_copiesTo_45 : decode cX9_copiesTo 45 = .ok (.iload_n 1, 1) := by decide +kernel
theorem dX9_copiesTo_46 : decode cX9_copiesTo 46 = .ok (.iaload, 1) := by decide +kernel
theorem dX9_copiesTo_47 : decode cX9_copiesTo 47 = .ok (.iastore, 1) := by decide +kernel
theorem dX9_copiesTo_48 : decode cX9_copiesTo 48 = .ok (.iconst 0, 1) := by decide +kernel
theorem dX9_copiesTo_49 : decode cX9_copiesTo 49 = .ok (.istore_n 3, 1) := by decide +kernel
theorem dX9_copiesTo_50 : decode cX9_copiesTo 50 = .ok (.iload_n 3, 1) := by decide +kernel
theorem dX9_copiesTo_51 : decode cX9_copiesTo 51 = .ok (.sipush 3200, 3) := by decide +kernel
theorem dX9_copiesTo_54 : decode cX9_copiesTo 54 = .ok (.if_icmp .ge 33, 3) := by decide +kernel
theorem dX9_copiesTo_57 : decode cX9_copiesTo 57 = .ok (.aload_n 0, 1) := by decide +kernel
theorem dX9_copiesTo_58 : decode cX9_copiesTo 58 = .ok (.getfield 19, 3) := by decide +kernel
theorem dX9_copiesTo_61 : decode cX9_copiesTo 61 = .ok (.sipush 3200, 3) := by decide +kernel
theorem dX9_copiesTo_64 : decode cX9_copiesTo 64 = .ok (.iload_n 2, 1) := by decide +kernel
theorem dX9_copiesTo_65 : decode cX9_copiesTo 65 = .ok (.imul, 1) := by decide +kernel
theorem dX9_copiesTo_66 : decode cX9_copiesTo 66 = .ok (.iload_n 3, 1) := by decide +kernel
theorem dX9_copiesTo_67 : decode cX9_copiesTo 67 = .ok (.iadd, 1) := by decide +kernel
theorem dX9_copiesTo_68 : decode cX9_copiesTo 68 = .ok (.aload_n 0, 1) := by decide +kernel
theorem dX9_copiesTo_69 : decode cX9_copiesTo 69 = .ok (.getfield 19, 3) := by decide +kernel
theorem dX9_copiesTo_72 : decode cX9_copiesTo 72 = .ok (.sipush 3200, 3) := by decide +kernel
theorem dX9_copiesTo_75 : decode cX9_copiesTo 75 = .ok (.iload_n 1, 1) := by decide +kernel
theorem dX9_copiesTo_76 : decode cX9_copiesTo 76 = .ok (.imul, 1) := by decide +kernel
theorem dX9_copiesTo_77 : decode cX9_copiesTo 77 = .ok (.iload_n 3, 1) := by decide +kernel
theorem dX9_copiesTo_78 : decode cX9_copiesTo 78 = .ok (.iadd, 1) := by decide +kernel
theorem dX9_copiesTo_79 : decode cX9_copiesTo 79 = .ok (.iaload, 1) := by decide +kernel
theorem dX9_copiesTo_80 : decode cX9_copiesTo 80 = .ok (.iastore, 1) := by decide +kernel
theorem dX9_copiesTo_81 : decode cX9_copiesTo 81 = .ok (.iinc 3 1, 3) := by decide +kernel
theorem dX9_copiesTo_84 : decode cX9_copiesTo 84 = .ok (.goto (-34), 3) := by decide +kernel
theorem dX9_copiesTo_87 : decode cX9_copiesTo 87 = .ok (.iconst 0, 1) := by decide +kernel
theorem dX9_copiesTo_88 : decode cX9_copiesTo 88 = .ok (.istore_n 3, 1) := by decide +kernel
theorem dX9_copiesTo_89 : decode cX9_copiesTo 89 = .ok (.iload_n 3, 1) := by decide +kernel
theorem dX9_copiesTo_90 : decode cX9_copiesTo 90 = .ok (.bipush 16, 2) := by decide +kernel
theorem dX9_copiesTo_92 : decode cX9_copiesTo 92 = .ok (.if_icmp .ge 119, 3) := by decide +kernel
theorem dX9_copiesTo_95 : decode cX9_copiesTo 95 = .ok (.aload_n 0, 1) := by decide +kernel
theorem dX9_copiesTo_96 : decode cX9_copiesTo 96 = .ok (.getfield 22, 3) := by decide +kernel
theorem dX9_copiesTo_99 : decode cX9_copiesTo 99 = .ok (.bipush 16, 2) := by decide +kernel
theorem dX9_copiesTo_101 : decode cX9_copiesTo 101 = .ok (.iload_n 2, 1) := by decide +kernel
theorem dX9_copiesTo_102 : decode cX9_copiesTo 102 = .ok (.imul, 1) := by decide +kernel
theorem dX9_copiesTo_103 : decode cX9_copiesTo 103 = .ok (.iload_n 3, 1) := by decide +kernel
theorem dX9_copiesTo_104 : decode cX9_copiesTo 104 = .ok (.iadd, 1) := by decide +kernel
theorem dX9_copiesTo_105 : decode cX9_copiesTo 105 = .ok (.aload_n 0, 1) := by decide +kernel
theorem dX9_copiesTo_106 : decode cX9_copiesTo 106 = .ok (.getfield 22, 3) := by decide +kernel
theorem dX9_copiesTo_109 : decode cX9_copiesTo 109 = .ok (.bipush 16, 2) := by decide +kernel
theorem dX9_copiesTo_111 : decode cX9_copiesTo 111 = .ok (.iload_n 1, 1) := by decide +kernel
theorem dX9_copiesTo_112 : decode cX9_copiesTo 112 = .ok (.imul, 1) := by decide +kernel
theorem dX9_copiesTo_113 : decode cX9_copiesTo 113 = .ok (.iload_n 3, 1) := by decide +kernel
theorem dX9_copiesTo_114 : decode cX9_copiesTo 114 = .ok (.iadd, 1) := by decide +kernel
theorem dX9_copiesTo_115 : decode cX9_copiesTo 115 = .ok (.iaload, 1) := by decide +kernel
theorem dX9_copiesTo_116 : decode cX9_copiesTo 116 = .ok (.iastore, 1) := by decide +kernel
theorem dX9_copiesTo_117 : decode cX9_copiesTo 117 = .ok (.aload_n 0, 1) := by decide +kernel
theorem dX9_copiesTo_118 : decode cX9_copiesTo 118 = .ok (.getfield 25, 3) := by decide +kernel
theorem dX9_copiesTo_121 : decode cX9_copiesTo 121 = .ok (.bipush 16, 2) := by decide +kernel
theorem dX9_copiesTo_123 : decode cX9_copiesTo 123 = .ok (.iload_n 2, 1) := by decide +kernel
theorem dX9_copiesTo_124 : decode cX9_copiesTo 124 = .ok (.imul, 1) := by decide +kernel
theorem dX9_copiesTo_125 : decode cX9_copiesTo 125 = .ok (.iload_n 3, 1) := by decide +kernel
theorem dX9_copiesTo_126 : decode cX9_copiesTo 126 = .ok (.iadd, 1) := by decide +kernel
theorem dX9_copiesTo_127 : decode cX9_copiesTo 127 = .ok (.aload_n 0, 1) := by decide +kernel
theorem dX9_copiesTo_128 : decode cX9_copiesTo 128 = .ok (.getfield 25, 3) := by decide +kernel
theorem dX9_copiesTo_131 : decode cX9_copiesTo 131 = .ok (.bipush 16, 2) := by decide +kernel
theorem dX9_copiesTo_133 : decode cX9_copiesTo 133 = .ok (.iload_n 1, 1) := by decide +kernel
theorem dX9_copiesTo_134 : decode cX9_copiesTo 134 = .ok (.imul, 1) := by decide +kernel
theorem dX9_copiesTo_135 : decode cX9_copiesTo 135 = .ok (.iload_n 3, 1) := by decide +kernel
theorem dX9_copiesTo_136 : decode cX9_copiesTo 136 = .ok (.iadd, 1) := by decide +kernel
theorem dX9_copiesTo_137 : decode cX9_copiesTo 137 = .ok (.iaload, 1) := by decide +kernel
theorem dX9_copiesTo_138 : decode cX9_copiesTo 138 = .ok (.iastore, 1) := by decide +kernel
theorem dX9_copiesTo_139 : decode cX9_copiesTo 139 = .ok (.aload_n 0, 1) := by decide +kernel
theorem dX9_copiesTo_140 : decode cX9_copiesTo 140 = .ok (.getfield 28, 3) := by decide +kernel
theorem dX9_copiesTo_143 : decode cX9_copiesTo 143 = .ok (.bipush 16, 2) := by decide +kernel
theorem dX9_copiesTo_145 : decode cX9_copiesTo 145 = .ok (.iload_n 2, 1) := by decide +kernel
theorem dX9_copiesTo_146 : decode cX9_copiesTo 146 = .ok (.imul, 1) := by decide +kernel
theorem dX9_copiesTo_147 : decode cX9_copiesTo 147 = .ok (.iload_n 3, 1) := by decide +kernel
theorem dX9_copiesTo_148 : decode cX9_copiesTo 148 = .ok (.iadd, 1) := by decide +kernel
theorem dX9_copiesTo_149 : decode cX9_copiesTo 149 = .ok (.aload_n 0, 1) := by decide +kernel
theorem dX9_copiesTo_150 : decode cX9_copiesTo 150 = .ok (.getfield 28, 3) := by decide +kernel
theorem dX9_copiesTo_153 : decode cX9_copiesTo 153 = .ok (.bipush 16, 2) := by decide +kernel
theorem dX9_copiesTo_155 : decode cX9_copiesTo 155 = .ok (.iload_n 1, 1) := by decide +kernel
theorem dX9_copiesTo_156 : decode cX9_copiesTo 156 = .ok (.imul, 1) := by decide +kernel
theorem dX9_copiesTo_157 : decode cX9_copiesTo 157 = .ok (.iload_n 3, 1) := by decide +kernel
theorem dX9_copiesTo_158 : decode cX9_copiesTo 158 = .ok (.iadd, 1) := by decide +kernel
theorem dX9_copiesTo_159 : decode cX9_copiesTo 159 = .ok (.baload, 1) := by decide +kernel
theorem dX9_copiesTo_160 : decode cX9_copiesTo 160 = .ok (.bastore, 1) := by decide +kernel
theorem dX9_copiesTo_161 : decode cX9_copiesTo 161 = .ok (.aload_n 0, 1) := by decide +kernel
theorem dX9_copiesTo_162 : decode cX9_copiesTo 162 = .ok (.getfield 32, 3) := by decide +kernel
theorem dX9_copiesTo_165 : decode cX9_copiesTo 165 = .ok (.bipush 16, 2) := by decide +kernel
theorem dX9_copiesTo_167 : decode cX9_copiesTo 167 = .ok (.iload_n 2, 1) := by decide +kernel
theorem dX9_copiesTo_168 : decode cX9_copiesTo 168 = .ok (.imul, 1) := by decide +kernel
theorem dX9_copiesTo_169 : decode cX9_copiesTo 169 = .ok (.iload_n 3, 1) := by decide +kernel
theorem dX9_copiesTo_170 : decode cX9_copiesTo 170 = .ok (.iadd, 1) := by decide +kernel
theorem dX9_copiesTo_171 : decode cX9_copiesTo 171 = .ok (.aload_n 0, 1) := by decide +kernel
theorem dX9_copiesTo_172 : decode cX9_copiesTo 172 = .ok (.getfield 32, 3) := by decide +kernel
theorem dX9_copiesTo_175 : decode cX9_copiesTo 175 = .ok (.bipush 16, 2) := by decide +kernel
theorem dX9_copiesTo_177 : decode cX9_copiesTo 177 = .ok (.iload_n 1, 1) := by decide +kernel
theorem dX9_copiesTo_178 : decode cX9_copiesTo 178 = .ok (.imul, 1) := by decide +kernel
theorem dX9_copiesTo_179 : decode cX9_copiesTo 179 = .ok (.iload_n 3, 1) := by decide +kernel
theorem dX9_copiesTo_180 : decode cX9_copiesTo 180 = .ok (.iadd, 1) := by decide +kernel
theorem dX9_copiesTo_181 : decode cX9_copiesTo 181 = .ok (.iaload, 1) := by decide +kernel
theorem dX9_copiesTo_182 : decode cX9_copiesTo 182 = .ok (.iastore, 1) := by decide +kernel
theorem dX9_copiesTo_183 : decode cX9_copiesTo 183 = .ok (.aload_n 0, 1) := by decide +kernel
theorem dX9_copiesTo_184 : decode cX9_copiesTo 184 = .ok (.getfield 35, 3) := by decide +kernel
theorem dX9_copiesTo_187 : decode cX9_copiesTo 187 = .ok (.bipush 16, 2) := by decide +kernel
theorem dX9_copiesTo_189 : decode cX9_copiesTo 189 = .ok (.iload_n 2, 1) := by decide +kernel
theorem dX9_copiesTo_190 : decode cX9_copiesTo 190 = .ok (.imul, 1) := by decide +kernel
theorem dX9_copiesTo_191 : decode cX9_copiesTo 191 = .ok (.iload_n 3, 1) := by decide +kernel
theorem dX9_copiesTo_192 : decode cX9_copiesTo 192 = .ok (.iadd, 1) := by decide +kernel
theorem dX9_copiesTo_193 : decode cX9_copiesTo 193 = .ok (.aload_n 0, 1) := by decide +kernel
theorem dX9_copiesTo_194 : decode cX9_copiesTo 194 = .ok (.getfield 35, 3) := by decide +kernel
theorem dX9_copiesTo_197 : decode cX9_copiesTo 197 = .ok (.bipush 16, 2) := by decide +kernel
theorem dX9_copiesTo_199 : decode cX9_copiesTo 199 = .ok (.iload_n 1, 1) := by decide +kernel
theorem dX9_copiesTo_200 : decode cX9_copiesTo 200 = .ok (.imul, 1) := by decide +kernel
theorem dX9_copiesTo_201 : decode cX9_copiesTo 201 = .ok (.iload_n 3, 1) := by decide +kernel
theorem dX9_copiesTo_202 : decode cX9_copiesTo 202 = .ok (.iadd, 1) := by decide +kernel
theorem dX9_copiesTo_203 : decode cX9_copiesTo 203 = .ok (.iaload, 1) := by decide +kernel
theorem dX9_copiesTo_204 : decode cX9_copiesTo 204 = .ok (.iastore, 1) := by decide +kernel
theorem dX9_copiesTo_205 : decode cX9_copiesTo 205 = .ok (.iinc 3 1, 3) := by decide +kernel
theorem dX9_copiesTo_208 : decode cX9_copiesTo 208 = .ok (.goto (-119), 3) := by decide +kernel
theorem dX9_copiesTo_211 : decode cX9_copiesTo 211 = .ok (.iconst 0, 1) := by decide +kernel
theorem dX9_copiesTo_212 : decode cX9_copiesTo 212 = .ok (.istore_n 3, 1) := by decide +kernel
theorem dX9_copiesTo_213 : decode cX9_copiesTo 213 = .ok (.iload_n 3, 1) := by decide +kernel
theorem dX9_copiesTo_214 : decode cX9_copiesTo 214 = .ok (.bipush 20, 2) := by decide +kernel
theorem dX9_copiesTo_216 : decode cX9_copiesTo 216 = .ok (.if_icmp .ge 53, 3) := by decide +kernel
theorem dX9_copiesTo_219 : decode cX9_copiesTo 219 = .ok (.aload_n 0, 1) := by decide +kernel
theorem dX9_copiesTo_220 : decode cX9_copiesTo 220 = .ok (.getfield 41, 3) := by decide +kernel
theorem dX9_copiesTo_223 : decode cX9_copiesTo 223 = .ok (.bipush 20, 2) := by decide +kernel
theorem dX9_copiesTo_225 : decode cX9_copiesTo 225 = .ok (.iload_n 2, 1) := by decide +kernel
theorem dX9_copiesTo_226 : decode cX9_copiesTo 226 = .ok (.imul, 1) := by decide +kernel
theorem dX9_copiesTo_227 : decode cX9_copiesTo 227 = .ok (.iload_n 3, 1) := by decide +kernel
theorem dX9_copiesTo_228 : decode cX9_copiesTo 228 = .ok (.iadd, 1) := by decide +kernel
theorem dX9_copiesTo_229 : decode cX9_copiesTo 229 = .ok (.aload_n 0, 1) := by decide +kernel
theorem dX9_copiesTo_230 : decode cX9_copiesTo 230 = .ok (.getfield 41, 3) := by decide +kernel
theorem dX9_copiesTo_233 : decode cX9_copiesTo 233 = .ok (.bipush 20, 2) := by decide +kernel
theorem dX9_copiesTo_235 : decode cX9_copiesTo 235 = .ok (.iload_n 1, 1) := by decide +kernel
theorem dX9_copiesTo_236 : decode cX9_copiesTo 236 = .ok (.imul, 1) := by decide +kernel
theorem dX9_copiesTo_237 : decode cX9_copiesTo 237 = .ok (.iload_n 3, 1) := by decide +kernel
theorem dX9_copiesTo_238 : decode cX9_copiesTo 238 = .ok (.iadd, 1) := by decide +kernel
theorem dX9_copiesTo_239 : decode cX9_copiesTo 239 = .ok (.iaload, 1) := by decide +kernel
theorem dX9_copiesTo_240 : decode cX9_copiesTo 240 = .ok (.iastore, 1) := by decide +kernel
theorem dX9_copiesTo_241 : decode cX9_copiesTo 241 = .ok (.aload_n 0, 1) := by decide +kernel
theorem dX9_copiesTo_242 : decode cX9_copiesTo 242 = .ok (.getfield 44, 3) := by decide +kernel
theorem dX9_copiesTo_245 : decode cX9_copiesTo 245 = .ok (.bipush 20, 2) := by decide +kernel
theorem dX9_copiesTo_247 : decode cX9_copiesTo 247 = .ok (.iload_n 2, 1) := by decide +kernel
theorem dX9_copiesTo_248 : decode cX9_copiesTo 248 = .ok (.imul, 1) := by decide +kernel
theorem dX9_copiesTo_249 : decode cX9_copiesTo 249 = .ok (.iload_n 3, 1) := by decide +kernel
theorem dX9_copiesTo_250 : decode cX9_copiesTo 250 = .ok (.iadd, 1) := by decide +kernel
theorem dX9_copiesTo_251 : decode cX9_copiesTo 251 = .ok (.aload_n 0, 1) := by decide +kernel
theorem dX9_copiesTo_252 : decode cX9_copiesTo 252 = .ok (.getfield 44, 3) := by decide +kernel
theorem dX9_copiesTo_255 : decode cX9_copiesTo 255 = .ok (.bipush 20, 2) := by decide +kernel
theorem dX9_copiesTo_257 : decode cX9_copiesTo 257 = .ok (.iload_n 1, 1) := by decide +kernel
theorem dX9_copiesTo_258 : decode cX9_copiesTo 258 = .ok (.imul, 1) := by decide +kernel
theorem dX9_copiesTo_259 : decode cX9_copiesTo 259 = .ok (.iload_n 3, 1) := by decide +kernel
theorem dX9_copiesTo_260 : decode cX9_copiesTo 260 = .ok (.iadd, 1) := by decide +kernel
theorem dX9_copiesTo_261 : decode cX9_copiesTo 261 = .ok (.laload, 1) := by decide +kernel
theorem dX9_copiesTo_262 : decode cX9_copiesTo 262 = .ok (.lastore, 1) := by decide +kernel
theorem dX9_copiesTo_263 : decode cX9_copiesTo 263 = .ok (.iinc 3 1, 3) := by decide +kernel
theorem dX9_copiesTo_266 : decode cX9_copiesTo 266 = .ok (.goto (-53), 3) := by decide +kernel
theorem dX9_copiesTo_269 : decode cX9_copiesTo 269 = .ok (.return_, 1) := by decide +kernel
theorem dX9_lays_0 : decode cX9_lays 0 = .ok (.aload_n 0, 1) := by decide +kernel
theorem dX9_lays_1 : decode cX9_lays 1 = .ok (.iload_n 2, 1) := by decide +kernel
theorem dX9_lays_2 : decode cX9_lays 2 = .ok (.invokevirtual 272, 3) := by decide +kernel
theorem dX9_lays_5 : decode cX9_lays 5 = .ok (.ifCond .ne 6, 3) := by decide +kernel
theorem dX9_lays_8 : decode cX9_lays 8 = .ok (.bipush (-4), 2) := by decide +kernel
theorem dX9_lays_10 : decode cX9_lays 10 = .ok (.ireturn, 1) := by decide +kernel
theorem dX9_lays_11 : decode cX9_lays 11 = .ok (.aload_n 0, 1) := by decide +kernel
theorem dX9_lays_12 : decode cX9_lays 12 = .ok (.getfield 13, 3) := by decide +kernel
theorem dX9_lays_15 : decode cX9_lays 15 = .ok (.iconst 4, 1) := by decide +kernel
theorem dX9_lays_16 : decode cX9_lays 16 = .ok (.aload_n 0, 1) := by decide +kernel
theorem dX9_lays_17 : decode cX9_lays 17 = .ok (.getfield 248, 3) := by decide +kernel
theorem dX9_lays_20 : decode cX9_lays 20 = .ok (.ifCond .ne 7, 3) := by decide +kernel
theorem dX9_lays_23 : decode cX9_lays 23 = .ok (.iconst (-1), 1) := by decide +kernel
theorem dX9_lays_24 : decode cX9_lays 24 = .ok (.goto 15, 3) := by decide +kernel
theorem dX9_lays_27 : decode cX9_lays 27 = .ok (.aload_n 0, 1) := by decide +kernel
theorem dX9_lays_28 : decode cX9_lays 28 = .ok (.getfield 66, 3) := by decide +kernel
theorem dX9_lays_31 : decode cX9_lays 31 = .ok (.aload_n 0, 1) := by decide +kernel
theorem dX9_lays_32 : decode cX9_lays 32 = .ok (.getfield 248, 3) := by decide +kernel
theorem dX9_lays_35 : decode cX9_lays 35 = .ok (.iconst 1, 1) := by decide +kernel
theorem dX9_lays_36 : decode cX9_lays 36 = .ok (.isub, 1) := by decide +kernel
theorem dX9_lays_37 : decode cX9_lays 37 = .ok (.laload, 1) := by decide +kernel
theorem dX9_lays_38 : decode cX9_lays 38 = .ok (.l2i, 1) := by decide +kernel
theorem dX9_lays_39 : decode cX9_lays 39 = .ok (.iastore, 1) := by decide +kernel
theorem dX9_lays_40 : decode cX9_lays 40 = .ok (.aload_n 0, 1) := by decide +kernel
theorem dX9_lays_41 : decode cX9_lays 41 = .ok (.iconst 4, 1) := by decide +kernel
theorem dX9_lays_42 : decode cX9_lays 42 = .ok (.iload_n 1, 1) := by decide +kernel
theorem dX9_lays_43 : decode cX9_lays 43 = .ok (.invokevirtual 275, 3) := by decide +kernel
theorem dX9_lays_46 : decode cX9_lays 46 = .ok (.aload_n 0, 1) := by decide +kernel
theorem dX9_lays_47 : decode cX9_lays 47 = .ok (.getfield 16, 3) := by decide +kernel
theorem dX9_lays_50 : decode cX9_lays 50 = .ok (.iload_n 1, 1) := by decide +kernel
theorem dX9_lays_51 : decode cX9_lays 51 = .ok (.iaload, 1) := by decide +kernel
theorem dX9_lays_52 : decode cX9_lays 52 = .ok (.ireturn, 1) := by decide +kernel
theorem dX9_opens_0 : decode cX9_opens 0 = .ok (.aload_n 0, 1) := by decide +kernel
theorem dX9_opens_1 : decode cX9_opens 1 = .ok (.getfield 16, 3) := by decide +kernel
theorem dX9_opens_4 : decode cX9_opens 4 = .ok (.iload_n 1, 1) := by decide +kernel
theorem dX9_opens_5 : decode cX9_opens 5 = .ok (.iaload, 1) := by decide +kernel
theorem dX9_opens_6 : decode cX9_opens 6 = .ok (.ifCond .le 41, 3) := by decide +kernel
theorem dX9_opens_9 : decode cX9_opens 9 = .ok (.aload_n 0, 1) := by decide +kernel
theorem dX9_opens_10 : decode cX9_opens 10 = .ok (.getfield 28, 3) := by decide +kernel
theorem dX9_opens_13 : decode cX9_opens 13 = .ok (.bipush 16, 2) := by decide +kernel
theorem dX9_opens_15 : decode cX9_opens 15 = .ok (.iload_n 1, 1) := by decide +kernel
theorem dX9_opens_16 : decode cX9_opens 16 = .ok (.imul, 1) := by decide +kernel
theorem dX9_opens_17 : decode cX9_opens 17 = .ok (.aload_n 0, 1) := by decide +kernel
theorem dX9_opens_18 : decode cX9_opens 18 = .ok (.getfield 16, 3) := by decide +kernel
theorem dX9_opens_21 : decode cX9_opens 21 = .ok (.iload_n 1, 1) := by decide +kernel
theorem dX9_opens_22 : decode cX9_opens 22 = .ok (.iaload, 1) := by decide +kernel
theorem dX9_opens_23 : decode cX9_opens 23 = .ok (.iadd, 1) := by decide +kernel
theorem dX9_opens_24 : decode cX9_opens 24 = .ok (.iconst 1, 1) := by decide +kernel
theorem dX9_opens_25 : decode cX9_opens 25 = .ok (.isub, 1) := by decide +kernel
theorem dX9_opens_26 : decode cX9_opens 26 = .ok (.baload, 1) := by decide +kernel
theorem dX9_opens_27 : decode cX9_opens 27 = .ok (.ifCond .ne 20, 3) := by decide +kernel
theorem dX9_opens_30 : decode cX9_opens 30 = .ok (.aload_n 0, 1) := by decide +kernel
theorem dX9_opens_31 : decode cX9_opens 31 = .ok (.bipush 16, 2) := by decide +kernel
theorem dX9_opens_33 : decode cX9_opens 33 = .ok (.iload_n 1, 1) := by decide +kernel
theorem dX9_opens_34 : decode cX9_opens 34 = .ok (.imul, 1) := by decide +kernel
theorem dX9_opens_35 : decode cX9_opens 35 = .ok (.aload_n 0, 1) := by decide +kernel
theorem dX9_opens_36 : decode cX9_opens 36 = .ok (.getfield 16, 3) := by decide +kernel
theorem dX9_opens_39 : decode cX9_opens 39 = .ok (.iload_n 1, 1) := by decide +kernel
theorem dX9_opens_40 : decode cX9_opens 40 = .ok (.iaload, 1) := by decide +kernel
theorem dX9_opens_41 : decode cX9_opens 41 = .ok (.iadd, 1) := by decide +kernel
theorem dX9_opens_42 : decode cX9_opens 42 = .ok (.iconst 1, 1) := by decide +kernel
theorem dX9_opens_43 : decode cX9_opens 43 = .ok (.isub, 1) := by decide +kernel
theorem dX9_opens_44 : decode cX9_opens 44 = .ok (.invokevirtual 242, 3) := by decide +kernel
theorem dX9_opens_47 : decode cX9_opens 47 = .ok (.return_, 1) := by decide +kernel
theorem dX9_isAbove_0 : decode cX9_isAbove 0 = .ok (.aload_n 0, 1) := by decide +kernel
theorem dX9_isAbove_1 : decode cX9_isAbove 1 = .ok (.getfield 13, 3) := by decide +kernel
theorem dX9_isAbove_4 : decode cX9_isAbove 4 = .ok (.iload_n 1, 1) := by decide +kernel
theorem dX9_isAbove_5 : decode cX9_isAbove 5 = .ok (.iaload, 1) := by decide +kernel
theorem dX9_isAbove_6 : decode cX9_isAbove 6 = .ok (.iconst (-1), 1) := by decide +kernel
theorem dX9_isAbove_7 : decode cX9_isAbove 7 = .ok (.if_icmp .eq 13, 3) := by decide +kernel
theorem dX9_isAbove_10 : decode cX9_isAbove 10 = .ok (.iload_n 2, 1) := by decide +kernel
theorem dX9_isAbove_11 : decode cX9_isAbove 11 = .ok (.aload_n 0, 1) := by decide +kernel
theorem dX9_isAbove_12 : decode cX9_isAbove 12 = .ok (.getfield 13, 3) := by decide +kernel
theorem dX9_isAbove_15 : decode cX9_isAbove 15 = .ok (.iload_n 1, 1) := by decide +kernel
theorem dX9_isAbove_16 : decode cX9_isAbove 16 = .ok (.iaload, 1) := by decide +kernel
theorem dX9_isAbove_17 : decode cX9_isAbove 17 = .ok (.if_icmp .le 7, 3) := by decide +kernel
theorem dX9_isAbove_20 : decode cX9_isAbove 20 = .ok (.iconst 1, 1) := by decide +kernel
theorem dX9_isAbove_21 : decode cX9_isAbove 21 = .ok (.goto 4, 3) := by decide +kernel
theorem dX9_isAbove_24 : decode cX9_isAbove 24 = .ok (.iconst 0, 1) := by decide +kernel
theorem dX9_isAbove_25 : decode cX9_isAbove 25 = .ok (.ireturn, 1) := by decide +kernel
theorem dX9_add_0 : decode cX9_add 0 = .ok (.aload_n 0, 1) := by decide +kernel
theorem dX9_add_1 : decode cX9_add 1 = .ok (.iload_n 1, 1) := by decide +kernel
theorem dX9_add_2 : decode cX9_add 2 = .ok (.invokevirtual 87, 3) := by decide +kernel
theorem dX9_add_5 : decode cX9_add 5 = .ok (.ifCond .eq 10, 3) := by decide +kernel
theorem dX9_add_8 : decode cX9_add 8 = .ok (.iload_n 2, 1) := by decide +kernel
theorem dX9_add_9 : decode cX9_add 9 = .ok (.invokestatic 278, 3) := by decide +kernel
theorem dX9_add_12 : decode cX9_add 12 = .ok (.ifCond .ne 6, 3) := by decide +kernel
theorem dX9_add_15 : decode cX9_add 15 = .ok (.bipush (-2), 2) := by decide +kernel
theorem dX9_add_17 : decode cX9_add 17 = .ok (.ireturn, 1) := by decide +kernel
theorem dX9_add_18 : decode cX9_add 18 = .ok (.aload_n 0, 1) := by decide +kernel
theorem dX9_add_19 : decode cX9_add 19 = .ok (.iload_n 1, 1) := by decide +kernel
theorem dX9_add_20 : decode cX9_add 20 = .ok (.iload_n 2, 1) := by decide +kernel
theorem dX9_add_21 : decode cX9_add 21 = .ok (.invokevirtual 281, 3) := by decide +kernel
theorem dX9_add_24 : decode cX9_add 24 = .ok (.ifCond .ne 6, 3) := by decide +kernel
theorem dX9_add_27 : decode cX9_add 27 = .ok (.bipush (-5), 2) := by decide +kernel
theorem dX9_add_29 : decode cX9_add 29 = .ok (.ireturn, 1) := by decide +kernel
theorem dX9_add_30 : decode cX9_add 30 = .ok (.aload_n 0, 1) := by decide +kernel
theorem dX9_add_31 : decode cX9_add 31 = .ok (.iload_n 1, 1) := by decide +kernel
theorem dX9_add_32 : decode cX9_add 32 = .ok (.invokevirtual 285, 3) := by decide +kernel
theorem dX9_add_35 : decode cX9_add 35 = .ok (.aload_n 0, 1) := by decide +kernel
theorem dX9_add_36 : decode cX9_add 36 = .ok (.iload_n 1, 1) := by decide +kernel
theorem dX9_add_37 : decode cX9_add 37 = .ok (.iload_n 2, 1) := by decide +kernel
theorem dX9_add_38 : decode cX9_add 38 = .ok (.i2l, 1) := by decide +kernel
theorem dX9_add_39 : decode cX9_add 39 = .ok (.lload_n 3, 1) := by decide +kernel
theorem dX9_add_40 : decode cX9_add 40 = .ok (.invokevirtual 268, 3) := by decide +kernel
theorem dX9_add_43 : decode cX9_add 43 = .ok (.ifCond .ne 6, 3) := by decide +kernel
theorem dX9_add_46 : decode cX9_add 46 = .ok (.bipush (-4), 2) := by decide +kernel
theorem dX9_add_48 : decode cX9_add 48 = .ok (.ireturn, 1) := by decide +kernel
theorem dX9_add_49 : decode cX9_add 49 = .ok (.aload_n 0, 1) := by decide +kernel
theorem dX9_add_50 : decode cX9_add 50 = .ok (.getfield 13, 3) := by decide +kernel
theorem dX9_add_53 : decode cX9_add 53 = .ok (.iload_n 1, 1) := by decide +kernel
theorem dX9_add_54 : decode cX9_add 54 = .ok (.iload_n 2, 1) := by decide +kernel
theorem dX9_add_55 : decode cX9_add 55 = .ok (.iastore, 1) := by decide +kernel
theorem dX9_add_56 : decode cX9_add 56 = .ok (.aload_n 0, 1) := by decide +kernel
theorem dX9_add_57 : decode cX9_add 57 = .ok (.getfield 16, 3) := by decide +kernel
theorem dX9_add_60 : decode cX9_add 60 = .ok (.iload_n 1, 1) := by decide +kernel
theorem dX9_add_61 : decode cX9_add 61 = .ok (.iaload, 1) := by decide +kernel
theorem dX9_add_62 : decode cX9_add 62 = .ok (.iconst 1, 1) := by decide +kernel
theorem dX9_add_63 : decode cX9_add 63 = .ok (.isub, 1) := by decide +kernel
theorem dX9_add_64 : decode cX9_add 64 = .ok (.ireturn, 1) := by decide +kernel
theorem dX9_would_0 : decode cX9_would 0 = .ok (.aload_n 0, 1) := by decide +kernel
theorem dX9_would_1 : decode cX9_would 1 = .ok (.iload_n 1, 1) := by decide +kernel
theorem dX9_would_2 : decode cX9_would 2 = .ok (.invokevirtual 87, 3) := by decide +kernel
theorem dX9_would_5 : decode cX9_would 5 = .ok (.ifCond .eq 10, 3) := by decide +kernel
theorem dX9_would_8 : decode cX9_would 8 = .ok (.iload_n 2, 1) := by decide +kernel
theorem dX9_would_9 : decode cX9_would 9 = .ok (.invokestatic 278, 3) := by decide +kernel
theorem dX9_would_12 : decode cX9_would 12 = .ok (.ifCond .ne 6, 3) := by decide +kernel
theorem dX9_would_15 : decode cX9_would 15 = .ok (.bipush (-2), 2) := by decide +kernel
theorem dX9_would_17 : decode cX9_would 17 = .ok (.ireturn, 1) := by decide +kernel
theorem dX9_would_18 : decode cX9_would 18 = .ok (.aload_n 0, 1) := by decide +kernel
theorem dX9_would_19 : decode cX9_would 19 = .ok (.iload_n 1, 1) := by decide +kernel
theorem dX9_would_20 : decode cX9_would 20 = .ok (.iload_n 2, 1) := by decide +kernel
theorem dX9_would_21 : decode cX9_would 21 = .ok (.invokevirtual 281, 3) := by decide +kernel
theorem dX9_would_24 : decode cX9_would 24 = .ok (.ifCond .ne 6, 3) := by decide +kernel
theorem dX9_would_27 : decode cX9_would 27 = .ok (.bipush (-5), 2) := by decide +kernel
theorem dX9_would_29 : decode cX9_would 29 = .ok (.ireturn, 1) := by decide +kernel
theorem dX9_would_30 : decode cX9_would 30 = .ok (.aload_n 0, 1) := by decide +kernel
theorem dX9_would_31 : decode cX9_would 31 = .ok (.iload_n 1, 1) := by decide +kernel
theorem dX9_would_32 : decode cX9_would 32 = .ok (.invokevirtual 285, 3) := by decide +kernel
theorem dX9_would_35 : decode cX9_would 35 = .ok (.aload_n 0, 1) := by decide +kernel
theorem dX9_would_36 : decode cX9_would 36 = .ok (.getfield 16, 3) := by decide +kernel
theorem dX9_would_39 : decode cX9_would 39 = .ok (.iload_n 1, 1) := by decide +kernel
theorem dX9_would_40 : decode cX9_would 40 = .ok (.iaload, 1) := by decide +kernel
theorem dX9_would_41 : decode cX9_would 41 = .ok (.ifCond .le 28, 3) := by decide +kernel
theorem dX9_would_44 : decode cX9_would 44 = .ok (.aload_n 0, 1) := by decide +kernel
theorem dX9_would_45 : decode cX9_would 45 = .ok (.getfield 28, 3) := by decide +kernel
theorem dX9_would_48 : decode cX9_would 48 = .ok (.bipush 16, 2) := by decide +kernel
theorem dX9_would_50 : decode cX9_would 50 = .ok (.iload_n 1, 1) := by decide +kernel
theorem dX9_would_51 : decode cX9_would 51 = .ok (.imul, 1) := by decide +kernel
theorem dX9_would_52 : decode cX9_would 52 = .ok (.aload_n 0, 1) := by decide +kernel
theorem dX9_would_53 : decode cX9_would 53 = .ok (.getfield 16, 3) := by decide +kernel
theorem dX9_would_56 : decode cX9_would 56 = .ok (.iload_n 1, 1) := by decide +kernel
theorem dX9_would_57 : decode cX9_would 57 = .ok (.iaload, 1) := by decide +kernel
theorem dX9_would_58 : decode cX9_would 58 = .ok (.iadd, 1) := by decide +kernel
theorem dX9_would_59 : decode cX9_would 59 = .ok (.iconst 1, 1) := by decide +kernel
theorem dX9_would_60 : decode cX9_would 60 = .ok (.isub, 1) := by decide +kernel
theorem dX9_would_61 : decode cX9_would 61 = .ok (.baload, 1) := by decide +kernel
theorem dX9_would_62 : decode cX9_would 62 = .ok (.ifCond .ne 7, 3) := by decide +kernel
theorem dX9_would_65 : decode cX9_would 65 = .ok (.iconst 1, 1) := by decide +kernel
theorem dX9_would_66 : decode cX9_would 66 = .ok (.goto 4, 3) := by decide +kernel
theorem dX9_would_69 : decode cX9_would 69 = .ok (.iconst 0, 1) := by decide +kernel
theorem dX9_would_70 : decode cX9_would 70 = .ok (.istore 5, 2) := by decide +kernel
theorem dX9_would_72 : decode cX9_would 72 = .ok (.iload 5, 2) := by decide +kernel
theorem dX9_would_74 : decode cX9_would 74 = .ok (.ifCond .eq 13, 3) := by decide +kernel
theorem dX9_would_77 : decode cX9_would 77 = .ok (.aload_n 0, 1) := by decide +kernel
theorem dX9_would_78 : decode cX9_would 78 = .ok (.iload_n 2, 1) := by decide +kernel
theorem dX9_would_79 : decode cX9_would 79 = .ok (.i2l, 1) := by decide +kernel
theorem dX9_would_80 : decode cX9_would 80 = .ok (.lload_n 3, 1) := by decide +kernel
theorem dX9_would_81 : decode cX9_would 81 = .ok (.invokevirtual 254, 3) := by decide +kernel
theorem dX9_would_84 : decode cX9_would 84 = .ok (.goto 4, 3) := by decide +kernel
theorem dX9_would_87 : decode cX9_would 87 = .ok (.iconst 0, 1) := by decide +kernel
theorem dX9_would_88 : decode cX9_would 88 = .ok (.istore 6, 2) := by decide +kernel
theorem dX9_would_90 : decode cX9_would 90 = .ok (.iload 5, 2) := by decide +kernel
theorem dX9_would_92 : decode cX9_would 92 = .ok (.ifCond .eq 35, 3) := by decide +kernel
theorem dX9_would_95 : decode cX9_would 95 = .ok (.bipush 14, 2) := by decide +kernel
theorem dX9_would_97 : decode cX9_would 97 = .ok (.aload_n 0, 1) := by decide +kernel
theorem dX9_would_98 : decode cX9_would 98 = .ok (.getfield 175, 3) := by decide +kernel
theorem dX9_would_101 : decode cX9_would 101 = .ok (.iload 6, 2) := by decide +kernel
theorem dX9_would_103 : decode cX9_would 103 = .ok (.iadd, 1) := by decide +kernel
theorem dX9_would_104 : decode cX9_would 104 = .ok (.bipush 7, 2) := by decide +kernel
theorem dX9_would_106 : decode cX9_would 106 = .ok (.iadd, 1) := by decide +kernel
theorem dX9_would_107 : decode cX9_would 107 = .ok (.bipush 8, 2) := by decide +kernel
theorem dX9_would_109 : decode cX9_would 109 = .ok (.idiv, 1) := by decide +kernel
theorem dX9_would_110 : decode cX9_would 110 = .ok (.iadd, 1) := by decide +kernel
theorem dX9_would_111 : decode cX9_would 111 = .ok (.iconst 1, 1) := by decide +kernel
theorem dX9_would_112 : decode cX9_would 112 = .ok (.iadd, 1) := by decide +kernel
theorem dX9_would_113 : decode cX9_would 113 = .ok (.aload_n 0, 1) := by decide +kernel
theorem dX9_would_114 : decode cX9_would 114 = .ok (.getfield 7, 3) := by decide +kernel
theorem dX9_would_117 : decode cX9_would 117 = .ok (.iload_n 1, 1) := by decide +kernel
theorem dX9_would_118 : decode cX9_would 118 = .ok (.iaload, 1) := by decide +kernel
theorem dX9_would_119 : decode cX9_would 119 = .ok (.if_icmp .gt 8, 3) := by decide +kernel
theorem dX9_would_122 : decode cX9_would 122 = .ok (.iload 6, 2) := by decide +kernel
theorem dX9_would_124 : decode cX9_would 124 = .ok (.goto 4, 3) := by decide +kernel
theorem dX9_would_127 : decode cX9_would 127 = .ok (.iconst 0, 1) := by decide +kernel
theorem dX9_would_128 : decode cX9_would 128 = .ok (.ireturn, 1) := by decide +kernel
theorem dX9_late_0 : decode cX9_late 0 = .ok (.aload_n 0, 1) := by decide +kernel
theorem dX9_late_1 : decode cX9_late 1 = .ok (.iload_n 1, 1) := by decide +kernel
theorem dX9_late_2 : decode cX9_late 2 = .ok (.invokevirtual 87, 3) := by decide +kernel
theorem dX9_late_5 : decode cX9_late 5 = .ok (.ifCond .eq 10, 3) := by decide +kernel
theorem dX9_late_8 : decode cX9_late 8 = .ok (.iload_n 2, 1) := by decide +kernel
theorem dX9_late_9 : decode cX9_late 9 = .ok (.invokestatic 278, 3) := by decide +kernel
theorem dX9_late_12 : decode cX9_late 12 = .ok (.ifCond .ne 6, 3) := by decide +kernel
theorem dX9_late_15 : decode cX9_late 15 = .ok (.bipush (-2), 2) := by decide +kernel
theorem dX9_late_17 : decode cX9_late 17 = .ok (.ireturn, 1) := by decide +kernel
theorem dX9_late_18 : decode cX9_late 18 = .ok (.aload_n 0, 1) := by decide +kernel
theorem dX9_late_19 : decode cX9_late 19 = .ok (.getfield 13, 3) := by decide +kernel
theorem dX9_late_22 : decode cX9_late 22 = .ok (.iload_n 1, 1) := by decide +kernel
theorem dX9_late_23 : decode cX9_late 23 = .ok (.iaload, 1) := by decide +kernel
theorem dX9_late_24 : decode cX9_late 24 = .ok (.iconst (-1), 1) := by decide +kernel
theorem dX9_late_25 : decode cX9_late 25 = .ok (.if_icmp .eq 13, 3) := by decide +kernel
theorem dX9_late_28 : decode cX9_late 28 = .ok (.iload_n 2, 1) := by decide +kernel
theorem dX9_late_29 : decode cX9_late 29 = .ok (.aload_n 0, 1) := by decide +kernel
theorem dX9_late_30 : decode cX9_late 30 = .ok (.getfield 13, 3) := by decide +kernel
theorem dX9_late_33 : decode cX9_late 33 = .ok (.iload_n 1, 1) := by decide +kernel
theorem dX9_late_34 : decode cX9_late 34 = .ok (.iaload, 1) := by decide +kernel
theorem dX9_late_35 : decode cX9_late 35 = .ok (.if_icmp .le 6, 3) := by decide +kernel
theorem dX9_late_38 : decode cX9_late 38 = .ok (.bipush (-5), 2) := by decide +kernel
theorem dX9_late_40 : decode cX9_late 40 = .ok (.ireturn, 1) := by decide +kernel
theorem dX9_late_41 : decode cX9_late 41 = .ok (.iconst 0, 1) := by decide +kernel
theorem dX9_late_42 : decode cX9_late 42 = .ok (.istore 5, 2) := by decide +kernel
theorem dX9_late_44 : decode cX9_late 44 = .ok (.iload 5, 2) := by decide +kernel
theorem dX9_late_46 : decode cX9_late 46 = .ok (.aload_n 0, 1) := by decide +kernel
theorem dX9_late_47 : decode cX9_late 47 = .ok (.getfield 38, 3) := by decide +kernel
theorem dX9_late_50 : decode cX9_late 50 = .ok (.iload_n 1, 1) := by decide +kernel
theorem dX9_late_51 : decode cX9_late 51 = .ok (.iaload, 1) := by decide +kernel
theorem dX9_late_52 : decode cX9_late 52 = .ok (.if_icmp .ge 25, 3) := by decide +kernel
theorem dX9_late_55 : decode cX9_late 55 = .ok (.aload_n 0, 1) := by decide +kernel
theorem dX9_late_56 : decode cX9_late 56 = .ok (.getfield 41, 3) := by decide +kernel
theorem dX9_late_59 : decode cX9_late 59 = .ok (.bipush 20, 2) := by decide +kernel
theorem dX9_late_61 : decode cX9_late 61 = .ok (.iload_n 1, 1) := by decide +kernel
theorem dX9_late_62 : decode cX9_late 62 = .ok (.imul, 1) := by decide +kernel
theorem dX9_late_63 : decode cX9_late 63 = .ok (.iload 5, 2) := by decide +kernel
theorem dX9_late_65 : decode cX9_late 65 = .ok (.iadd, 1) := by decide +kernel
theorem dX9_late_66 : decode cX9_late 66 = .ok (.iaload, 1) := by decide +kernel
theorem dX9_late_67 : decode cX9_late 67 = .ok (.iload_n 2, 1) := by decide +kernel
theorem dX9_late_68 : decode cX9_late 68 = .ok (.if_icmp .eq 9, 3) := by decide +kernel
theorem dX9_late_71 : decode cX9_late 71 = .ok (.iinc 5 1, 3) := by decide +kernel
theorem dX9_late_74 : decode cX9_late 74 = .ok (.goto (-30), 3) := by decide +kernel
theorem dX9_late_77 : decode cX9_late 77 = .ok (.iload 5, 2) := by decide +kernel
theorem dX9_late_79 : decode cX9_late 79 = .ok (.bipush 20, 2) := by decide +kernel
theorem dX9_late_81 : decode cX9_late 81 = .ok (.if_icmp .ne 6, 3) := by decide +kernel
theorem dX9_late_84 : decode cX9_late 84 = .ok (.bipush (-4), 2) := by decide +kernel
theorem dX9_late_86 : decode cX9_late 86 = .ok (.ireturn, 1) := by decide +kernel
theorem dX9_late_87 : decode cX9_late 87 = .ok (.aload_n 0, 1) := by decide +kernel
theorem dX9_late_88 : decode cX9_late 88 = .ok (.getfield 41, 3) := by decide +kernel
theorem dX9_late_91 : decode cX9_late 91 = .ok (.bipush 20, 2) := by decide +kernel
theorem dX9_late_93 : decode cX9_late 93 = .ok (.iload_n 1, 1) := by decide +kernel
theorem dX9_late_94 : decode cX9_late 94 = .ok (.imul, 1) := by decide +kernel
theorem dX9_late_95 : decode cX9_late 95 = .ok (.iload 5, 2) := by decide +kernel
theorem dX9_late_97 : decode cX9_late 97 = .ok (.iadd, 1) := by decide +kernel
theorem dX9_late_98 : decode cX9_late 98 = .ok (.iload_n 2, 1) := by decide +kernel
theorem dX9_late_99 : decode cX9_late 99 = .ok (.iastore, 1) := by decide +kernel
theorem dX9_late_100 : decode cX9_late 100 = .ok (.aload_n 0, 1) := by decide +kernel
theorem dX9_late_101 : decode cX9_late 101 = .ok (.getfield 44, 3) := by decide +kernel
theorem dX9_late_104 : decode cX9_late 104 = .ok (.bipush 20, 2) := by decide +kernel
theorem dX9_late_106 : decode cX9_late 106 = .ok (.iload_n 1, 1) := by decide +kernel
theorem dX9_late_107 : decode cX9_late 107 = .ok (.imul, 1) := by decide +kernel
theorem dX9_late_108 : decode cX9_late 108 = .ok (.iload 5, 2) := by decide +kernel
theorem dX9_late_110 : decode cX9_late 110 = .ok (.iadd, 1) := by decide +kernel
theorem dX9_late_111 : decode cX9_late 111 = .ok (.lload_n 3, 1) := by decide +kernel
theorem dX9_late_112 : decode cX9_late 112 = .ok (.lastore, 1) := by decide +kernel
theorem dX9_late_113 : decode cX9_late 113 = .ok (.aload_n 0, 1) := by decide +kernel
theorem dX9_late_114 : decode cX9_late 114 = .ok (.getfield 38, 3) := by decide +kernel
theorem dX9_late_117 : decode cX9_late 117 = .ok (.iload_n 1, 1) := by decide +kernel
theorem dX9_late_118 : decode cX9_late 118 = .ok (.aload_n 0, 1) := by decide +kernel
theorem dX9_late_119 : decode cX9_late 119 = .ok (.getfield 38, 3) := by decide +kernel
theorem dX9_late_122 : decode cX9_late 122 = .ok (.iload_n 1, 1) := by decide +kernel
theorem dX9_late_123 : decode cX9_late 123 = .ok (.iaload, 1) := by decide +kernel
theorem dX9_late_124 : decode cX9_late 124 = .ok (.iload 5, 2) := by decide +kernel
theorem dX9_late_126 : decode cX9_late 126 = .ok (.iconst 1, 1) := by decide +kernel
theorem dX9_late_127 : decode cX9_late 127 = .ok (.iadd, 1) := by decide +kernel
theorem dX9_late_128 : decode cX9_late 128 = .ok (.invokestatic 288, 3) := by decide +kernel
theorem dX9_late_131 : decode cX9_late 131 = .ok (.iastore, 1) := by decide +kernel
theorem dX9_late_132 : decode cX9_late 132 = .ok (.aload_n 0, 1) := by decide +kernel
theorem dX9_late_133 : decode cX9_late 133 = .ok (.getfield 38, 3) := by decide +kernel
theorem dX9_late_136 : decode cX9_late 136 = .ok (.iload_n 1, 1) := by decide +kernel
theorem dX9_late_137 : decode cX9_late 137 = .ok (.iaload, 1) := by decide +kernel
theorem dX9_late_138 : decode cX9_late 138 = .ok (.ireturn, 1) := by decide +kernel
theorem dX9_merge_0 : decode cX9_merge 0 = .ok (.aload_n 0, 1) := by decide +kernel
theorem dX9_merge_1 : decode cX9_merge 1 = .ok (.iload_n 1, 1) := by decide +kernel
theorem dX9_merge_2 : decode cX9_merge 2 = .ok (.invokevirtual 87, 3) := by decide +kernel
theorem dX9_merge_5 : decode cX9_merge 5 = .ok (.ifCond .eq 17, 3) := by decide +kernel
theorem dX9_merge_8 : decode cX9_merge 8 = .ok (.aload_n 0, 1) := by decide +kernel
theorem dX9_merge_9 : decode cX9_merge 9 = .ok (.iload_n 1, 1) := by decide +kernel
theorem dX9_merge_10 : decode cX9_merge 10 = .ok (.aload_n 0, 1) := by decide +kernel
theorem dX9_merge_11 : decode cX9_merge 11 = .ok (.getfield 7, 3) := by decide +kernel
theorem dX9_merge_14 : decode cX9_merge 14 = .ok (.iload_n 1, 1) := by decide +kernel
theorem dX9_merge_15 : decode cX9_merge 15 = .ok (.iaload, 1) := by decide +kernel
theorem dX9_merge_16 : decode cX9_merge 16 = .ok (.invokevirtual 291, 3) := by decide +kernel
theorem dX9_merge_19 : decode cX9_merge 19 = .ok (.goto 5, 3) := by decide +kernel
theorem dX9_merge_22 : decode cX9_merge 22 = .ok (.bipush (-2), 2) := by decide +kernel
theorem dX9_merge_24 : decode cX9_merge 24 = .ok (.ireturn, 1) := by decide +kernel
theorem dX9_repack_0 : decode cX9_repack 0 = .ok (.aload_n 0, 1) := by decide +kernel
theorem dX9_repack_1 : decode cX9_repack 1 = .ok (.iload_n 1, 1) := by decide +kernel
theorem dX9_repack_2 : decode cX9_repack 2 = .ok (.invokevirtual 87, 3) := by decide +kernel
theorem dX9_repack_5 : decode cX9_repack 5 = .ok (.ifCond .eq 17, 3) := by decide +kernel
theorem dX9_repack_8 : decode cX9_repack 8 = .ok (.iload_n 2, 1) := by decide +kernel
theorem dX9_repack_9 : decode cX9_repack 9 = .ok (.i2l, 1) := by decide +kernel
theorem dX9_repack_10 : decode cX9_repack 10 = .ok (.ldc2_w 99, 3) := by decide +kernel
theorem dX9_repack_13 : decode cX9_repack 13 = .ok (.ldc2_w 101, 3) := by decide +kernel
theorem dX9_repack_16 : decode cX9_repack 16 = .ok (.invokestatic 83, 3) := by decide +kernel
theorem dX9_repack_19 : decode cX9_repack 19 = .ok (.ifCond .ne 6, 3) := by decide +kernel
theorem dX9_repack_22 : decode cX9_repack 22 = .ok (.bipush (-2), 2) := by decide +kernel
theorem dX9_repack_24 : decode cX9_repack 24 = .ok (.ireturn, 1) := by decide +kernel
theorem dX9_repack_25 : decode cX9_repack 25 = .ok (.aload_n 0, 1) := by decide +kernel
theorem dX9_repack_26 : decode cX9_repack 26 = .ok (.iload_n 1, 1) := by decide +kernel
theorem dX9_repack_27 : decode cX9_repack 27 = .ok (.invokevirtual 294, 3) := by decide +kernel
theorem dX9_repack_30 : decode cX9_repack 30 = .ok (.ifCond .eq 6, 3) := by decide +kernel
theorem dX9_repack_33 : decode cX9_repack 33 = .ok (.bipush (-6), 2) := by decide +kernel
theorem dX9_repack_35 : decode cX9_repack 35 = .ok (.ireturn, 1) := by decide +kernel
theorem dX9_repack_36 : decode cX9_repack 36 = .ok (.aload_n 0, 1) := by decide +kernel
theorem dX9_repack_37 : decode cX9_repack 37 = .ok (.iload_n 1, 1) := by decide +kernel
theorem dX9_repack_38 : decode cX9_repack 38 = .ok (.invokevirtual 297, 3) := by decide +kernel
theorem dX9_repack_41 : decode cX9_repack 41 = .ok (.aload_n 0, 1) := by decide +kernel
theorem dX9_repack_42 : decode cX9_repack 42 = .ok (.iload_n 1, 1) := by decide +kernel
theorem dX9_repack_43 : decode cX9_repack 43 = .ok (.iload_n 2, 1) := by decide +kernel
theorem dX9_repack_44 : decode cX9_repack 44 = .ok (.invokevirtual 300, 3) := by decide +kernel
theorem dX9_repack_47 : decode cX9_repack 47 = .ok (.ireturn, 1) := by decide +kernel
theorem dX9_count_0 : decode cX9_count 0 = .ok (.aload_n 0, 1) := by decide +kernel
theorem dX9_count_1 : decode cX9_count 1 = .ok (.iload_n 1, 1) := by decide +kernel
theorem dX9_count_2 : decode cX9_count 2 = .ok (.invokevirtual 87, 3) := by decide +kernel
theorem dX9_count_5 : decode cX9_count 5 = .ok (.ifCond .ne 6, 3) := by decide +kernel
theorem dX9_count_8 : decode cX9_count 8 = .ok (.bipush (-2), 2) := by decide +kernel
theorem dX9_count_10 : decode cX9_count 10 = .ok (.ireturn, 1) := by decide +kernel
theorem dX9_count_11 : decode cX9_count 11 = .ok (.iconst 0, 1) := by decide +kernel
theorem dX9_count_12 : decode cX9_count 12 = .ok (.istore_n 3, 1) := by decide +kernel
theorem dX9_count_13 : decode cX9_count 13 = .ok (.iconst 0, 1) := by decide +kernel
theorem dX9_count_14 : decode cX9_count 14 = .ok (.istore 4, 2) := by decide +kernel
theorem dX9_count_16 : decode cX9_count 16 = .ok (.iconst 0, 1) := by decide +kernel
theorem dX9_count_17 : decode cX9_count 17 = .ok (.istore 5, 2) := by decide +kernel
theorem dX9_count_19 : decode cX9_count 19 = .ok (.iload 5, 2) := by decide +kernel
theorem dX9_count_21 : decode cX9_count 21 = .ok (.aload_n 0, 1) := by decide +kernel
theorem dX9_count_22 : decode cX9_count 22 = .ok (.getfield 16, 3) := by decide +kernel
theorem dX9_count_25 : decode cX9_count 25 = .ok (.iload_n 1, 1) := by decide +kernel
theorem dX9_count_26 : decode cX9_count 26 = .ok (.iaload, 1) := by decide +kernel
theorem dX9_count_27 : decode cX9_count 27 = .ok (.if_icmp .ge 56, 3) := by decide +kernel
theorem dX9_count_30 : decode cX9_count 30 = .ok (.aload_n 0, 1) := by decide +kernel
theorem dX9_count_31 : decode cX9_count 31 = .ok (.bipush 16, 2) := by decide +kernel
theorem dX9_count_33 : decode cX9_count 33 = .ok (.iload_n 1, 1) := by decide +kernel
theorem dX9_count_34 : decode cX9_count 34 = .ok (.imul, 1) := by decide +kernel
theorem dX9_count_35 : decode cX9_count 35 = .ok (.iload 5, 2) := by decide +kernel
theorem dX9_count_37 : decode cX9_count 37 = .ok (.iadd, 1) := by decide +kernel
theorem dX9_count_38 : decode cX9_count 38 = .ok (.invokevirtual 245, 3) := by decide +kernel
theorem dX9_count_41 : decode cX9_count 41 = .ok (.istore 6, 2) := by decide +kernel
theorem dX9_count_43 : decode cX9_count 43 = .ok (.iload_n 3, 1) := by decide +kernel
theorem dX9_count_44 : decode cX9_count 44 = .ok (.iload 6, 2) := by decide +kernel
theorem dX9_count_46 : decode cX9_count 46 = .ok (.ifCond .eq 7, 3) := by decide +kernel
theorem dX9_count_49 : decode cX9_count 49 = .ok (.iconst 0, 1) := by decide +kernel
theorem dX9_count_50 : decode cX9_count 50 = .ok (.goto 7, 3) := by decide +kernel
theorem dX9_count_53 : decode cX9_count 53 = .ok (.aload_n 0, 1) := by decide +kernel
theorem dX9_count_54 : decode cX9_count 54 = .ok (.getfield 223, 3) := by decide +kernel
theorem dX9_count_57 : decode cX9_count 57 = .ok (.iadd, 1) := by decide +kernel
theorem dX9_count_58 : decode cX9_count 58 = .ok (.istore_n 3, 1) := by decide +kernel
theorem dX9_count_59 : decode cX9_count 59 = .ok (.iload 4, 2) := by decide +kernel
theorem dX9_count_61 : decode cX9_count 61 = .ok (.iload 6, 2) := by decide +kernel
theorem dX9_count_63 : decode cX9_count 63 = .ok (.ifCond .eq 10, 3) := by decide +kernel
theorem dX9_count_66 : decode cX9_count 66 = .ok (.iconst 1, 1) := by decide +kernel
theorem dX9_count_67 : decode cX9_count 67 = .ok (.iload 5, 2) := by decide +kernel
theorem dX9_count_69 : decode cX9_count 69 = .ok (.ishl, 1) := by decide +kernel
theorem dX9_count_70 : decode cX9_count 70 = .ok (.goto 4, 3) := by decide +kernel
theorem dX9_count_73 : decode cX9_count 73 = .ok (.iconst 0, 1) := by decide +kernel
theorem dX9_count_74 : decode cX9_count 74 = .ok (.ior, 1) := by decide +kernel
theorem dX9_count_75 : decode cX9_count 75 = .ok (.istore 4, 2) := by decide +kernel
theorem dX9_count_77 : decode cX9_count 77 = .ok (.iinc 5 1, 3) := by decide +kernel
theorem dX9_count_80 : decode cX9_count 80 = .ok (.goto (-61), 3) := by decide +kernel
theorem dX9_count_83 : decode cX9_count 83 = .ok (.aload_n 0, 1) := by decide +kernel
theorem dX9_count_84 : decode cX9_count 84 = .ok (.iload_n 1, 1) := by decide +kernel
theorem dX9_count_85 : decode cX9_count 85 = .ok (.invokevirtual 297, 3) := by decide +kernel
theorem dX9_count_88 : decode cX9_count 88 = .ok (.iload_n 2, 1) := by decide +kernel
theorem dX9_count_89 : decode cX9_count 89 = .ok (.tableswitch 91 0 7 #[47, 54, 56, 63, 70, 76, 79, 84], 47) := by decide +kernel
theorem dX9_count_136 : decode cX9_count 136 = .ok (.aload_n 0, 1) := by decide +kernel
theorem dX9_count_137 : decode cX9_count 137 = .ok (.getfield 7, 3) := by decide +kernel
theorem dX9_count_140 : decode cX9_count 140 = .ok (.iload_n 1, 1) := by decide +kernel
theorem dX9_count_141 : decode cX9_count 141 = .ok (.iaload, 1) := by decide +kernel
theorem dX9_count_142 : decode cX9_count 142 = .ok (.ireturn, 1) := by decide +kernel
theorem dX9_count_143 : decode cX9_count 143 = .ok (.iload_n 3, 1) := by decide +kernel
theorem dX9_count_144 : decode cX9_count 144 = .ok (.ireturn, 1) := by decide +kernel
theorem dX9_count_145 : decode cX9_count 145 = .ok (.aload_n 0, 1) := by decide +kernel
theorem dX9_count_146 : decode cX9_count 146 = .ok (.getfield 16, 3) := by decide +kernel
theorem dX9_count_149 : decode cX9_count 149 = .ok (.iload_n 1, 1) := by decide +kernel
theorem dX9_count_150 : decode cX9_count 150 = .ok (.iaload, 1) := by decide +kernel
theorem dX9_count_151 : decode cX9_count 151 = .ok (.ireturn, 1) := by decide +kernel
theorem dX9_count_152 : decode cX9_count 152 = .ok (.aload_n 0, 1) := by decide +kernel
theorem dX9_count_153 : decode cX9_count 153 = .ok (.getfield 38, 3) := by decide +kernel
theorem dX9_count_156 : decode cX9_count 156 = .ok (.iload_n 1, 1) := by decide +kernel
theorem dX9_count_157 : decode cX9_count 157 = .ok (.iaload, 1) := by decide +kernel
theorem dX9_count_158 : decode cX9_count 158 = .ok (.ireturn, 1) := by decide +kernel
theorem dX9_count_159 : decode cX9_count 159 = .ok (.aload_n 0, 1) := by decide +kernel
theorem dX9_count_160 : decode cX9_count 160 = .ok (.iload_n 1, 1) := by decide +kernel
theorem dX9_count_161 : decode cX9_count 161 = .ok (.invokevirtual 303, 3) := by decide +kernel
theorem dX9_count_164 : decode cX9_count 164 = .ok (.ireturn, 1) := by decide +kernel
theorem dX9_count_165 : decode cX9_count 165 = .ok (.iload 4, 2) := by decide +kernel
theorem dX9_count_167 : decode cX9_count 167 = .ok (.ireturn, 1) := by decide +kernel
theorem dX9_count_168 : decode cX9_count 168 = .ok (.aload_n 0, 1) := by decide +kernel
theorem dX9_count_169 : decode cX9_count 169 = .ok (.getfield 248, 3) := by decide +kernel
theorem dX9_count_172 : decode cX9_count 172 = .ok (.ireturn, 1) := by decide +kernel
theorem dX9_count_173 : decode cX9_count 173 = .ok (.aload_n 0, 1) := by decide +kernel
theorem dX9_count_174 : decode cX9_count 174 = .ok (.getfield 13, 3) := by decide +kernel
theorem dX9_count_177 : decode cX9_count 177 = .ok (.iload_n 1, 1) := by decide +kernel
theorem dX9_count_178 : decode cX9_count 178 = .ok (.iaload, 1) := by decide +kernel
theorem dX9_count_179 : decode cX9_count 179 = .ok (.ireturn, 1) := by decide +kernel
theorem dX9_count_180 : decode cX9_count 180 = .ok (.bipush (-2), 2) := by decide +kernel
theorem dX9_count_182 : decode cX9_count 182 = .ok (.ireturn, 1) := by decide +kernel
theorem dX9_block_0 : decode cX9_block 0 = .ok (.aload_n 0, 1) := by decide +kernel
theorem dX9_block_1 : decode cX9_block 1 = .ok (.iload_n 1, 1) := by decide +kernel
theorem dX9_block_2 : decode cX9_block 2 = .ok (.iload_n 2, 1) := by decide +kernel
theorem dX9_block_3 : decode cX9_block 3 = .ok (.invokevirtual 306, 3) := by decide +kernel
theorem dX9_block_6 : decode cX9_block 6 = .ok (.ifCond .eq 15, 3) := by decide +kernel
theorem dX9_block_9 : decode cX9_block 9 = .ok (.iload_n 3, 1) := by decide +kernel
theorem dX9_block_10 : decode cX9_block 10 = .ok (.i2l, 1) := by decide +kernel
theorem dX9_block_11 : decode cX9_block 11 = .ok (.lconst 0, 1) := by decide +kernel
theorem dX9_block_12 : decode cX9_block 12 = .ok (.ldc2_w 309, 3) := by decide +kernel
theorem dX9_block_15 : decode cX9_block 15 = .ok (.invokestatic 83, 3) := by decide +kernel
theorem dX9_block_18 : decode cX9_block 18 = .ok (.ifCond .ne 6, 3) := by decide +kernel
theorem dX9_block_21 : decode cX9_block 21 = .ok (.bipush (-2), 2) := by decide +kernel
theorem dX9_block_23 : decode cX9_block 23 = .ok (.ireturn, 1) := by decide +kernel
theorem dX9_block_24 : decode cX9_block 24 = .ok (.bipush 16, 2) := by decide +kernel
theorem dX9_block_26 : decode cX9_block 26 = .ok (.iload_n 1, 1) := by decide +kernel
theorem dX9_block_27 : decode cX9_block 27 = .ok (.imul, 1) := by decide +kernel
theorem dX9_block_28 : decode cX9_block 28 = .ok (.iload_n 2, 1) := by decide +kernel
theorem dX9_block_29 : decode cX9_block 29 = .ok (.iadd, 1) := by decide +kernel
theorem dX9_block_30 : decode cX9_block 30 = .ok (.istore 4, 2) := by decide +kernel
theorem dX9_block_32 : decode cX9_block 32 = .ok (.iload_n 3, 1) := by decide +kernel
theorem dX9_block_33 : decode cX9_block 33 = .ok (.iconst 3, 1) := by decide +kernel
theorem dX9_block_34 : decode cX9_block 34 = .ok (.if_icmp .eq 8, 3) := by decide +kernel
theorem dX9_block_37 : decode cX9_block 37 = .ok (.iload_n 3, 1) := by decide +kernel
theorem dX9_block_38 : decode cX9_block 38 = .ok (.iconst 5, 1) := by decide +kernel
theorem dX9_block_39 : decode cX9_block 39 = .ok (.if_icmp .ne 34, 3) := by decide +kernel
theorem dX9_block_42 : decode cX9_block 42 = .ok (.iload_n 3, 1) := by decide +kernel
theorem dX9_block_43 : decode cX9_block 43 = .ok (.iconst 3, 1) := by decide +kernel
theorem dX9_block_44 : decode cX9_block 44 = .ok (.if_icmp .ne 13, 3) := by decide +kernel
theorem dX9_block_47 : decode cX9_block 47 = .ok (.aload_n 0, 1) := by decide +kernel
theorem dX9_block_48 : decode cX9_block 48 = .ok (.getfield 22, 3) := by decide +kernel
theorem dX9_block_51 : decode cX9_block 51 = .ok (.iload 4, 2) := by decide +kernel
theorem dX9_block_53 : decode cX9_block 53 = .ok (.iaload, 1) := by decide +kernel
theorem dX9_block_54 : decode cX9_block 54 = .ok (.goto 18, 3) := by decide +kernel
theorem dX9_block_57 : decode cX9_block 57 = .ok (.aload_n 0, 1) := by decide +kernel
theorem dX9_block_58 : decode cX9_block 58 = .ok (.getfield 28, 3) := by decide +kernel
theorem dX9_block_61 : decode cX9_block 61 = .ok (.iload 4, 2) := by decide +kernel
theorem dX9_block_63 : decode cX9_block 63 = .ok (.baload, 1) := by decide +kernel
theorem dX9_block_64 : decode cX9_block 64 = .ok (.ifCond .eq 7, 3) := by decide +kernel
theorem dX9_block_67 : decode cX9_block 67 = .ok (.iconst 1, 1) := by decide +kernel
theorem dX9_block_68 : decode cX9_block 68 = .ok (.goto 4, 3) := by decide +kernel
theorem dX9_block_71 : decode cX9_block 71 = .ok (.iconst 0, 1) := by decide +kernel
theorem dX9_block_72 : decode cX9_block 72 = .ok (.ireturn, 1) := by decide +kernel
theorem dX9_block_73 : decode cX9_block 73 = .ok (.aload_n 0, 1) := by decide +kernel
theorem dX9_block_74 : decode cX9_block 74 = .ok (.iload 4, 2) := by decide +kernel
theorem dX9_block_76 : decode cX9_block 76 = .ok (.invokevirtual 245, 3) := by decide +kernel
theorem dX9_block_79 : decode cX9_block 79 = .ok (.ifCond .eq 6, 3) := by decide +kernel
theorem dX9_block_82 : decode cX9_block 82 = .ok (.bipush (-6), 2) := by decide +kernel
theorem dX9_block_84 : decode cX9_block 84 = .ok (.ireturn, 1) := by decide +kernel
theorem dX9_block_85 : decode cX9_block 85 = .ok (.iload_n 3, 1) := by decide +kernel
theorem dX9_block_86 : decode cX9_block 86 = .ok (.ifCond .ne 12, 3) := by decide +kernel
theorem dX9_block_89 : decode cX9_block 89 = .ok (.aload_n 0, 1) := by decide +kernel
theorem dX9_block_90 : decode cX9_block 90 = .ok (.getfield 51, 3) := by decide +kernel
theorem dX9_block_93 : decode cX9_block 93 = .ok (.iconst 0, 1) := by decide +kernel
theorem dX9_block_94 : decode cX9_block 94 = .ok (.laload, 1) := by decide +kernel
theorem dX9_block_95 : decode cX9_block 95 = .ok (.goto 36, 3) := by decide +kernel
theorem dX9_block_98 : decode cX9_block 98 = .ok (.iload_n 3, 1) := by decide +kernel
theorem dX9_block_99 : decode cX9_block 99 = .ok (.iconst 1, 1) := by decide +kernel
theorem dX9_block_100 : decode cX9_block 100 = .ok (.if_icmp .ne 10, 3) := by decide +kernel
theorem dX9_block_103 : decode cX9_block 103 = .ok (.aload_n 0, 1) := by decide +kernel
theorem dX9_block_104 : decode cX9_block 104 = .ok (.getfield 149, 3) := by decide +kernel
theorem dX9_block_107 : decode cX9_block 107 = .ok (.goto 24, 3) := by decide +kernel
theorem dX9_block_110 : decode cX9_block 110 = .ok (.iload_n 3, 1) := by decide +kernel
theorem dX9_block_111 : decode cX9_block 111 = .ok (.iconst 2, 1) := by decide +kernel
theorem dX9_block_112 : decode cX9_block 112 = .ok (.if_icmp .ne 11, 3) := by decide +kernel
theorem dX9_block_115 : decode cX9_block 115 = .ok (.aload_n 0, 1) := by decide +kernel
theorem dX9_block_116 : decode cX9_block 116 = .ok (.getfield 223, 3) := by decide +kernel
theorem dX9_block_119 : decode cX9_block 119 = .ok (.i2l, 1) := by decide +kernel
theorem dX9_block_120 : decode cX9_block 120 = .ok (.goto 11, 3) := by decide +kernel
theorem dX9_block_123 : decode cX9_block 123 = .ok (.aload_n 0, 1) := by decide +kernel
theorem dX9_block_124 : decode cX9_block 124 = .ok (.getfield 25, 3) := by decide +kernel
theorem dX9_block_127 : decode cX9_block 127 = .ok (.iload 4, 2) := by decide +kernel
theorem dX9_block_129 : decode cX9_block 129 = .ok (.iaload, 1) := by decide +kernel
theorem dX9_block_130 : decode cX9_block 130 = .ok (.i2l, 1) := by decide +kernel
theorem dX9_block_131 : decode cX9_block 131 = .ok (.l2i, 1) := by decide +kernel
theorem dX9_block_132 : decode cX9_block 132 = .ok (.ireturn, 1) := by decide +kernel
theorem dX9_octet_0 : decode cX9_octet 0 = .ok (.aload_n 0, 1) := by decide +kernel
theorem dX9_octet_1 : decode cX9_octet 1 = .ok (.iload_n 1, 1) := by decide +kernel
theorem dX9_octet_2 : decode cX9_octet 2 = .ok (.iload_n 2, 1) := by decide +kernel
theorem dX9_octet_3 : decode cX9_octet 3 = .ok (.invokevirtual 306, 3) := by decide +kernel
theorem dX9_octet_6 : decode cX9_octet 6 = .ok (.ifCond .ne 6, 3) := by decide +kernel
theorem dX9_octet_9 : decode cX9_octet 9 = .ok (.bipush (-2), 2) := by decide +kernel
theorem dX9_octet_11 : decode cX9_octet 11 = .ok (.ireturn, 1) := by decide +kernel
theorem dX9_octet_12 : decode cX9_octet 12 = .ok (.iload_n 3, 1) := by decide +kernel
theorem dX9_octet_13 : decode cX9_octet 13 = .ok (.i2l, 1) := by decide +kernel
theorem dX9_octet_14 : decode cX9_octet 14 = .ok (.lconst 0, 1) := by decide +kernel
theorem dX9_octet_15 : decode cX9_octet 15 = .ok (.aload_n 0, 1) := by decide +kernel
theorem dX9_octet_16 : decode cX9_octet 16 = .ok (.getfield 22, 3) := by decide +kernel
theorem dX9_octet_19 : decode cX9_octet 19 = .ok (.bipush 16, 2) := by decide +kernel
theorem dX9_octet_21 : decode cX9_octet 21 = .ok (.iload_n 1, 1) := by decide +kernel
theorem dX9_octet_22 : decode cX9_octet 22 = .ok (.imul, 1) := by decide +kernel
theorem dX9_octet_23 : decode cX9_octet 23 = .ok (.iload_n 2, 1) := by decide +kernel
theorem dX9_octet_24 : decode cX9_octet 24 = .ok (.iadd, 1) := by decide +kernel
theorem dX9_octet_25 : decode cX9_octet 25 = .ok (.iaload, 1) := by decide +kernel
theorem dX9_octet_26 : decode cX9_octet 26 = .ok (.iconst 1, 1) := by decide +kernel
theorem dX9_octet_27 : decode cX9_octet 27 = .ok (.isub, 1) := by decide +kernel
theorem dX9_octet_28 : decode cX9_octet 28 = .ok (.i2l, 1) := by decide +kernel
theorem dX9_octet_29 : decode cX9_octet 29 = .ok (.invokestatic 83, 3) := by decide +kernel
theorem dX9_octet_32 : decode cX9_octet 32 = .ok (.ifCond .eq 17, 3) := by decide +kernel
theorem dX9_octet_35 : decode cX9_octet 35 = .ok (.aload_n 0, 1) := by decide +kernel
theorem dX9_octet_36 : decode cX9_octet 36 = .ok (.bipush 16, 2) := by decide +kernel
theorem dX9_octet_38 : decode cX9_octet 38 = .ok (.iload_n 1, 1) := by decide +kernel
theorem dX9_octet_39 : decode cX9_octet 39 = .ok (.imul, 1) := by decide +kernel
theorem dX9_octet_40 : decode cX9_octet 40 = .ok (.iload_n 2, 1) := by decide +kernel
theorem dX9_octet_41 : decode cX9_octet 41 = .ok (.iadd, 1) := by decide +kernel
theorem dX9_octet_42 : decode cX9_octet 42 = .ok (.iload_n 3, 1) := by decide +kernel
theorem dX9_octet_43 : decode cX9_octet 43 = .ok (.invokevirtual 107, 3) := by decide +kernel
theorem dX9_octet_46 : decode cX9_octet 46 = .ok (.goto 4, 3) := by decide +kernel
theorem dX9_octet_49 : decode cX9_octet 49 = .ok (.iconst (-1), 1) := by decide +kernel
theorem dX9_octet_50 : decode cX9_octet 50 = .ok (.ireturn, 1) := by decide +kernel
theorem dX9_fault_0 : decode cX9_fault 0 = .ok (.aload_n 0, 1) := by decide +kernel
theorem dX9_fault_1 : decode cX9_fault 1 = .ok (.iload_n 1, 1) := by decide +kernel
theorem dX9_fault_2 : decode cX9_fault 2 = .ok (.iload_n 2, 1) := by decide +kernel
theorem dX9_fault_3 : decode cX9_fault 3 = .ok (.invokevirtual 306, 3) := by decide +kernel
theorem dX9_fault_6 : decode cX9_fault 6 = .ok (.ifCond .eq 13, 3) := by decide +kernel
theorem dX9_fault_9 : decode cX9_fault 9 = .ok (.iload_n 3, 1) := by decide +kernel
theorem dX9_fault_10 : decode cX9_fault 10 = .ok (.i2l, 1) := by decide +kernel
theorem dX9_fault_11 : decode cX9_fault 11 = .ok (.lconst 0, 1) := by decide +kernel
theorem dX9_fault_12 : decode cX9_fault 12 = .ok (.lconst 1, 1) := by decide +kernel
theorem dX9_fault_13 : decode cX9_fault 13 = .ok (.invokestatic 83, 3) := by decide +kernel
theorem dX9_fault_16 : decode cX9_fault 16 = .ok (.ifCond .ne 6, 3) := by decide +kernel
theorem dX9_fault_19 : decode cX9_fault 19 = .ok (.bipush (-2), 2) := by decide +kernel
theorem dX9_fault_21 : decode cX9_fault 21 = .ok (.ireturn, 1) := by decide +kernel
theorem dX9_fault_22 : decode cX9_fault 22 = .ok (.aload_n 0, 1) := by decide +kernel
theorem dX9_fault_23 : decode cX9_fault 23 = .ok (.bipush 16, 2) := by decide +kernel
theorem dX9_fault_25 : decode cX9_fault 25 = .ok (.iload_n 1, 1) := by decide +kernel
theorem dX9_fault_26 : decode cX9_fault 26 = .ok (.imul, 1) := by decide +kernel
theorem dX9_fault_27 : decode cX9_fault 27 = .ok (.iload_n 2, 1) := by decide +kernel
theorem dX9_fault_28 : decode cX9_fault 28 = .ok (.iadd, 1) := by decide +kernel
theorem dX9_fault_29 : decode cX9_fault 29 = .ok (.invokevirtual 242, 3) := by decide +kernel
theorem dX9_fault_32 : decode cX9_fault 32 = .ok (.iload_n 3, 1) := by decide +kernel
theorem dX9_fault_33 : decode cX9_fault 33 = .ok (.ifCond .ne 10, 3) := by decide +kernel
theorem dX9_fault_36 : decode cX9_fault 36 = .ok (.aload_n 0, 1) := by decide +kernel
theorem dX9_fault_37 : decode cX9_fault 37 = .ok (.getfield 203, 3) := by decide +kernel
theorem dX9_fault_40 : decode cX9_fault 40 = .ok (.goto 7, 3) := by decide +kernel
theorem dX9_fault_43 : decode cX9_fault 43 = .ok (.aload_n 0, 1) := by decide +kernel
theorem dX9_fault_44 : decode cX9_fault 44 = .ok (.getfield 206, 3) := by decide +kernel
theorem dX9_fault_47 : decode cX9_fault 47 = .ok (.ireturn, 1) := by decide +kernel
theorem dX9_damage_0 : decode cX9_damage 0 = .ok (.aload_n 0, 1) := by decide +kernel
theorem dX9_damage_1 : decode cX9_damage 1 = .ok (.iload_n 1, 1) := by decide +kernel
theorem dX9_damage_2 : decode cX9_damage 2 = .ok (.iload_n 2, 1) := by decide +kernel
theorem dX9_damage_3 : decode cX9_damage 3 = .ok (.invokevirtual 306, 3) := by decide +kernel
theorem dX9_damage_6 : decode cX9_damage 6 = .ok (.ifCond .eq 39, 3) := by decide +kernel
theorem dX9_damage_9 : decode cX9_damage 9 = .ok (.iload 4, 2) := by decide +kernel
theorem dX9_damage_11 : decode cX9_damage 11 = .ok (.i2l, 1) := by decide +kernel
theorem dX9_damage_12 : decode cX9_damage 12 = .ok (.lconst 0, 1) := by decide +kernel
theorem dX9_damage_13 : decode cX9_damage 13 = .ok (.ldc2_w 190, 3) := by decide +kernel
theorem dX9_damage_16 : decode cX9_damage 16 = .ok (.invokestatic 83, 3) := by decide +kernel
theorem dX9_damage_19 : decode cX9_damage 19 = .ok (.ifCond .eq 26, 3) := by decide +kernel
theorem dX9_damage_22 : decode cX9_damage 22 = .ok (.iload_n 3, 1) := by decide +kernel
theorem dX9_damage_23 : decode cX9_damage 23 = .ok (.i2l, 1) := by decide +kernel
theorem dX9_damage_24 : decode cX9_damage 24 = .ok (.lconst 0, 1) := by decide +kernel
theorem dX9_damage_25 : decode cX9_damage 25 = .ok (.aload_n 0, 1) := by decide +kernel
theorem dX9_damage_26 : decode cX9_damage 26 = .ok (.getfield 22, 3) := by decide +kernel
theorem dX9_damage_29 : decode cX9_damage 29 = .ok (.bipush 16, 2) := by decide +kernel
theorem dX9_damage_31 : decode cX9_damage 31 = .ok (.iload_n 1, 1) := by decide +kernel
theorem dX9_damage_32 : decode cX9_damage 32 = .ok (.imul, 1) := by decide +kernel
theorem dX9_damage_33 : decode cX9_damage 33 = .ok (.iload_n 2, 1) := by decide +kernel
theorem dX9_damage_34 : decode cX9_damage 34 = .ok (.iadd, 1) := by decide +kernel
theorem dX9_damage_35 : decode cX9_damage 35 = .ok (.iaload, 1) := by decide +kernel
theorem dX9_damage_36 : decode cX9_damage 36 = .ok (.iconst 1, 1) := by decide +kernel
theorem dX9_damage_37 : decode cX9_damage 37 = .ok (.isub, 1) := by decide +kernel
theorem dX9_damage_38 : decode cX9_damage 38 = .ok (.i2l, 1) := by decide +kernel
theorem dX9_damage_39 : decode cX9_damage 39 = .ok (.invokestatic 83, 3) := by decide +kernel
theorem dX9_damage_42 : decode cX9_damage 42 = .ok (.ifCond .ne 6, 3) := by decide +kernel
theorem dX9_damage_45 : decode cX9_damage 45 = .ok (.bipush (-2), 2) := by decide +kernel
theorem dX9_damage_47 : decode cX9_damage 47 = .ok (.ireturn, 1) := by decide +kernel
theorem dX9_damage_48 : decode cX9_damage 48 = .ok (.bipush 16, 2) := by decide +kernel
theorem dX9_damage_50 : decode cX9_damage 50 = .ok (.iload_n 1, 1) := by decide +kernel
theorem dX9_damage_51 : decode cX9_damage 51 = .ok (.imul, 1) := by decide +kernel
theorem dX9_damage_52 : decode cX9_damage 52 = .ok (.iload_n 2, 1) := by decide +kernel
theorem dX9_damage_53 : decode cX9_damage 53 = .ok (.iadd, 1) := by decide +kernel
theorem dX9_damage_54 : decode cX9_damage 54 = .ok (.istore 5, 2) := by decide +kernel
theorem dX9_damage_56 : decode cX9_damage 56 = .ok (.aload_n 0, 1) := by decide +kernel
theorem dX9_damage_57 : decode cX9_damage 57 = .ok (.getfield 28, 3) := by decide +kernel
theorem dX9_damage_60 : decode cX9_damage 60 = .ok (.iload 5, 2) := by decide +kernel
theorem dX9_damage_62 : decode cX9_damage 62 = .ok (.baload, 1) := by decide +kernel
theorem dX9_damage_63 : decode cX9_damage 63 = .ok (.ifCond .ne 6, 3) := by decide +kernel
theorem dX9_damage_66 : decode cX9_damage 66 = .ok (.bipush (-5), 2) := by decide +kernel
theorem dX9_damage_68 : decode cX9_damage 68 = .ok (.ireturn, 1) := by decide +kernel
theorem dX9_damage_69 : decode cX9_damage 69 = .ok (.aload_n 0, 1) := by decide +kernel
theorem dX9_damage_70 : decode cX9_damage 70 = .ok (.iload 5, 2) := by decide +kernel
theorem dX9_damage_72 : decode cX9_damage 72 = .ok (.iload_n 3, 1) := by decide +kernel
theorem dX9_damage_73 : decode cX9_damage 73 = .ok (.invokevirtual 107, 3) := by decide +kernel
theorem dX9_damage_76 : decode cX9_damage 76 = .ok (.istore 6, 2) := by decide +kernel
theorem dX9_damage_78 : decode cX9_damage 78 = .ok (.aload_n 0, 1) := by decide +kernel
theorem dX9_damage_79 : decode cX9_damage 79 = .ok (.getfield 19, 3) := by decide +kernel
theorem dX9_damage_82 : decode cX9_damage 82 = .ok (.sipush 200, 3) := by decide +kernel
theorem dX9_damage_85 : decode cX9_damage 85 = .ok (.iload 5, 2) := by decide +kernel
theorem dX9_damage_87 : decode cX9_damage 87 = .ok (.imul, 1) := by decide +kernel
theorem dX9_damage_88 : decode cX9_damage 88 = .ok (.iload_n 3, 1) := by decide +kernel
theorem dX9_damage_89 : decode cX9_damage 89 = .ok (.iadd, 1) := by decide +kernel
theorem dX9_damage_90 : decode cX9_damage 90 = .ok (.iload 4, 2) := by decide +kernel
theorem dX9_damage_92 : decode cX9_damage 92 = .ok (.iastore, 1) := by decide +kernel
theorem dX9_damage_93 : decode cX9_damage 93 = .ok (.iload 6, 2) := by decide +kernel
theorem dX9_damage_95 : decode cX9_damage 95 = .ok (.ireturn, 1) := by decide +kernel
theorem dX9_mendsOf_0 : decode cX9_mendsOf 0 = .ok (.aload_n 0, 1) := by decide +kernel
theorem dX9_mendsOf_1 : decode cX9_mendsOf 1 = .ok (.iload_n 1, 1) := by decide +kernel
theorem dX9_mendsOf_2 : decode cX9_mendsOf 2 = .ok (.invokevirtual 242, 3) := by decide +kernel
theorem dX9_mendsOf_5 : decode cX9_mendsOf 5 = .ok (.aload_n 0, 1) := by decide +kernel
theorem dX9_mendsOf_6 : decode cX9_mendsOf 6 = .ok (.getfield 203, 3) := by decide +kernel
theorem dX9_mendsOf_9 : decode cX9_mendsOf 9 = .ok (.ifCond .ne 5, 3) := by decide +kernel
theorem dX9_mendsOf_12 : decode cX9_mendsOf 12 = .ok (.iconst 0, 1) := by decide +kernel
theorem dX9_mendsOf_13 : decode cX9_mendsOf 13 = .ok (.ireturn, 1) := by decide +kernel
theorem dX9_mendsOf_14 : decode cX9_mendsOf 14 = .ok (.iconst 0, 1) := by decide +kernel
theorem dX9_mendsOf_15 : decode cX9_mendsOf 15 = .ok (.istore_n 3, 1) := by decide +kernel
theorem dX9_mendsOf_16 : decode cX9_mendsOf 16 = .ok (.iconst 0, 1) := by decide +kernel
theorem dX9_mendsOf_17 : decode cX9_mendsOf 17 = .ok (.istore 4, 2) := by decide +kernel
theorem dX9_mendsOf_19 : decode cX9_mendsOf 19 = .ok (.iload 4, 2) := by decide +kernel
theorem dX9_mendsOf_21 : decode cX9_mendsOf 21 = .ok (.aload_n 0, 1) := by decide +kernel
theorem dX9_mendsOf_22 : decode cX9_mendsOf 22 = .ok (.getfield 22, 3) := by decide +kernel
theorem dX9_mendsOf_25 : decode cX9_mendsOf 25 = .ok (.iload_n 1, 1) := by decide +kernel
theorem dX9_mendsOf_26 : decode cX9_mendsOf 26 = .ok (.iaload, 1) := by decide +kernel
theorem dX9_mendsOf_27 : decode cX9_mendsOf 27 = .ok (.if_icmp .ge 126, 3) := by decide +kernel
theorem dX9_mendsOf_30 : decode cX9_mendsOf 30 = .ok (.aload_n 0, 1) := by decide +kernel
theorem dX9_mendsOf_31 : decode cX9_mendsOf 31 = .ok (.iload_n 1, 1) := by decide +kernel
theorem dX9_mendsOf_32 : decode cX9_mendsOf 32 = .ok (.iload 4, 2) := by decide +kernel
theorem dX9_mendsOf_34 : decode cX9_mendsOf 34 = .ok (.invokevirtual 107, 3) := by decide +kernel
theorem dX9_mendsOf_37 : decode cX9_mendsOf 37 = .ok (.istore 5, 2) := by decide +kernel
theorem dX9_mendsOf_39 : decode cX9_mendsOf 39 = .ok (.iconst 0, 1) := by decide +kernel
theorem dX9_mendsOf_40 : decode cX9_mendsOf 40 = .ok (.istore 6, 2) := by decide +kernel
theorem dX9_mendsOf_42 : decode cX9_mendsOf 42 = .ok (.iload 6, 2) := by decide +kernel
theorem dX9_mendsOf_44 : decode cX9_mendsOf 44 = .ok (.sipush 256, 3) := by decide +kernel
theorem dX9_mendsOf_47 : decode cX9_mendsOf 47 = .ok (.if_icmp .ge 85, 3) := by decide +kernel
theorem dX9_mendsOf_50 : decode cX9_mendsOf 50 = .ok (.iload 6, 2) := by decide +kernel
theorem dX9_mendsOf_52 : decode cX9_mendsOf 52 = .ok (.iload 5, 2) := by decide +kernel
theorem dX9_mendsOf_54 : decode cX9_mendsOf 54 = .ok (.if_icmp .ne 6, 3) := by decide +kernel
theorem dX9_mendsOf_57 : decode cX9_mendsOf 57 = .ok (.goto 69, 3) := by decide +kernel
theorem dX9_mendsOf_60 : decode cX9_mendsOf 60 = .ok (.aload_n 0, 1) := by decide +kernel
theorem dX9_mendsOf_61 : decode cX9_mendsOf 61 = .ok (.getfield 19, 3) := by decide +kernel
theorem dX9_mendsOf_64 : decode cX9_mendsOf 64 = .ok (.sipush 200, 3) := by decide +kernel
theorem dX9_mendsOf_67 : decode cX9_mendsOf 67 = .ok (.iload_n 1, 1) := by decide +kernel
theorem dX9_mendsOf_68 : decode cX9_mendsOf 68 = .ok (.imul, 1) := by decide +kernel
theorem dX9_mendsOf_69 : decode cX9_mendsOf 69 = .ok (.iload 4, 2) := by decide +kernel
theorem dX9_mendsOf_71 : decode cX9_mendsOf 71 = .ok (.iadd, 1) := by decide +kernel
theorem dX9_mendsOf_72 : decode cX9_mendsOf 72 = .ok (.iload 6, 2) := by decide +kernel
theorem dX9_mendsOf_74 : decode cX9_mendsOf 74 = .ok (.iastore, 1) := by decide +kernel
theorem dX9_mendsOf_75 : decode cX9_mendsOf 75 = .ok (.aload_n 0, 1) := by decide +kernel
theorem dX9_mendsOf_76 : decode cX9_mendsOf 76 = .ok (.iload_n 1, 1) := by decide +kernel
theorem dX9_mendsOf_77 : decode cX9_mendsOf 77 = .ok (.invokevirtual 242, 3) := by decide +kernel
theorem dX9_mendsOf_80 : decode cX9_mendsOf 80 = .ok (.aload_n 0, 1) := by decide +kernel
theorem dX9_mendsOf_81 : decode cX9_mendsOf 81 = .ok (.getfield 203, 3) := by decide +kernel
theorem dX9_mendsOf_84 : decode cX9_mendsOf 84 = .ok (.ifCond .ne 42, 3) := by decide +kernel
theorem dX9_mendsOf_87 : decode cX9_mendsOf 87 = .ok (.aload_n 0, 1) := by decide +kernel
theorem dX9_mendsOf_88 : decode cX9_mendsOf 88 = .ok (.iload_n 3, 1) := by decide +kernel
theorem dX9_mendsOf_89 : decode cX9_mendsOf 89 = .ok (.iload_n 2, 1) := by decide +kernel
theorem dX9_mendsOf_90 : decode cX9_mendsOf 90 = .ok (.if_icmp .ne 8, 3) := by decide +kernel
theorem dX9_mendsOf_93 : decode cX9_mendsOf 93 = .ok (.iload 4, 2) := by decide +kernel
theorem dX9_mendsOf_95 : decode cX9_mendsOf 95 = .ok (.goto 7, 3) := by decide +kernel
theorem dX9_mendsOf_98 : decode cX9_mendsOf 98 = .ok (.aload_n 0, 1) := by decide +kernel
theorem dX9_mendsOf_99 : decode cX9_mendsOf 99 = .ok (.getfield 311, 3) := by decide +kernel
theorem dX9_mendsOf_102 : decode cX9_mendsOf 102 = .ok (.putfield 311, 3) := by decide +kernel
theorem dX9_mendsOf_105 : decode cX9_mendsOf 105 = .ok (.aload_n 0, 1) := by decide +kernel
theorem dX9_mendsOf_106 : decode cX9_mendsOf 106 = .ok (.iload_n 3, 1) := by decide +kernel
theorem dX9_mendsOf_107 : decode cX9_mendsOf 107 = .ok (.iload_n 2, 1) := by decide +kernel
theorem dX9_mendsOf_108 : decode cX9_mendsOf 108 = .ok (.if_icmp .ne 8, 3) := by decide +kernel
theorem dX9_mendsOf_111 : decode cX9_mendsOf 111 = .ok (.iload 6, 2) := by decide +kernel
theorem dX9_mendsOf_113 : decode cX9_mendsOf 113 = .ok (.goto 7, 3) := by decide +kernel
theorem dX9_mendsOf_116 : decode cX9_mendsOf 116 = .ok (.aload_n 0, 1) := by decide +kernel
theorem dX9_mendsOf_117 : decode cX9_mendsOf 117 = .ok (.getfield 314, 3) := by decide +kernel
theorem dX9_mendsOf_120 : decode cX9_mendsOf 120 = .ok (.putfield 314, 3) := by decide +kernel
theorem dX9_mendsOf_123 : decode cX9_mendsOf 123 = .ok (.iinc 3 1, 3) := by decide +kernel
theorem dX9_mendsOf_126 : decode cX9_mendsOf 126 = .ok (.iinc 6 1, 3) := by decide +kernel
theorem dX9_mendsOf_129 : decode cX9_mendsOf 129 = .ok (.goto (-87), 3) := by decide +kernel
theorem dX9_mendsOf_132 : decode cX9_mendsOf 132 = .ok (.aload_n 0, 1) := by decide +kernel
theorem dX9_mendsOf_133 : decode cX9_mendsOf 133 = .ok (.getfield 19, 3) := by decide +kernel
theorem dX9_mendsOf_136 : decode cX9_mendsOf 136 = .ok (.sipush 200, 3) := by decide +kernel
theorem dX9_mendsOf_139 : decode cX9_mendsOf 139 = .ok (.iload_n 1, 1) := by decide +kernel
theorem dX9_mendsOf_140 : decode cX9_mendsOf 140 = .ok (.imul, 1) := by decide +kernel
theorem dX9_mendsOf_141 : decode cX9_mendsOf 141 = .ok (.iload 4, 2) := by decide +kernel
theorem dX9_mendsOf_143 : decode cX9_mendsOf 143 = .ok (.iadd, 1) := by decide +kernel
theorem dX9_mendsOf_144 : decode cX9_mendsOf 144 = .ok (.iload 5, 2) := by decide +kernel
theorem dX9_mendsOf_146 : decode cX9_mendsOf 146 = .ok (.iastore, 1) := by decide +kernel
theorem dX9_mendsOf_147 : decode cX9_mendsOf 147 = .ok (.iinc 4 1, 3) := by decide +kernel
theorem dX9_mendsOf_150 : decode cX9_mendsOf 150 = .ok (.goto (-131), 3) := by decide +kernel
theorem dX9_mendsOf_153 : decode cX9_mendsOf 153 = .ok (.iload_n 3, 1) := by decide +kernel
theorem dX9_mendsOf_154 : decode cX9_mendsOf 154 = .ok (.ireturn, 1) := by decide +kernel
theorem dX9_mends_0 : decode cX9_mends 0 = .ok (.aload_n 0, 1) := by decide +kernel
theorem dX9_mends_1 : decode cX9_mends 1 = .ok (.iload_n 1, 1) := by decide +kernel
theorem dX9_mends_2 : decode cX9_mends 2 = .ok (.iload_n 2, 1) := by decide +kernel
theorem dX9_mends_3 : decode cX9_mends 3 = .ok (.invokevirtual 306, 3) := by decide +kernel
theorem dX9_mends_6 : decode cX9_mends 6 = .ok (.ifCond .eq 17, 3) := by decide +kernel
theorem dX9_mends_9 : decode cX9_mends 9 = .ok (.aload_n 0, 1) := by decide +kernel
theorem dX9_mends_10 : decode cX9_mends 10 = .ok (.bipush 16, 2) := by decide +kernel
theorem dX9_mends_12 : decode cX9_mends 12 = .ok (.iload_n 1, 1) := by decide +kernel
theorem dX9_mends_13 : decode cX9_mends 13 = .ok (.imul, 1) := by decide +kernel
theorem dX9_mends_14 : decode cX9_mends 14 = .ok (.iload_n 2, 1) := by decide +kernel
theorem dX9_mends_15 : decode cX9_mends 15 = .ok (.iadd, 1) := by decide +kernel
theorem dX9_mends_16 : decode cX9_mends 16 = .ok (.iconst (-1), 1) := by decide +kernel
theorem dX9_mends_17 : decode cX9_mends 17 = .ok (.invokevirtual 317, 3) := by decide +kernel
theorem dX9_mends_20 : decode cX9_mends 20 = .ok (.goto 5, 3) := by decide +kernel
theorem dX9_mends_23 : decode cX9_mends 23 = .ok (.bipush (-2), 2) := by decide +kernel
theorem dX9_mends_25 : decode cX9_mends 25 = .ok (.ireturn, 1) := by decide +kernel
theorem dX9_mend_0 : decode cX9_mend 0 = .ok (.aload_n 0, 1) := by decide +kernel
theorem dX9_mend_1 : decode cX9_mend 1 = .ok (.iload_n 1, 1) := by decide +kernel
theorem dX9_mend_2 : decode cX9_mend 2 = .ok (.iload_n 2, 1) := by decide +kernel
theorem dX9_mend_3 : decode cX9_mend 3 = .ok (.invokevirtual 306, 3) := by decide +kernel
theorem dX9_mend_6 : decode cX9_mend 6 = .ok (.ifCond .eq 14, 3) := by decide +kernel
theorem dX9_mend_9 : decode cX9_mend 9 = .ok (.iload 4, 2) := by decide +kernel
theorem dX9_mend_11 : decode cX9_mend 11 = .ok (.i2l, 1) := by decide +kernel
theorem dX9_mend_12 : decode cX9_mend 12 = .ok (.lconst 0, 1) := by decide +kernel
theorem dX9_mend_13 : decode cX9_mend 13 = .ok (.lconst 1, 1) := by decide +kernel
theorem dX9_mend_14 : decode cX9_mend 14 = .ok (.invokestatic 83, 3) := by decide +kernel
theorem dX9_mend_17 : decode cX9_mend 17 = .ok (.ifCond .ne 6, 3) := by decide +kernel
theorem dX9_mend_20 : decode cX9_mend 20 = .ok (.bipush (-2), 2) := by decide +kernel
theorem dX9_mend_22 : decode cX9_mend 22 = .ok (.ireturn, 1) := by decide +kernel
theorem dX9_mend_23 : decode cX9_mend 23 = .ok (.aload_n 0, 1) := by decide +kernel
theorem dX9_mend_24 : decode cX9_mend 24 = .ok (.bipush 16, 2) := by decide +kernel
theorem dX9_mend_26 : decode cX9_mend 26 = .ok (.iload_n 1, 1) := by decide +kernel
theorem dX9_mend_27 : decode cX9_mend 27 = .ok (.imul, 1) := by decide +kernel
theorem dX9_mend_28 : decode cX9_mend 28 = .ok (.iload_n 2, 1) := by decide +kernel
theorem dX9_mend_29 : decode cX9_mend 29 = .ok (.iadd, 1) := by decide +kernel
theorem dX9_mend_30 : decode cX9_mend 30 = .ok (.iload_n 3, 1) := by decide +kernel
theorem dX9_mend_31 : decode cX9_mend 31 = .ok (.invokevirtual 317, 3) := by decide +kernel
theorem dX9_mend_34 : decode cX9_mend 34 = .ok (.istore 5, 2) := by decide +kernel
theorem dX9_mend_36 : decode cX9_mend 36 = .ok (.iload_n 3, 1) := by decide +kernel
theorem dX9_mend_37 : decode cX9_mend 37 = .ok (.i2l, 1) := by decide +kernel
theorem dX9_mend_38 : decode cX9_mend 38 = .ok (.lconst 0, 1) := by decide +kernel
theorem dX9_mend_39 : decode cX9_mend 39 = .ok (.iload 5, 2) := by decide +kernel
theorem dX9_mend_41 : decode cX9_mend 41 = .ok (.iconst 1, 1) := by decide +kernel
theorem dX9_mend_42 : decode cX9_mend 42 = .ok (.isub, 1) := by decide +kernel
theorem dX9_mend_43 : decode cX9_mend 43 = .ok (.i2l, 1) := by decide +kernel
theorem dX9_mend_44 : decode cX9_mend 44 = .ok (.invokestatic 83, 3) := by decide +kernel
theorem dX9_mend_47 : decode cX9_mend 47 = .ok (.ifCond .ne 7, 3) := by decide +kernel
theorem dX9_mend_50 : decode cX9_mend 50 = .ok (.iconst (-1), 1) := by decide +kernel
theorem dX9_mend_51 : decode cX9_mend 51 = .ok (.goto 19, 3) := by decide +kernel
theorem dX9_mend_54 : decode cX9_mend 54 = .ok (.iload 4, 2) := by decide +kernel
theorem dX9_mend_56 : decode cX9_mend 56 = .ok (.ifCond .ne 10, 3) := by decide +kernel
theorem dX9_mend_59 : decode cX9_mend 59 = .ok (.aload_n 0, 1) := by decide +kernel
theorem dX9_mend_60 : decode cX9_mend 60 = .ok (.getfield 311, 3) := by decide +kernel
theorem dX9_mend_63 : decode cX9_mend 63 = .ok (.goto 7, 3) := by decide +kernel
theorem dX9_mend_66 : decode cX9_mend 66 = .ok (.aload_n 0, 1) := by decide +kernel
theorem dX9_mend_67 : decode cX9_mend 67 = .ok (.getfield 314, 3) := by decide +kernel
theorem dX9_mend_70 : decode cX9_mend 70 = .ok (.ireturn, 1) := by decide +kernel
theorem dX9_seals_0 : decode cX9_seals 0 = .ok (.aload_n 0, 1) := by decide +kernel
theorem dX9_seals_1 : decode cX9_seals 1 = .ok (.iload_n 1, 1) := by decide +kernel
theorem dX9_seals_2 : decode cX9_seals 2 = .ok (.invokevirtual 87, 3) := by decide +kernel
theorem dX9_seals_5 : decode cX9_seals 5 = .ok (.ifCond .ne 6, 3) := by decide +kernel
theorem dX9_seals_8 : decode cX9_seals 8 = .ok (.bipush (-2), 2) := by decide +kernel
theorem dX9_seals_10 : decode cX9_seals 10 = .ok (.ireturn, 1) := by decide +kernel
theorem dX9_seals_11 : decode cX9_seals 11 = .ok (.bipush 16, 2) := by decide +kernel
theorem dX9_seals_13 : decode cX9_seals 13 = .ok (.iload_n 1, 1) := by decide +kernel
theorem dX9_seals_14 : decode cX9_seals 14 = .ok (.imul, 1) := by decide +kernel
theorem dX9_seals_15 : decode cX9_seals 15 = .ok (.aload_n 0, 1) := by decide +kernel
theorem dX9_seals_16 : decode cX9_seals 16 = .ok (.getfield 16, 3) := by decide +kernel
theorem dX9_seals_19 : decode cX9_seals 19 = .ok (.iload_n 1, 1) := by decide +kernel
theorem dX9_seals_20 : decode cX9_seals 20 = .ok (.iaload, 1) := by decide +kernel
theorem dX9_seals_21 : decode cX9_seals 21 = .ok (.iadd, 1) := by decide +kernel
theorem dX9_seals_22 : decode cX9_seals 22 = .ok (.iconst 1, 1) := by decide +kernel
theorem dX9_seals_23 : decode cX9_seals 23 = .ok (.isub, 1) := by decide +kernel
theorem dX9_seals_24 : decode cX9_seals 24 = .ok (.istore_n 2, 1) := by decide +kernel
theorem dX9_seals_25 : decode cX9_seals 25 = .ok (.aload_n 0, 1) := by decide +kernel
theorem dX9_seals_26 : decode cX9_seals 26 = .ok (.getfield 16, 3) := by decide +kernel
theorem dX9_seals_29 : decode cX9_seals 29 = .ok (.iload_n 1, 1) := by decide +kernel
theorem dX9_seals_30 : decode cX9_seals 30 = .ok (.iaload, 1) := by decide +kernel
theorem dX9_seals_31 : decode cX9_seals 31 = .ok (.ifCond .eq 12, 3) := by decide +kernel
theorem dX9_seals_34 : decode cX9_seals 34 = .ok (.aload_n 0, 1) := by decide +kernel
theorem dX9_seals_35 : decode cX9_seals 35 = .ok (.getfield 28, 3) := by decide +kernel
theorem dX9_seals_38 : decode cX9_seals 38 = .ok (.iload_n 2, 1) := by decide +kernel
theorem dX9_seals_39 : decode cX9_seals 39 = .ok (.baload, 1) := by decide +kernel
theorem dX9_seals_40 : decode cX9_seals 40 = .ok (.ifCond .eq 6, 3) := by decide +kernel
theorem dX9_seals_43 : decode cX9_seals 43 = .ok (.bipush (-5), 2) := by decide +kernel
theorem dX9_seals_45 : decode cX9_seals 45 = .ok (.ireturn, 1) := by decide +kernel
theorem dX9_seals_46 : decode cX9_seals 46 = .ok (.aload_n 0, 1) := by decide +kernel
theorem dX9_seals_47 : decode cX9_seals 47 = .ok (.iload_n 2, 1) := by decide +kernel
theorem dX9_seals_48 : decode cX9_seals 48 = .ok (.invokevirtual 242, 3) := by decide +kernel
theorem dX9_seals_51 : decode cX9_seals 51 = .ok (.aload_n 0, 1) := by decide +kernel
theorem dX9_seals_52 : decode cX9_seals 52 = .ok (.iload_n 2, 1) := by decide +kernel
theorem dX9_seals_53 : decode cX9_seals 53 = .ok (.invokevirtual 262, 3) := by decide +kernel
theorem dX9_seals_56 : decode cX9_seals 56 = .ok (.aload_n 0, 1) := by decide +kernel
theorem dX9_seals_57 : decode cX9_seals 57 = .ok (.getfield 22, 3) := by decide +kernel
theorem dX9_seals_60 : decode cX9_seals 60 = .ok (.iload_n 2, 1) := by decide +kernel
theorem dX9_seals_61 : decode cX9_seals 61 = .ok (.iaload, 1) := by decide +kernel
theorem dX9_seals_62 : decode cX9_seals 62 = .ok (.ireturn, 1) := by decide +kernel
theorem dX9_drops_0 : decode cX9_drops 0 = .ok (.aload_n 0, 1) := by decide +kernel
theorem dX9_drops_1 : decode cX9_drops 1 = .ok (.iload_n 1, 1) := by decide +kernel
theorem dX9_drops_2 : decode cX9_drops 2 = .ok (.iload_n 2, 1) := by decide +kernel
theorem dX9_drops_3 : decode cX9_drops 3 = .ok (.invokevirtual 306, 3) := by decide +kernel
theorem dX9_drops_6 : decode cX9_drops 6 = .ok (.ifCond .ne 6, 3) := by decide +kernel
theorem dX9_drops_9 : decode cX9_drops 9 = .ok (.bipush (-2), 2) := by decide +kernel
theorem dX9_drops_11 : decode cX9_drops 11 = .ok (.ireturn, 1) := by decide +kernel
theorem dX9_drops_12 : decode cX9_drops 12 = .ok (.aload_n 0, 1) := by decide +kernel
theorem dX9_drops_13 : decode cX9_drops 13 = .ok (.getfield 16, 3) := by decide +kernel
theorem dX9_drops_16 : decode cX9_drops 16 = .ok (.iload_n 1, 1) := by decide +kernel
theorem dX9_drops_17 : decode cX9_drops 17 = .ok (.dup2, 1) := by decide +kernel
theorem dX9_drops_18 : decode cX9_drops 18 = .ok (.iaload, 1) := by decide +kernel
theorem dX9_drops_19 : decode cX9_drops 19 = .ok (.iconst 1, 1) := by decide +kernel
theorem dX9_drops_20 : decode cX9_drops 20 = .ok (.isub, 1) := by decide +kernel
theorem dX9_drops_21 : decode cX9_drops 21 = .ok (.iastore, 1) := by decide +kernel
theorem dX9_drops_22 : decode cX9_drops 22 = .ok (.bipush 16, 2) := by decide +kernel
theorem dX9_drops_24 : decode cX9_drops 24 = .ok (.iload_n 1, 1) := by decide +kernel
theorem dX9_drops_25 : decode cX9_drops 25 = .ok (.imul, 1) := by decide +kernel
theorem dX9_drops_26 : decode cX9_drops 26 = .ok (.iload_n 2, 1) := by decide +kernel
theorem dX9_drops_27 : decode cX9_drops 27 = .ok (.iadd, 1) := by decide +kernel
theorem dX9_drops_28 : decode cX9_drops 28 = .ok (.istore_n 3, 1) := by decide +kernel
theorem dX9_drops_29 : decode cX9_drops 29 = .ok (.iload_n 3, 1) := by decide +kernel
theorem dX9_drops_30 : decode cX9_drops 30 = .ok (.bipush 16, 2) := by decide +kernel
theorem dX9_drops_32 : decode cX9_drops 32 = .ok (.iload_n 1, 1) := by decide +kernel
theorem dX9_drops_33 : decode cX9_drops 33 = .ok (.imul, 1) := by decide +kernel
theorem dX9_drops_34 : decode cX9_drops 34 = .ok (.aload_n 0, 1) := by decide +kernel
theorem dX9_drops_35 : decode cX9_drops 35 = .ok (.getfield 16, 3) := by decide +kernel
theorem dX9_drops_38 : decode cX9_drops 38 = .ok (.iload_n 1, 1) := by decide +kernel
theorem dX9_drops_39 : decode cX9_drops 39 = .ok (.iaload, 1) := by decide +kernel
theorem dX9_drops_40 : decode cX9_drops 40 = .ok (.iadd, 1) := by decide +kernel
theorem dX9_drops_41 : decode cX9_drops 41 = .ok (.if_icmp .ge 124, 3) := by decide +kernel
theorem dX9_drops_44 : decode cX9_drops 44 = .ok (.iconst 0, 1) := by decide +kernel
theorem dX9_drops_45 : decode cX9_drops 45 = .ok (.istore 4, 2) := by decide +kernel
theorem dX9_drops_47 : decode cX9_drops 47 = .ok (.iload 4, 2) := by decide +kernel
theorem dX9_drops_49 : decode cX9_drops 49 = .ok (.sipush 200, 3) := by decide +kernel
theorem dX9_drops_52 : decode cX9_drops 52 = .ok (.if_icmp .ge 37, 3) := by decide +kernel
theorem dX9_drops_55 : decode cX9_drops 55 = .ok (.aload_n 0, 1) := by decide +kernel
theorem dX9_drops_56 : decode cX9_drops 56 = .ok (.getfield 19, 3) := by decide +kernel
theorem dX9_drops_59 : decode cX9_drops 59 = .ok (.sipush 200, 3) := by decide +kernel
theorem dX9_drops_62 : decode cX9_drops 62 = .ok (.iload_n 3, 1) := by decide +kernel
theorem dX9_drops_63 : decode cX9_drops 63 = .ok (.imul, 1) := by decide +kernel
theorem dX9_drops_64 : decode cX9_drops 64 = .ok (.iload 4, 2) := by decide +kernel
theorem dX9_drops_66 : decode cX9_drops 66 = .ok (.iadd, 1) := by decide +kernel
theorem dX9_drops_67 : decode cX9_drops 67 = .ok (.aload_n 0, 1) := by decide +kernel
theorem dX9_drops_68 : decode cX9_drops 68 = .ok (.getfield 19, 3) := by decide +kernel
theorem dX9_drops_71 : decode cX9_drops 71 = .ok (.sipush 200, 3) := by decide +kernel
theorem dX9_drops_74 : decode cX9_drops 74 = .ok (.iload_n 3, 1) := by decide +kernel
theorem dX9_drops_75 : decode cX9_drops 75 = .ok (.iconst 1, 1) := by decide +kernel
theorem dX9_drops_76 : decode cX9_drops 76 = .ok (.iadd, 1) := by decide +kernel
theorem dX9_drops_77 : decode cX9_drops 77 = .ok (.imul, 1) := by decide +kernel
theorem dX9_drops_78 : decode cX9_drops 78 = .ok (.iload 4, 2) := by decide +kernel
theorem dX9_drops_80 : decode cX9_drops 80 = .ok (.iadd, 1) := by decide +kernel
theorem dX9_drops_81 : decode cX9_drops 81 = .ok (.iaload, 1) := by decide +kernel
theorem dX9_drops_82 : decode cX9_drops 82 = .ok (.iastore, 1) := by decide +kernel
theorem dX9_drops_83 : decode cX9_drops 83 = .ok (.iinc 4 1, 3) := by decide +kernel
theorem dX9_drops_86 : decode cX9_drops 86 = .ok (.goto (-39), 3) := by decide +kernel
theorem dX9_drops_89 : decode cX9_drops 89 = .ok (.aload_n 0, 1) := by decide +kernel
theorem dX9_drops_90 : decode cX9_drops 90 = .ok (.getfield 22, 3) := by decide +kernel
theorem dX9_drops_93 : decode cX9_drops 93 = .ok (.iload_n 3, 1) := by decide +kernel
theorem dX9_drops_94 : decode cX9_drops 94 = .ok (.aload_n 0, 1) := by decide +kernel
theorem dX9_drops_95 : decode cX9_drops 95 = .ok (.getfield 22, 3) := by decide +kernel
theorem dX9_drops_98 : decode cX9_drops 98 = .ok (.iload_n 3, 1) := by decide +kernel
theorem dX9_drops_99 : decode cX9_drops 99 = .ok (.iconst 1, 1) := by decide +kernel
theorem dX9_drops_100 : decode cX9_drops 100 = .ok (.iadd, 1) := by decide +kernel
theorem dX9_drops_101 : decode cX9_drops 101 = .ok (.iaload, 1) := by decide +kernel
theorem dX9_drops_102 : decode cX9_drops 102 = .ok (.iastore, 1) := by decide +kernel
theorem dX9_drops_103 : decode cX9_drops 103 = .ok (.aload_n 0, 1) := by decide +kernel
theorem dX9_drops_104 : decode cX9_drops 104 = .ok (.getfield 25, 3) := by decide +kernel
theorem dX9_drops_107 : decode cX9_drops 107 = .ok (.iload_n 3, 1) := by decide +kernel
theorem dX9_drops_108 : decode cX9_drops 108 = .ok (.aload_n 0, 1) := by decide +kernel
theorem dX9_drops_109 : decode cX9_drops 109 = .ok (.getfield 25, 3) := by decide +kernel
theorem dX9_drops_112 : decode cX9_drops 112 = .ok (.iload_n 3, 1) := by decide +kernel
theorem dX9_drops_113 : decode cX9_drops 113 = .ok (.iconst 1, 1) := by decide +kernel
theorem dX9_drops_114 : decode cX9_drops 114 = .ok (.iadd, 1) := by decide +kernel
theorem dX9_drops_115 : decode cX9_drops 115 = .ok (.iaload, 1) := by decide +kernel
theorem dX9_drops_116 : decode cX9_drops 116 = .ok (.iastore, 1) := by decide +kernel
theorem dX9_drops_117 : decode cX9_drops 117 = .ok (.aload_n 0, 1) := by decide +kernel
theorem dX9_drops_118 : decode cX9_drops 118 = .ok (.getfield 28, 3) := by decide +kernel
theorem dX9_drops_121 : decode cX9_drops 121 = .ok (.iload_n 3, 1) := by decide +kernel
theorem dX9_drops_122 : decode cX9_drops 122 = .ok (.aload_n 0, 1) := by decide +kernel
theorem dX9_drops_123 : decode cX9_drops 123 = .ok (.getfield 28, 3) := by decide +kernel
theorem dX9_drops_126 : decode cX9_drops 126 = .ok (.iload_n 3, 1) := by decide +kernel
theorem dX9_drops_127 : decode cX9_drops 127 = .ok (.iconst 1, 1) := by decide +kernel
theorem dX9_drops_128 : decode cX9_drops 128 = .ok (.iadd, 1) := by decide +kernel
theorem dX9_drops_129 : decode cX9_drops 129 = .ok (.baload, 1) := by decide +kernel
theorem dX9_drops_130 : decode cX9_drops 130 = .ok (.bastore, 1) := by decide +kernel
theorem dX9_drops_131 : decode cX9_drops 131 = .ok (.aload_n 0, 1) := by decide +kernel
theorem dX9_drops_132 : decode cX9_drops 132 = .ok (.getfield 32, 3) := by decide +kernel
theorem dX9_drops_135 : decode cX9_drops 135 = .ok (.iload_n 3, 1) := by decide +kernel
theorem dX9_drops_136 : decode cX9_drops 136 = .ok (.aload_n 0, 1) := by decide +kernel
theorem dX9_drops_137 : decode cX9_drops 137 = .ok (.getfield 32, 3) := by decide +kernel
theorem dX9_drops_140 : decode cX9_drops 140 = .ok (.iload_n 3, 1) := by decide +kernel
theorem dX9_drops_141 : decode cX9_drops 141 = .ok (.iconst 1, 1) := by decide +kernel
theorem dX9_drops_142 : decode cX9_drops 142 = .ok (.iadd, 1) := by decide +kernel
theorem dX9_drops_143 : decode cX9_drops 143 = .ok (.iaload, 1) := by decide +kernel
theorem dX9_drops_144 : decode cX9_drops 144 = .ok (.iastore, 1) := by decide +kernel
theorem dX9_drops_145 : decode cX9_drops 145 = .ok (.aload_n 0, 1) := by decide +kernel
theorem dX9_drops_146 : decode cX9_drops 146 = .ok (.getfield 35, 3) := by decide +kernel
theorem dX9_drops_149 : decode cX9_drops 149 = .ok (.iload_n 3, 1) := by decide +kernel
theorem dX9_drops_150 : decode cX9_drops 150 = .ok (.aload_n 0, 1) := by decide +kernel
theorem dX9_drops_151 : decode cX9_drops 151 = .ok (.getfield 35, 3) := by decide +kernel
theorem dX9_drops_154 : decode cX9_drops 154 = .ok (.iload_n 3, 1) := by decide +kernel
theorem dX9_drops_155 : decode cX9_drops 155 = .ok (.iconst 1, 1) := by decide +kernel
theorem dX9_drops_156 : decode cX9_drops 156 = .ok (.iadd, 1) := by decide +kernel
theorem dX9_drops_157 : decode cX9_drops 157 = .ok (.iaload, 1) := by decide +kernel
theorem dX9_drops_158 : decode cX9_drops 158 = .ok (.iastore, 1) := by decide +kernel
theorem dX9_drops_159 : decode cX9_drops 159 = .ok (.iinc 3 1, 3) := by decide +kernel
theorem dX9_drops_162 : decode cX9_drops 162 = .ok (.goto (-133), 3) := by decide +kernel
theorem dX9_drops_165 : decode cX9_drops 165 = .ok (.aload_n 0, 1) := by decide +kernel
theorem dX9_drops_166 : decode cX9_drops 166 = .ok (.getfield 16, 3) := by decide +kernel
theorem dX9_drops_169 : decode cX9_drops 169 = .ok (.iload_n 1, 1) := by decide +kernel
theorem dX9_drops_170 : decode cX9_drops 170 = .ok (.iaload, 1) := by decide +kernel
theorem dX9_drops_171 : decode cX9_drops 171 = .ok (.ireturn, 1) := by decide +kernel
theorem dX9_counted_0 : decode cX9_counted 0 = .ok (.iconst 0, 1) := by decide +kernel
theorem dX9_counted_1 : decode cX9_counted 1 = .ok (.istore_n 3, 1) := by decide +kernel
theorem dX9_counted_2 : decode cX9_counted 2 = .ok (.iconst 0, 1) := by decide +kernel
theorem dX9_counted_3 : decode cX9_counted 3 = .ok (.istore 4, 2) := by decide +kernel
theorem dX9_counted_5 : decode cX9_counted 5 = .ok (.iload 4, 2) := by decide +kernel
theorem dX9_counted_7 : decode cX9_counted 7 = .ok (.aload_n 0, 1) := by decide +kernel
theorem dX9_counted_8 : decode cX9_counted 8 = .ok (.getfield 16, 3) := by decide +kernel
theorem dX9_counted_11 : decode cX9_counted 11 = .ok (.iload_n 1, 1) := by decide +kernel
theorem dX9_counted_12 : decode cX9_counted 12 = .ok (.iaload, 1) := by decide +kernel
theorem dX9_counted_13 : decode cX9_counted 13 = .ok (.if_icmp .ge 74, 3) := by decide +kernel
theorem dX9_counted_16 : decode cX9_counted 16 = .ok (.aload_n 0, 1) := by decide +kernel
theorem dX9_counted_17 : decode cX9_counted 17 = .ok (.bipush 16, 2) := by decide +kernel
theorem dX9_counted_19 : decode cX9_counted 19 = .ok (.iload_n 1, 1) := by decide +kernel
theorem dX9_counted_20 : decode cX9_counted 20 = .ok (.imul, 1) := by decide +kernel
theorem dX9_counted_21 : decode cX9_counted 21 = .ok (.iload 4, 2) := by decide +kernel
theorem dX9_counted_23 : decode cX9_counted 23 = .ok (.iadd, 1) := by decide +kernel
theorem dX9_counted_24 : decode cX9_counted 24 = .ok (.invokevirtual 245, 3) := by decide +kernel
theorem dX9_counted_27 : decode cX9_counted 27 = .ok (.ifCond .eq 6, 3) := by decide +kernel
theorem dX9_counted_30 : decode cX9_counted 30 = .ok (.goto 51, 3) := by decide +kernel
theorem dX9_counted_33 : decode cX9_counted 33 = .ok (.iconst 1, 1) := by decide +kernel
theorem dX9_counted_34 : decode cX9_counted 34 = .ok (.istore 5, 2) := by decide +kernel
theorem dX9_counted_36 : decode cX9_counted 36 = .ok (.iload 5, 2) := by decide +kernel
theorem dX9_counted_38 : decode cX9_counted 38 = .ok (.aload_n 0, 1) := by decide +kernel
theorem dX9_counted_39 : decode cX9_counted 39 = .ok (.getfield 223, 3) := by decide +kernel
theorem dX9_counted_42 : decode cX9_counted 42 = .ok (.if_icmp .ge 39, 3) := by decide +kernel
theorem dX9_counted_45 : decode cX9_counted 45 = .ok (.iload_n 3, 1) := by decide +kernel
theorem dX9_counted_46 : decode cX9_counted 46 = .ok (.aload_n 0, 1) := by decide +kernel
theorem dX9_counted_47 : decode cX9_counted 47 = .ok (.getfield 60, 3) := by decide +kernel
theorem dX9_counted_50 : decode cX9_counted 50 = .ok (.iload 5, 2) := by decide +kernel
theorem dX9_counted_52 : decode cX9_counted 52 = .ok (.iaload, 1) := by decide +kernel
theorem dX9_counted_53 : decode cX9_counted 53 = .ok (.iload_n 2, 1) := by decide +kernel
theorem dX9_counted_54 : decode cX9_counted 54 = .ok (.if_icmp .eq 14, 3) := by decide +kernel
theorem dX9_counted_57 : decode cX9_counted 57 = .ok (.aload_n 0, 1) := by decide +kernel
theorem dX9_counted_58 : decode cX9_counted 58 = .ok (.getfield 63, 3) := by decide +kernel
theorem dX9_counted_61 : decode cX9_counted 61 = .ok (.iload 5, 2) := by decide +kernel
theorem dX9_counted_63 : decode cX9_counted 63 = .ok (.iaload, 1) := by decide +kernel
theorem dX9_counted_64 : decode cX9_counted 64 = .ok (.iload_n 2, 1) := by decide +kernel
theorem dX9_counted_65 : decode cX9_counted 65 = .ok (.if_icmp .ne 7, 3) := by decide +kernel
theorem dX9_counted_68 : decode cX9_counted 68 = .ok (.iconst 1, 1) := by decide +kernel
theorem dX9_counted_69 : decode cX9_counted 69 = .ok (.goto 4, 3) := by decide +kernel
theorem dX9_counted_72 : decode cX9_counted 72 = .ok (.iconst 0, 1) := by decide +kernel
theorem dX9_counted_73 : decode cX9_counted 73 = .ok (.iadd, 1) := by decide +kernel
theorem dX9_counted_74 : decode cX9_counted 74 = .ok (.istore_n 3, 1) := by decide +kernel
theorem dX9_counted_75 : decode cX9_counted 75 = .ok (.iinc 5 1, 3) := by decide +kernel
theorem dX9_counted_78 : decode cX9_counted 78 = .ok (.goto (-42), 3) := by decide +kernel
theorem dX9_counted_81 : decode cX9_counted 81 = .ok (.iinc 4 1, 3) := by decide +kernel
theorem dX9_counted_84 : decode cX9_counted 84 = .ok (.goto (-79), 3) := by decide +kernel
theorem dX9_counted_87 : decode cX9_counted 87 = .ok (.iload_n 3, 1) := by decide +kernel
theorem dX9_counted_88 : decode cX9_counted 88 = .ok (.ireturn, 1) := by decide +kernel
theorem dX9_ways_0 : decode cX9_ways 0 = .ok (.aload_n 0, 1) := by decide +kernel
theorem dX9_ways_1 : decode cX9_ways 1 = .ok (.iload_n 1, 1) := by decide +kernel
theorem dX9_ways_2 : decode cX9_ways 2 = .ok (.invokevirtual 87, 3) := by decide +kernel
theorem dX9_ways_5 : decode cX9_ways 5 = .ok (.ifCond .eq 24, 3) := by decide +kernel
theorem dX9_ways_8 : decode cX9_ways 8 = .ok (.iload_n 2, 1) := by decide +kernel
theorem dX9_ways_9 : decode cX9_ways 9 = .ok (.i2l, 1) := by decide +kernel
theorem dX9_ways_10 : decode cX9_ways 10 = .ok (.lconst 0, 1) := by decide +kernel
theorem dX9_ways_11 : decode cX9_ways 11 = .ok (.ldc2_w 320, 3) := by decide +kernel
theorem dX9_ways_14 : decode cX9_ways 14 = .ok (.invokestatic 83, 3) := by decide +kernel
theorem dX9_ways_17 : decode cX9_ways 17 = .ok (.ifCond .eq 12, 3) := by decide +kernel
theorem dX9_ways_20 : decode cX9_ways 20 = .ok (.aload_n 0, 1) := by decide +kernel
theorem dX9_ways_21 : decode cX9_ways 21 = .ok (.iload_n 1, 1) := by decide +kernel
theorem dX9_ways_22 : decode cX9_ways 22 = .ok (.iload_n 2, 1) := by decide +kernel
theorem dX9_ways_23 : decode cX9_ways 23 = .ok (.invokevirtual 322, 3) := by decide +kernel
theorem dX9_ways_26 : decode cX9_ways 26 = .ok (.goto 5, 3) := by decide +kernel
theorem dX9_ways_29 : decode cX9_ways 29 = .ok (.bipush (-2), 2) := by decide +kernel
theorem dX9_ways_31 : decode cX9_ways 31 = .ok (.ireturn, 1) := by decide +kernel
theorem dX9_window_0 : decode cX9_window 0 = .ok (.aload_n 0, 1) := by decide +kernel
theorem dX9_window_1 : decode cX9_window 1 = .ok (.iload_n 1, 1) := by decide +kernel
theorem dX9_window_2 : decode cX9_window 2 = .ok (.invokevirtual 87, 3) := by decide +kernel
theorem dX9_window_5 : decode cX9_window 5 = .ok (.ifCond .eq 13, 3) := by decide +kernel
theorem dX9_window_8 : decode cX9_window 8 = .ok (.iload_n 2, 1) := by decide +kernel
theorem dX9_window_9 : decode cX9_window 9 = .ok (.i2l, 1) := by decide +kernel
theorem dX9_window_10 : decode cX9_window 10 = .ok (.lconst 0, 1) := by decide +kernel
theorem dX9_window_11 : decode cX9_window 11 = .ok (.lconst 1, 1) := by decide +kernel
theorem dX9_window_12 : decode cX9_window 12 = .ok (.invokestatic 83, 3) := by decide +kernel
theorem dX9_window_15 : decode cX9_window 15 = .ok (.ifCond .ne 6, 3) := by decide +kernel
theorem dX9_window_18 : decode cX9_window 18 = .ok (.bipush (-2), 2) := by decide +kernel
theorem dX9_window_20 : decode cX9_window 20 = .ok (.ireturn, 1) := by decide +kernel
theorem dX9_window_21 : decode cX9_window 21 = .ok (.aload_n 0, 1) := by decide +kernel
theorem dX9_window_22 : decode cX9_window 22 = .ok (.iconst 0, 1) := by decide +kernel
theorem dX9_window_23 : decode cX9_window 23 = .ok (.putfield 130, 3) := by decide +kernel
theorem dX9_window_26 : decode cX9_window 26 = .ok (.aload_n 0, 1) := by decide +kernel
theorem dX9_window_27 : decode cX9_window 27 = .ok (.iload_n 1, 1) := by decide +kernel
theorem dX9_window_28 : decode cX9_window 28 = .ok (.invokevirtual 285, 3) := by decide +kernel
theorem dX9_window_31 : decode cX9_window 31 = .ok (.aload_n 0, 1) := by decide +kernel
theorem dX9_window_32 : decode cX9_window 32 = .ok (.getfield 130, 3) := by decide +kernel
theorem dX9_window_35 : decode cX9_window 35 = .ok (.ifCond .ne 7, 3) := by decide +kernel
theorem dX9_window_38 : decode cX9_window 38 = .ok (.iconst (-1), 1) := by decide +kernel
theorem dX9_window_39 : decode cX9_window 39 = .ok (.goto 18, 3) := by decide +kernel
theorem dX9_window_42 : decode cX9_window 42 = .ok (.iload_n 2, 1) := by decide +kernel
theorem dX9_window_43 : decode cX9_window 43 = .ok (.ifCond .ne 10, 3) := by decide +kernel
theorem dX9_window_46 : decode cX9_window 46 = .ok (.aload_n 0, 1) := by decide +kernel
theorem dX9_window_47 : decode cX9_window 47 = .ok (.getfield 134, 3) := by decide +kernel
theorem dX9_window_50 : decode cX9_window 50 = .ok (.goto 7, 3) := by decide +kernel
theorem dX9_window_53 : decode cX9_window 53 = .ok (.aload_n 0, 1) := by decide +kernel
theorem dX9_window_54 : decode cX9_window 54 = .ok (.getfield 138, 3) := by decide +kernel
theorem dX9_window_57 : decode cX9_window 57 = .ok (.ireturn, 1) := by decide +kernel
theorem dX9_dearest_0 : decode cX9_dearest 0 = .ok (.aload_n 0, 1) := by decide +kernel
theorem dX9_dearest_1 : decode cX9_dearest 1 = .ok (.iload_n 1, 1) := by decide +kernel
theorem dX9_dearest_2 : decode cX9_dearest 2 = .ok (.invokevirtual 87, 3) := by decide +kernel
theorem dX9_dearest_5 : decode cX9_dearest 5 = .ok (.ifCond .eq 13, 3) := by decide +kernel
theorem dX9_dearest_8 : decode cX9_dearest 8 = .ok (.iload_n 2, 1) := by decide +kernel
theorem dX9_dearest_9 : decode cX9_dearest 9 = .ok (.i2l, 1) := by decide +kernel
theorem dX9_dearest_10 : decode cX9_dearest 10 = .ok (.lconst 0, 1) := by decide +kernel
theorem dX9_dearest_11 : decode cX9_dearest 11 = .ok (.lconst 1, 1) := by decide +kernel
theorem dX9_dearest_12 : decode cX9_dearest 12 = .ok (.invokestatic 83, 3) := by decide +kernel
theorem dX9_dearest_15 : decode cX9_dearest 15 = .ok (.ifCond .ne 6, 3) := by decide +kernel
theorem dX9_dearest_18 : decode cX9_dearest 18 = .ok (.bipush (-2), 2) := by decide +kernel
theorem dX9_dearest_20 : decode cX9_dearest 20 = .ok (.ireturn, 1) := by decide +kernel
theorem dX9_dearest_21 : decode cX9_dearest 21 = .ok (.iconst 0, 1) := by decide +kernel
theorem dX9_dearest_22 : decode cX9_dearest 22 = .ok (.istore_n 3, 1) := by decide +kernel
theorem dX9_dearest_23 : decode cX9_dearest 23 = .ok (.iconst (-1), 1) := by decide +kernel
theorem dX9_dearest_24 : decode cX9_dearest 24 = .ok (.istore 4, 2) := by decide +kernel
theorem dX9_dearest_26 : decode cX9_dearest 26 = .ok (.iconst 0, 1) := by decide +kernel
theorem dX9_dearest_27 : decode cX9_dearest 27 = .ok (.istore 5, 2) := by decide +kernel
theorem dX9_dearest_29 : decode cX9_dearest 29 = .ok (.iload 5, 2) := by decide +kernel
theorem dX9_dearest_31 : decode cX9_dearest 31 = .ok (.aload_n 0, 1) := by decide +kernel
theorem dX9_dearest_32 : decode cX9_dearest 32 = .ok (.getfield 16, 3) := by decide +kernel
theorem dX9_dearest_35 : decode cX9_dearest 35 = .ok (.iload_n 1, 1) := by decide +kernel
theorem dX9_dearest_36 : decode cX9_dearest 36 = .ok (.iaload, 1) := by decide +kernel
theorem dX9_dearest_37 : decode cX9_dearest 37 = .ok (.if_icmp .ge 73, 3) := by decide +kernel
theorem dX9_dearest_40 : decode cX9_dearest 40 = .ok (.aload_n 0, 1) := by decide +kernel
theorem dX9_dearest_41 : decode cX9_dearest 41 = .ok (.bipush 16, 2) := by decide +kernel
theorem dX9_dearest_43 : decode cX9_dearest 43 = .ok (.iload_n 1, 1) := by decide +kernel
theorem dX9_dearest_44 : decode cX9_dearest 44 = .ok (.imul, 1) := by decide +kernel
theorem dX9_dearest_45 : decode cX9_dearest 45 = .ok (.iload 5, 2) := by decide +kernel
theorem dX9_dearest_47 : decode cX9_dearest 47 = .ok (.iadd, 1) := by decide +kernel
theorem dX9_dearest_48 : decode cX9_dearest 48 = .ok (.invokevirtual 245, 3) := by decide +kernel
theorem dX9_dearest_51 : decode cX9_dearest 51 = .ok (.ifCond .eq 6, 3) := by decide +kernel
theorem dX9_dearest_54 : decode cX9_dearest 54 = .ok (.goto 50, 3) := by decide +kernel
theorem dX9_dearest_57 : decode cX9_dearest 57 = .ok (.iconst 1, 1) := by decide +kernel
theorem dX9_dearest_58 : decode cX9_dearest 58 = .ok (.istore 6, 2) := by decide +kernel
theorem dX9_dearest_60 : decode cX9_dearest 60 = .ok (.iload 6, 2) := by decide +kernel
theorem dX9_dearest_62 : decode cX9_dearest 62 = .ok (.aload_n 0, 1) := by decide +kernel
theorem dX9_dearest_63 : decode cX9_dearest 63 = .ok (.getfield 223, 3) := by decide +kernel
theorem dX9_dearest_66 : decode cX9_dearest 66 = .ok (.if_icmp .ge 38, 3) := by decide +kernel
theorem dX9_dearest_69 : decode cX9_dearest 69 = .ok (.aload_n 0, 1) := by decide +kernel
theorem dX9_dearest_70 : decode cX9_dearest 70 = .ok (.getfield 57, 3) := by decide +kernel
theorem dX9_dearest_73 : decode cX9_dearest 73 = .ok (.iload 6, 2) := by decide +kernel
theorem dX9_dearest_75 : decode cX9_dearest 75 = .ok (.iaload, 1) := by decide +kernel
theorem dX9_dearest_76 : decode cX9_dearest 76 = .ok (.iload_n 3, 1) := by decide +kernel
theorem dX9_dearest_77 : decode cX9_dearest 77 = .ok (.if_icmp .le 21, 3) := by decide +kernel
theorem dX9_dearest_80 : decode cX9_dearest 80 = .ok (.aload_n 0, 1) := by decide +kernel
theorem dX9_dearest_81 : decode cX9_dearest 81 = .ok (.getfield 57, 3) := by decide +kernel
theorem dX9_dearest_84 : decode cX9_dearest 84 = .ok (.iload 6, 2) := by decide +kernel
theorem dX9_dearest_86 : decode cX9_dearest 86 = .ok (.iaload, 1) := by decide +kernel
theorem dX9_dearest_87 : decode cX9_dearest 87 = .ok (.istore_n 3, 1) := by decide +kernel
theorem dX9_dearest_88 : decode cX9_dearest 88 = .ok (.aload_n 0, 1) := by decide +kernel
theorem dX9_dearest_89 : decode cX9_dearest 89 = .ok (.getfield 51, 3) := by decide +kernel
theorem dX9_dearest_92 : decode cX9_dearest 92 = .ok (.iload 6, 2) := by decide +kernel
theorem dX9_dearest_94 : decode cX9_dearest 94 = .ok (.laload, 1) := by decide +kernel
theorem dX9_dearest_95 : decode cX9_dearest 95 = .ok (.l2i, 1) := by decide +kernel
theorem dX9_dearest_96 : decode cX9_dearest 96 = .ok (.istore 4, 2) := by decide +kernel
theorem dX9_dearest_98 : decode cX9_dearest 98 = .ok (.iinc 6 1, 3) := by decide +kernel
theorem dX9_dearest_101 : decode cX9_dearest 101 = .ok (.goto (-41), 3) := by decide +kernel
theorem dX9_dearest_104 : decode cX9_dearest 104 = .ok (.iinc 5 1, 3) := by decide +kernel
theorem dX9_dearest_107 : decode cX9_dearest 107 = .ok (.goto (-78), 3) := by decide +kernel
theorem dX9_dearest_110 : decode cX9_dearest 110 = .ok (.iload 4, 2) := by decide +kernel
theorem dX9_dearest_112 : decode cX9_dearest 112 = .ok (.iconst (-1), 1) := by decide +kernel
theorem dX9_dearest_113 : decode cX9_dearest 113 = .ok (.if_icmp .ne 7, 3) := by decide +kernel
theorem dX9_dearest_116 : decode cX9_dearest 116 = .ok (.iconst (-1), 1) := by decide +kernel
theorem dX9_dearest_117 : decode cX9_dearest 117 = .ok (.goto 13, 3) := by decide +kernel
theorem dX9_dearest_120 : decode cX9_dearest 120 = .ok (.iload_n 2, 1) := by decide +kernel
theorem dX9_dearest_121 : decode cX9_dearest 121 = .ok (.ifCond .ne 8, 3) := by decide +kernel
theorem dX9_dearest_124 : decode cX9_dearest 124 = .ok (.iload 4, 2) := by decide +kernel
theorem dX9_dearest_126 : decode cX9_dearest 126 = .ok (.goto 4, 3) := by decide +kernel
theorem dX9_dearest_129 : decode cX9_dearest 129 = .ok (.iload_n 3, 1) := by decide +kernel
theorem dX9_dearest_130 : decode cX9_dearest 130 = .ok (.ireturn, 1) := by decide +kernel
theorem dX9_isAsked_0 : decode cX9_isAsked 0 = .ok (.aload_n 0, 1) := by decide +kernel
theorem dX9_isAsked_1 : decode cX9_isAsked 1 = .ok (.iload_n 1, 1) := by decide +kernel
theorem dX9_isAsked_2 : decode cX9_isAsked 2 = .ok (.invokevirtual 87, 3) := by decide +kernel
theorem dX9_isAsked_5 : decode cX9_isAsked 5 = .ok (.ifCond .eq 14, 3) := by decide +kernel
theorem dX9_isAsked_8 : decode cX9_isAsked 8 = .ok (.iload_n 2, 1) := by decide +kernel
theorem dX9_isAsked_9 : decode cX9_isAsked 9 = .ok (.invokestatic 278, 3) := by decide +kernel
theorem dX9_isAsked_12 : decode cX9_isAsked 12 = .ok (.ifCond .eq 7, 3) := by decide +kernel
theorem dX9_isAsked_15 : decode cX9_isAsked 15 = .ok (.iconst 1, 1) := by decide +kernel
theorem dX9_isAsked_16 : decode cX9_isAsked 16 = .ok (.goto 4, 3) := by decide +kernel
theorem dX9_isAsked_19 : decode cX9_isAsked 19 = .ok (.iconst 0, 1) := by decide +kernel
theorem dX9_isAsked_20 : decode cX9_isAsked 20 = .ok (.ireturn, 1) := by decide +kernel
theorem dX9_isSpan_0 : decode cX9_isSpan 0 = .ok (.aload_n 0, 1) := by decide +kernel
theorem dX9_isSpan_1 : decode cX9_isSpan 1 = .ok (.iload_n 1, 1) := by decide +kernel
theorem dX9_isSpan_2 : decode cX9_isSpan 2 = .ok (.invokevirtual 87, 3) := by decide +kernel
theorem dX9_isSpan_5 : decode cX9_isSpan 5 = .ok (.ifCond .eq 12, 3) := by decide +kernel
theorem dX9_isSpan_8 : decode cX9_isSpan 8 = .ok (.iload_n 2, 1) := by decide +kernel
theorem dX9_isSpan_9 : decode cX9_isSpan 9 = .ok (.iload_n 3, 1) := by decide +kernel
theorem dX9_isSpan_10 : decode cX9_isSpan 10 = .ok (.if_icmp .gt 7, 3) := by decide +kernel
theorem dX9_isSpan_13 : decode cX9_isSpan 13 = .ok (.iconst 1, 1) := by decide +kernel
theorem dX9_isSpan_14 : decode cX9_isSpan 14 = .ok (.goto 4, 3) := by decide +kernel
theorem dX9_isSpan_17 : decode cX9_isSpan 17 = .ok (.iconst 0, 1) := by decide +kernel
theorem dX9_isSpan_18 : decode cX9_isSpan 18 = .ok (.ireturn, 1) := by decide +kernel
theorem dX9_placeOf_0 : decode cX9_placeOf 0 = .ok (.aload_n 0, 1) := by decide +kernel
theorem dX9_placeOf_1 : decode cX9_placeOf 1 = .ok (.iload_n 1, 1) := by decide +kernel
theorem dX9_placeOf_2 : decode cX9_placeOf 2 = .ok (.i2l, 1) := by decide +kernel
theorem dX9_placeOf_3 : decode cX9_placeOf 3 = .ok (.invokevirtual 251, 3) := by decide +kernel
theorem dX9_placeOf_6 : decode cX9_placeOf 6 = .ok (.istore_n 2, 1) := by decide +kernel
theorem dX9_placeOf_7 : decode cX9_placeOf 7 = .ok (.iload_n 2, 1) := by decide +kernel
theorem dX9_placeOf_8 : decode cX9_placeOf 8 = .ok (.aload_n 0, 1) := by decide +kernel
theorem dX9_placeOf_9 : decode cX9_placeOf 9 = .ok (.getfield 248, 3) := by decide +kernel
theorem dX9_placeOf_12 : decode cX9_placeOf 12 = .ok (.if_icmp .ge 19, 3) := by decide +kernel
theorem dX9_placeOf_15 : decode cX9_placeOf 15 = .ok (.aload_n 0, 1) := by decide +kernel
theorem dX9_placeOf_16 : decode cX9_placeOf 16 = .ok (.getfield 66, 3) := by decide +kernel
theorem dX9_placeOf_19 : decode cX9_placeOf 19 = .ok (.iload_n 2, 1) := by decide +kernel
theorem dX9_placeOf_20 : decode cX9_placeOf 20 = .ok (.laload, 1) := by decide +kernel
theorem dX9_placeOf_21 : decode cX9_placeOf 21 = .ok (.iload_n 1, 1) := by decide +kernel
theorem dX9_placeOf_22 : decode cX9_placeOf 22 = .ok (.i2l, 1) := by decide +kernel
theorem dX9_placeOf_23 : decode cX9_placeOf 23 = .ok (.lcmp, 1) := by decide +kernel
theorem dX9_placeOf_24 : decode cX9_placeOf 24 = .ok (.ifCond .ne 7, 3) := by decide +kernel
theorem dX9_placeOf_27 : decode cX9_placeOf 27 = .ok (.iload_n 2, 1) := by decide +kernel
theorem dX9_placeOf_28 : decode cX9_placeOf 28 = .ok (.goto 4, 3) := by decide +kernel
theorem dX9_placeOf_31 : decode cX9_placeOf 31 = .ok (.iconst (-1), 1) := by decide +kernel
theorem dX9_placeOf_32 : decode cX9_placeOf 32 = .ok (.ireturn, 1) := by decide +kernel
theorem dX9_has_0 : decode cX9_has 0 = .ok (.aload_n 0, 1) := by decide +kernel
theorem dX9_has_1 : decode cX9_has 1 = .ok (.iload_n 1, 1) := by decide +kernel
theorem dX9_has_2 : decode cX9_has 2 = .ok (.iload_n 2, 1) := by decide +kernel
theorem dX9_has_3 : decode cX9_has 3 = .ok (.invokevirtual 325, 3) := by decide +kernel
theorem dX9_has_6 : decode cX9_has 6 = .ok (.ifCond .ne 6, 3) := by decide +kernel
theorem dX9_has_9 : decode cX9_has 9 = .ok (.bipush (-2), 2) := by decide +kernel
theorem dX9_has_11 : decode cX9_has 11 = .ok (.ireturn, 1) := by decide +kernel
theorem dX9_has_12 : decode cX9_has 12 = .ok (.aload_n 0, 1) := by decide +kernel
theorem dX9_has_13 : decode cX9_has 13 = .ok (.iload_n 1, 1) := by decide +kernel
theorem dX9_has_14 : decode cX9_has 14 = .ok (.invokevirtual 297, 3) := by decide +kernel
theorem dX9_has_17 : decode cX9_has 17 = .ok (.aload_n 0, 1) := by decide +kernel
theorem dX9_has_18 : decode cX9_has 18 = .ok (.iload_n 2, 1) := by decide +kernel
theorem dX9_has_19 : decode cX9_has 19 = .ok (.invokevirtual 328, 3) := by decide +kernel
theorem dX9_has_22 : decode cX9_has 22 = .ok (.iconst (-1), 1) := by decide +kernel
theorem dX9_has_23 : decode cX9_has 23 = .ok (.if_icmp .ne 7, 3) := by decide +kernel
theorem dX9_has_26 : decode cX9_has 26 = .ok (.iconst 0, 1) := by decide +kernel
theorem dX9_has_27 : decode cX9_has 27 = .ok (.goto 4, 3) := by decide +kernel
theorem dX9_has_30 : decode cX9_has 30 = .ok (.iconst 1, 1) := by decide +kernel
theorem dX9_has_31 : decode cX9_has 31 = .ok (.ireturn, 1) := by decide +kernel
theorem dX9_at_0 : decode cX9_at 0 = .ok (.aload_n 0, 1) := by decide +kernel
theorem dX9_at_1 : decode cX9_at 1 = .ok (.iload_n 1, 1) := by decide +kernel
theorem dX9_at_2 : decode cX9_at 2 = .ok (.iload_n 2, 1) := by decide +kernel
theorem dX9_at_3 : decode cX9_at 3 = .ok (.invokevirtual 325, 3) := by decide +kernel
theorem dX9_at_6 : decode cX9_at 6 = .ok (.ifCond .ne 5, 3) := by decide +kernel
theorem dX9_at_9 : decode cX9_at 9 = .ok (.lconst 0, 1) := by decide +kernel
theorem dX9_at_10 : decode cX9_at 10 = .ok (.lreturn, 1) := by decide +kernel
theorem dX9_at_11 : decode cX9_at 11 = .ok (.aload_n 0, 1) := by decide +kernel
theorem dX9_at_12 : decode cX9_at 12 = .ok (.iload_n 1, 1) := by decide +kernel
theorem dX9_at_13 : decode cX9_at 13 = .ok (.invokevirtual 297, 3) := by decide +kernel
theorem dX9_at_16 : decode cX9_at 16 = .ok (.aload_n 0, 1) := by decide +kernel
theorem dX9_at_17 : decode cX9_at 17 = .ok (.iload_n 2, 1) := by decide +kernel
theorem dX9_at_18 : decode cX9_at 18 = .ok (.invokevirtual 328, 3) := by decide +kernel
theorem dX9_at_21 : decode cX9_at 21 = .ok (.istore_n 3, 1) := by decide +kernel
theorem dX9_at_22 : decode cX9_at 22 = .ok (.iload_n 3, 1) := by decide +kernel
theorem dX9_at_23 : decode cX9_at 23 = .ok (.iconst (-1), 1) := by decide +kernel
theorem dX9_at_24 : decode cX9_at 24 = .ok (.if_icmp .ne 7, 3) := by decide +kernel
theorem dX9_at_27 : decode cX9_at 27 = .ok (.lconst 0, 1) := by decide +kernel
theorem dX9_at_28 : decode cX9_at 28 = .ok (.goto 9, 3) := by decide +kernel
theorem dX9_at_31 : decode cX9_at 31 = .ok (.aload_n 0, 1) := by decide +kernel
theorem dX9_at_32 : decode cX9_at 32 = .ok (.getfield 69, 3) := by decide +kernel
theorem dX9_at_35 : decode cX9_at 35 = .ok (.iload_n 3, 1) := by decide +kernel
theorem dX9_at_36 : decode cX9_at 36 = .ok (.laload, 1) := by decide +kernel
theorem dX9_at_37 : decode cX9_at 37 = .ok (.lreturn, 1) := by decide +kernel
theorem dX9_where_0 : decode cX9_where 0 = .ok (.aload_n 0, 1) := by decide +kernel
theorem dX9_where_1 : decode cX9_where 1 = .ok (.iload_n 1, 1) := by decide +kernel
theorem dX9_where_2 : decode cX9_where 2 = .ok (.iload_n 2, 1) := by decide +kernel
theorem dX9_where_3 : decode cX9_where 3 = .ok (.invokevirtual 325, 3) := by decide +kernel
theorem dX9_where_6 : decode cX9_where 6 = .ok (.ifCond .ne 6, 3) := by decide +kernel
theorem dX9_where_9 : decode cX9_where 9 = .ok (.bipush (-2), 2) := by decide +kernel
theorem dX9_where_11 : decode cX9_where 11 = .ok (.ireturn, 1) := by decide +kernel
theorem dX9_where_12 : decode cX9_where 12 = .ok (.aload_n 0, 1) := by decide +kernel
theorem dX9_where_13 : decode cX9_where 13 = .ok (.iload_n 1, 1) := by decide +kernel
theorem dX9_where_14 : decode cX9_where 14 = .ok (.invokevirtual 297, 3) := by decide +kernel
theorem dX9_where_17 : decode cX9_where 17 = .ok (.aload_n 0, 1) := by decide +kernel
theorem dX9_where_18 : decode cX9_where 18 = .ok (.iload_n 2, 1) := by decide +kernel
theorem dX9_where_19 : decode cX9_where 19 = .ok (.invokevirtual 328, 3) := by decide +kernel
theorem dX9_where_22 : decode cX9_where 22 = .ok (.istore_n 3, 1) := by decide +kernel
theorem dX9_where_23 : decode cX9_where 23 = .ok (.iload_n 3, 1) := by decide +kernel
theorem dX9_where_24 : decode cX9_where 24 = .ok (.iconst (-1), 1) := by decide +kernel
theorem dX9_where_25 : decode cX9_where 25 = .ok (.if_icmp .ne 7, 3) := by decide +kernel
theorem dX9_where_28 : decode cX9_where 28 = .ok (.iconst (-1), 1) := by decide +kernel
theorem dX9_where_29 : decode cX9_where 29 = .ok (.goto 9, 3) := by decide +kernel
theorem dX9_where_32 : decode cX9_where 32 = .ok (.aload_n 0, 1) := by decide +kernel
theorem dX9_where_33 : decode cX9_where 33 = .ok (.getfield 72, 3) := by decide +kernel
theorem dX9_where_36 : decode cX9_where 36 = .ok (.iload_n 3, 1) := by decide +kernel
theorem dX9_where_37 : decode cX9_where 37 = .ok (.iaload, 1) := by decide +kernel
theorem dX9_where_38 : decode cX9_where 38 = .ok (.ireturn, 1) := by decide +kernel
theorem dX9_since_0 : decode cX9_since 0 = .ok (.aload_n 0, 1) := by decide +kernel
theorem dX9_since_1 : decode cX9_since 1 = .ok (.iload_n 1, 1) := by decide +kernel
theorem dX9_since_2 : decode cX9_since 2 = .ok (.iload_n 2, 1) := by decide +kernel
theorem dX9_since_3 : decode cX9_since 3 = .ok (.invokevirtual 325, 3) := by decide +kernel
theorem dX9_since_6 : decode cX9_since 6 = .ok (.ifCond .ne 6, 3) := by decide +kernel
theorem dX9_since_9 : decode cX9_since 9 = .ok (.bipush (-2), 2) := by decide +kernel
theorem dX9_since_11 : decode cX9_since 11 = .ok (.ireturn, 1) := by decide +kernel
theorem dX9_since_12 : decode cX9_since 12 = .ok (.aload_n 0, 1) := by decide +kernel
theorem dX9_since_13 : decode cX9_since 13 = .ok (.iload_n 1, 1) := by decide +kernel
theorem dX9_since_14 : decode cX9_since 14 = .ok (.invokevirtual 297, 3) := by decide +kernel
theorem dX9_since_17 : decode cX9_since 17 = .ok (.aload_n 0, 1) := by decide +kernel
theorem dX9_since_18 : decode cX9_since 18 = .ok (.iload_n 2, 1) := by decide +kernel
theorem dX9_since_19 : decode cX9_since 19 = .ok (.i2l, 1) := by decide +kernel
theorem dX9_since_20 : decode cX9_since 20 = .ok (.lconst 1, 1) := by decide +kernel
theorem dX9_since_21 : decode cX9_since 21 = .ok (.ladd, 1) := by decide +kernel
theorem dX9_since_22 : decode cX9_since 22 = .ok (.invokevirtual 251, 3) := by decide +kernel
theorem dX9_since_25 : decode cX9_since 25 = .ok (.istore_n 3, 1) := by decide +kernel
theorem dX9_since_26 : decode cX9_since 26 = .ok (.iload_n 3, 1) := by decide +kernel
theorem dX9_since_27 : decode cX9_since 27 = .ok (.ifCond .ne 7, 3) := by decide +kernel
theorem dX9_since_30 : decode cX9_since 30 = .ok (.iconst (-1), 1) := by decide +kernel
theorem dX9_since_31 : decode cX9_since 31 = .ok (.goto 12, 3) := by decide +kernel
theorem dX9_since_34 : decode cX9_since 34 = .ok (.aload_n 0, 1) := by decide +kernel
theorem dX9_since_35 : decode cX9_since 35 = .ok (.getfield 66, 3) := by decide +kernel
theorem dX9_since_38 : decode cX9_since 38 = .ok (.iload_n 3, 1) := by decide +kernel
theorem dX9_since_39 : decode cX9_since 39 = .ok (.iconst 1, 1) := by decide +kernel
theorem dX9_since_40 : decode cX9_since 40 = .ok (.isub, 1) := by decide +kernel
theorem dX9_since_41 : decode cX9_since 41 = .ok (.laload, 1) := by decide +kernel
theorem dX9_since_42 : decode cX9_since 42 = .ok (.l2i, 1) := by decide +kernel
theorem dX9_since_43 : decode cX9_since 43 = .ok (.ireturn, 1) := by decide +kernel
theorem dX9_nearest_0 : decode cX9_nearest 0 = .ok (.aload_n 0, 1) := by decide +kernel
theorem dX9_nearest_1 : decode cX9_nearest 1 = .ok (.iload_n 1, 1) := by decide +kernel
theorem dX9_nearest_2 : decode cX9_nearest 2 = .ok (.iload_n 2, 1) := by decide +kernel
theorem dX9_nearest_3 : decode cX9_nearest 3 = .ok (.invokevirtual 325, 3) := by decide +kernel
theorem dX9_nearest_6 : decode cX9_nearest 6 = .ok (.ifCond .ne 6, 3) := by decide +kernel
theorem dX9_nearest_9 : decode cX9_nearest 9 = .ok (.bipush (-2), 2) := by decide +kernel
theorem dX9_nearest_11 : decode cX9_nearest 11 = .ok (.ireturn, 1) := by decide +kernel
theorem dX9_nearest_12 : decode cX9_nearest 12 = .ok (.aload_n 0, 1) := by decide +kernel
theorem dX9_nearest_13 : decode cX9_nearest 13 = .ok (.iload_n 1, 1) := by decide +kernel
theorem dX9_nearest_14 : decode cX9_nearest 14 = .ok (.invokevirtual 297, 3) := by decide +kernel
theorem dX9_nearest_17 : decode cX9_nearest 17 = .ok (.ldc2_w 331, 3) := by decide +kernel
theorem dX9_nearest_20 : decode cX9_nearest 20 = .ok (.lstore_n 3, 1) := by decide +kernel
theorem dX9_nearest_21 : decode cX9_nearest 21 = .ok (.iconst 0, 1) := by decide +kernel
theorem dX9_nearest_22 : decode cX9_nearest 22 = .ok (.istore 5, 2) := by decide +kernel
theorem dX9_nearest_24 : decode cX9_nearest 24 = .ok (.iload 5, 2) := by decide +kernel
theorem dX9_nearest_26 : decode cX9_nearest 26 = .ok (.aload_n 0, 1) := by decide +kernel
theorem dX9_nearest_27 : decode cX9_nearest 27 = .ok (.getfield 248, 3) := by decide +kernel
theorem dX9_nearest_30 : decode cX9_nearest 30 = .ok (.if_icmp .ge 65, 3) := by decide +kernel
theorem dX9_nearest_33 : decode cX9_nearest 33 = .ok (.lload_n 3, 1) := by decide +kernel
theorem dX9_nearest_34 : decode cX9_nearest 34 = .ok (.ldc2_w 331, 3) := by decide +kernel
theorem dX9_nearest_37 : decode cX9_nearest 37 = .ok (.lcmp, 1) := by decide +kernel
theorem dX9_nearest_38 : decode cX9_nearest 38 = .ok (.ifCond .eq 27, 3) := by decide +kernel
theorem dX9_nearest_41 : decode cX9_nearest 41 = .ok (.aload_n 0, 1) := by decide +kernel
theorem dX9_nearest_42 : decode cX9_nearest 42 = .ok (.getfield 66, 3) := by decide +kernel
theorem dX9_nearest_45 : decode cX9_nearest 45 = .ok (.iload 5, 2) := by decide +kernel
theorem dX9_nearest_47 : decode cX9_nearest 47 = .ok (.laload, 1) := by decide +kernel
theorem dX9_nearest_48 : decode cX9_nearest 48 = .ok (.iload_n 2, 1) := by decide +kernel
theorem dX9_nearest_49 : decode cX9_nearest 49 = .ok (.i2l, 1) := by decide +kernel
theorem dX9_nearest_50 : decode cX9_nearest 50 = .ok (.lsub, 1) := by decide +kernel
theorem dX9_nearest_51 : decode cX9_nearest 51 = .ok (.invokestatic 333, 3) := by decide +kernel
theorem dX9_nearest_54 : decode cX9_nearest 54 = .ok (.lload_n 3, 1) := by decide +kernel
theorem dX9_nearest_55 : decode cX9_nearest 55 = .ok (.iload_n 2, 1) := by decide +kernel
theorem dX9_nearest_56 : decode cX9_nearest 56 = .ok (.i2l, 1) := by decide +kernel
theorem dX9_nearest_57 : decode cX9_nearest 57 = .ok (.lsub, 1) := by decide +kernel
theorem dX9_nearest_58 : decode cX9_nearest 58 = .ok (.invokestatic 333, 3) := by decide +kernel
theorem dX9_nearest_61 : decode cX9_nearest 61 = .ok (.lcmp, 1) := by decide +kernel
theorem dX9_nearest_62 : decode cX9_nearest 62 = .ok (.ifCond .ge 7, 3) := by decide +kernel
theorem dX9_nearest_65 : decode cX9_nearest 65 = .ok (.iconst 1, 1) := by decide +kernel
theorem dX9_nearest_66 : decode cX9_nearest 66 = .ok (.goto 4, 3) := by decide +kernel
theorem dX9_nearest_69 : decode cX9_nearest 69 = .ok (.iconst 0, 1) := by decide +kernel
theorem dX9_nearest_70 : decode cX9_nearest 70 = .ok (.istore 6, 2) := by decide +kernel
theorem dX9_nearest_72 : decode cX9_nearest 72 = .ok (.iload 6, 2) := by decide +kernel
theorem dX9_nearest_74 : decode cX9_nearest 74 = .ok (.ifCond .eq 13, 3) := by decide +kernel
theorem dX9_nearest_77 : decode cX9_nearest 77 = .ok (.aload_n 0, 1) := by decide +kernel
theorem dX9_nearest_78 : decode cX9_nearest 78 = .ok (.getfield 66, 3) := by decide +kernel
theorem dX9_nearest_81 : decode cX9_nearest 81 = .ok (.iload 5, 2) := by decide +kernel
theorem dX9_nearest_83 : decode cX9_nearest 83 = .ok (.laload, 1) := by decide +kernel
theorem dX9_nearest_84 : decode cX9_nearest 84 = .ok (.goto 4, 3) := by decide +kernel
theorem dX9_nearest_87 : decode cX9_nearest 87 = .ok (.lload_n 3, 1) := by decide +kernel
theorem dX9_nearest_88 : decode cX9_nearest 88 = .ok (.lstore_n 3, 1) := by decide +kernel
theorem dX9_nearest_89 : decode cX9_nearest 89 = .ok (.iinc 5 1, 3) := by decide +kernel
theorem dX9_nearest_92 : decode cX9_nearest 92 = .ok (.goto (-68), 3) := by decide +kernel
theorem dX9_nearest_95 : decode cX9_nearest 95 = .ok (.lload_n 3, 1) := by decide +kernel
theorem dX9_nearest_96 : decode cX9_nearest 96 = .ok (.l2i, 1) := by decide +kernel
theorem dX9_nearest_97 : decode cX9_nearest 97 = .ok (.ireturn, 1) := by decide +kernel
theorem dX9_point_0 : decode cX9_point 0 = .ok (.aload_n 0, 1) := by decide +kernel
theorem dX9_point_1 : decode cX9_point 1 = .ok (.iload_n 1, 1) := by decide +kernel
theorem dX9_point_2 : decode cX9_point 2 = .ok (.invokevirtual 87, 3) := by decide +kernel
theorem dX9_point_5 : decode cX9_point 5 = .ok (.ifCond .eq 17, 3) := by decide +kernel
theorem dX9_point_8 : decode cX9_point 8 = .ok (.iload_n 2, 1) := by decide +kernel
theorem dX9_point_9 : decode cX9_point 9 = .ok (.ifCond .lt 13, 3) := by decide +kernel
theorem dX9_point_12 : decode cX9_point 12 = .ok (.iload_n 3, 1) := by decide +kernel
theorem dX9_point_13 : decode cX9_point 13 = .ok (.i2l, 1) := by decide +kernel
theorem dX9_point_14 : decode cX9_point 14 = .ok (.lconst 0, 1) := by decide +kernel
theorem dX9_point_15 : decode cX9_point 15 = .ok (.lconst 1, 1) := by decide +kernel
theorem dX9_point_16 : decode cX9_point 16 = .ok (.invokestatic 83, 3) := by decide +kernel
theorem dX9_point_19 : decode cX9_point 19 = .ok (.ifCond .ne 7, 3) := by decide +kernel
theorem dX9_point_22 : decode cX9_point 22 = .ok (.ldc2_w 331, 3) := by decide +kernel
theorem dX9_point_25 : decode cX9_point 25 = .ok (.lreturn, 1) := by decide +kernel
theorem dX9_point_26 : decode cX9_point 26 = .ok (.aload_n 0, 1) := by decide +kernel
theorem dX9_point_27 : decode cX9_point 27 = .ok (.iload_n 1, 1) := by decide +kernel
theorem dX9_point_28 : decode cX9_point 28 = .ok (.invokevirtual 297, 3) := by decide +kernel
theorem dX9_point_31 : decode cX9_point 31 = .ok (.iload_n 2, 1) := by decide +kernel
theorem dX9_point_32 : decode cX9_point 32 = .ok (.aload_n 0, 1) := by decide +kernel
theorem dX9_point_33 : decode cX9_point 33 = .ok (.getfield 248, 3) := by decide +kernel
theorem dX9_point_36 : decode cX9_point 36 = .ok (.if_icmp .lt 9, 3) := by decide +kernel
theorem dX9_point_39 : decode cX9_point 39 = .ok (.ldc2_w 331, 3) := by decide +kernel
theorem dX9_point_42 : decode cX9_point 42 = .ok (.goto 22, 3) := by decide +kernel
theorem dX9_point_45 : decode cX9_point 45 = .ok (.iload_n 3, 1) := by decide +kernel
theorem dX9_point_46 : decode cX9_point 46 = .ok (.ifCond .ne 12, 3) := by decide +kernel
theorem dX9_point_49 : decode cX9_point 49 = .ok (.aload_n 0, 1) := by decide +kernel
theorem dX9_point_50 : decode cX9_point 50 = .ok (.getfield 66, 3) := by decide +kernel
theorem dX9_point_53 : decode cX9_point 53 = .ok (.iload_n 2, 1) := by decide +kernel
theorem dX9_point_54 : decode cX9_point 54 = .ok (.laload, 1) := by decide +kernel
theorem dX9_point_55 : decode cX9_point 55 = .ok (.goto 9, 3) := by decide +kernel
theorem dX9_point_58 : decode cX9_point 58 = .ok (.aload_n 0, 1) := by decide +kernel
theorem dX9_point_59 : decode cX9_point 59 = .ok (.getfield 69, 3) := by decide +kernel
theorem dX9_point_62 : decode cX9_point 62 = .ok (.iload_n 2, 1) := by decide +kernel
theorem dX9_point_63 : decode cX9_point 63 = .ok (.laload, 1) := by decide +kernel
theorem dX9_point_64 : decode cX9_point 64 = .ok (.lreturn, 1) := by decide +kernel
theorem dX9_opened_0 : decode cX9_opened 0 = .ok (.iconst 0, 1) := by decide +kernel
theorem dX9_opened_1 : decode cX9_opened 1 = .ok (.istore 4, 2) := by decide +kernel
theorem dX9_opened_3 : decode cX9_opened 3 = .ok (.iconst 0, 1) := by decide +kernel
theorem dX9_opened_4 : decode cX9_opened 4 = .ok (.istore 5, 2) := by decide +kernel
theorem dX9_opened_6 : decode cX9_opened 6 = .ok (.iload 5, 2) := by decide +kernel
theorem dX9_opened_8 : decode cX9_opened 8 = .ok (.aload_n 0, 1) := by decide +kernel
theorem dX9_opened_9 : decode cX9_opened 9 = .ok (.getfield 16, 3) := by decide +kernel
theorem dX9_opened_12 : decode cX9_opened 12 = .ok (.iload_n 1, 1) := by decide +kernel
theorem dX9_opened_13 : decode cX9_opened 13 = .ok (.iaload, 1) := by decide +kernel
theorem dX9_opened_14 : decode cX9_opened 14 = .ok (.if_icmp .ge 55, 3) := by decide +kernel
theorem dX9_opened_17 : decode cX9_opened 17 = .ok (.iload 4, 2) := by decide +kernel
theorem dX9_opened_19 : decode cX9_opened 19 = .ok (.aload_n 0, 1) := by decide +kernel
theorem dX9_opened_20 : decode cX9_opened 20 = .ok (.bipush 16, 2) := by decide +kernel
theorem dX9_opened_22 : decode cX9_opened 22 = .ok (.iload_n 1, 1) := by decide +kernel
theorem dX9_opened_23 : decode cX9_opened 23 = .ok (.imul, 1) := by decide +kernel
theorem dX9_opened_24 : decode cX9_opened 24 = .ok (.iload 5, 2) := by decide +kernel
theorem dX9_opened_26 : decode cX9_opened 26 = .ok (.iadd, 1) := by decide +kernel
theorem dX9_opened_27 : decode cX9_opened 27 = .ok (.invokevirtual 245, 3) := by decide +kernel
theorem dX9_opened_30 : decode cX9_opened 30 = .ok (.ifCond .ne 29, 3) := by decide +kernel
theorem dX9_opened_33 : decode cX9_opened 33 = .ok (.aload_n 0, 1) := by decide +kernel
theorem dX9_opened_34 : decode cX9_opened 34 = .ok (.getfield 51, 3) := by decide +kernel
theorem dX9_opened_37 : decode cX9_opened 37 = .ok (.iconst 0, 1) := by decide +kernel
theorem dX9_opened_38 : decode cX9_opened 38 = .ok (.laload, 1) := by decide +kernel
theorem dX9_opened_39 : decode cX9_opened 39 = .ok (.iload_n 3, 1) := by decide +kernel
theorem dX9_opened_40 : decode cX9_opened 40 = .ok (.i2l, 1) := by decide +kernel
theorem dX9_opened_41 : decode cX9_opened 41 = .ok (.lcmp, 1) := by decide +kernel
theorem dX9_opened_42 : decode cX9_opened 42 = .ok (.ifCond .gt 17, 3) := by decide +kernel
theorem dX9_opened_45 : decode cX9_opened 45 = .ok (.aload_n 0, 1) := by decide +kernel
theorem dX9_opened_46 : decode cX9_opened 46 = .ok (.getfield 149, 3) := by decide +kernel
theorem dX9_opened_49 : decode cX9_opened 49 = .ok (.iload_n 2, 1) := by decide +kernel
theorem dX9_opened_50 : decode cX9_opened 50 = .ok (.i2l, 1) := by decide +kernel
theorem dX9_opened_51 : decode cX9_opened 51 = .ok (.lcmp, 1) := by decide +kernel
theorem dX9_opened_52 : decode cX9_opened 52 = .ok (.ifCond .lt 7, 3) := by decide +kernel
theorem dX9_opened_55 : decode cX9_opened 55 = .ok (.iconst 1, 1) := by decide +kernel
theorem dX9_opened_56 : decode cX9_opened 56 = .ok (.goto 4, 3) := by decide +kernel
theorem dX9_opened_59 : decode cX9_opened 59 = .ok (.iconst 0, 1) := by decide +kernel
theorem dX9_opened_60 : decode cX9_opened 60 = .ok (.iadd, 1) := by decide +kernel
theorem dX9_opened_61 : decode cX9_opened 61 = .ok (.istore 4, 2) := by decide +kernel
theorem dX9_opened_63 : decode cX9_opened 63 = .ok (.iinc 5 1, 3) := by decide +kernel
theorem dX9_opened_66 : decode cX9_opened 66 = .ok (.goto (-60), 3) := by decide +kernel
theorem dX9_opened_69 : decode cX9_opened 69 = .ok (.iload 4, 2) := by decide +kernel
theorem dX9_opened_71 : decode cX9_opened 71 = .ok (.ireturn, 1) := by decide +kernel
theorem dX9_laysSpan_0 : decode cX9_laysSpan 0 = .ok (.aload_n 0, 1) := by decide +kernel
theorem dX9_laysSpan_1 : decode cX9_laysSpan 1 = .ok (.iload_n 1, 1) := by decide +kernel
theorem dX9_laysSpan_2 : decode cX9_laysSpan 2 = .ok (.invokevirtual 297, 3) := by decide +kernel
theorem dX9_laysSpan_5 : decode cX9_laysSpan 5 = .ok (.aload_n 0, 1) := by decide +kernel
theorem dX9_laysSpan_6 : decode cX9_laysSpan 6 = .ok (.aload_n 0, 1) := by decide +kernel
theorem dX9_laysSpan_7 : decode cX9_laysSpan 7 = .ok (.iload_n 2, 1) := by decide +kernel
theorem dX9_laysSpan_8 : decode cX9_laysSpan 8 = .ok (.i2l, 1) := by decide +kernel
theorem dX9_laysSpan_9 : decode cX9_laysSpan 9 = .ok (.invokevirtual 251, 3) := by decide +kernel
theorem dX9_laysSpan_12 : decode cX9_laysSpan 12 = .ok (.putfield 337, 3) := by decide +kernel
theorem dX9_laysSpan_15 : decode cX9_laysSpan 15 = .ok (.aload_n 0, 1) := by decide +kernel
theorem dX9_laysSpan_16 : decode cX9_laysSpan 16 = .ok (.aload_n 0, 1) := by decide +kernel
theorem dX9_laysSpan_17 : decode cX9_laysSpan 17 = .ok (.iload_n 3, 1) := by decide +kernel
theorem dX9_laysSpan_18 : decode cX9_laysSpan 18 = .ok (.i2l, 1) := by decide +kernel
theorem dX9_laysSpan_19 : decode cX9_laysSpan 19 = .ok (.lconst 1, 1) := by decide +kernel
theorem dX9_laysSpan_20 : decode cX9_laysSpan 20 = .ok (.ladd, 1) := by decide +kernel
theorem dX9_laysSpan_21 : decode cX9_laysSpan 21 = .ok (.invokevirtual 251, 3) := by decide +kernel
theorem dX9_laysSpan_24 : decode cX9_laysSpan 24 = .ok (.putfield 340, 3) := by decide +kernel
theorem dX9_laysSpan_27 : decode cX9_laysSpan 27 = .ok (.return_, 1) := by decide +kernel
theorem dX9_span_0 : decode cX9_span 0 = .ok (.aload_n 0, 1) := by decide +kernel
theorem dX9_span_1 : decode cX9_span 1 = .ok (.iload_n 1, 1) := by decide +kernel
theorem dX9_span_2 : decode cX9_span 2 = .ok (.iload_n 2, 1) := by decide +kernel
theorem dX9_span_3 : decode cX9_span 3 = .ok (.iload_n 3, 1) := by decide +kernel
theorem dX9_span_4 : decode cX9_span 4 = .ok (.invokevirtual 343, 3) := by decide +kernel
theorem dX9_span_7 : decode cX9_span 7 = .ok (.ifCond .eq 16, 3) := by decide +kernel
theorem dX9_span_10 : decode cX9_span 10 = .ok (.iload 4, 2) := by decide +kernel
theorem dX9_span_12 : decode cX9_span 12 = .ok (.i2l, 1) := by decide +kernel
theorem dX9_span_13 : decode cX9_span 13 = .ok (.lconst 0, 1) := by decide +kernel
theorem dX9_span_14 : decode cX9_span 14 = .ok (.ldc2_w 180, 3) := by decide +kernel
theorem dX9_span_17 : decode cX9_span 17 = .ok (.invokestatic 83, 3) := by decide +kernel
theorem dX9_span_20 : decode cX9_span 20 = .ok (.ifCond .ne 6, 3) := by decide +kernel
theorem dX9_span_23 : decode cX9_span 23 = .ok (.bipush (-2), 2) := by decide +kernel
theorem dX9_span_25 : decode cX9_span 25 = .ok (.ireturn, 1) := by decide +kernel
theorem dX9_span_26 : decode cX9_span 26 = .ok (.aload_n 0, 1) := by decide +kernel
theorem dX9_span_27 : decode cX9_span 27 = .ok (.iload_n 1, 1) := by decide +kernel
theorem dX9_span_28 : decode cX9_span 28 = .ok (.iload_n 2, 1) := by decide +kernel
theorem dX9_span_29 : decode cX9_span 29 = .ok (.iload_n 3, 1) := by decide +kernel
theorem dX9_span_30 : decode cX9_span 30 = .ok (.invokevirtual 347, 3) := by decide +kernel
theorem dX9_span_33 : decode cX9_span 33 = .ok (.istore 5, 2) := by decide +kernel
theorem dX9_span_35 : decode cX9_span 35 = .ok (.aload_n 0, 1) := by decide +kernel
theorem dX9_span_36 : decode cX9_span 36 = .ok (.iload_n 1, 1) := by decide +kernel
theorem dX9_span_37 : decode cX9_span 37 = .ok (.iload_n 2, 1) := by decide +kernel
theorem dX9_span_38 : decode cX9_span 38 = .ok (.iload_n 3, 1) := by decide +kernel
theorem dX9_span_39 : decode cX9_span 39 = .ok (.invokevirtual 351, 3) := by decide +kernel
theorem dX9_span_42 : decode cX9_span 42 = .ok (.iconst 0, 1) := by decide +kernel
theorem dX9_span_43 : decode cX9_span 43 = .ok (.istore 6, 2) := by decide +kernel
theorem dX9_span_45 : decode cX9_span 45 = .ok (.iconst 0, 1) := by decide +kernel
theorem dX9_span_46 : decode cX9_span 46 = .ok (.istore 7, 2) := by decide +kernel
theorem dX9_span_48 : decode cX9_span 48 = .ok (.iconst 0, 1) := by decide +kernel
theorem dX9_span_49 : decode cX9_span 49 = .ok (.istore 8, 2) := by decide +kernel
theorem dX9_span_51 : decode cX9_span 51 = .ok (.aload_n 0, 1) := by decide +kernel
theorem dX9_span_52 : decode cX9_span 52 = .ok (.getfield 337, 3) := by decide +kernel
theorem dX9_span_55 : decode cX9_span 55 = .ok (.istore 9, 2) := by decide +kernel
theorem dX9_span_57 : decode cX9_span 57 = .ok (.iload 9, 2) := by decide +kernel
theorem dX9_span_59 : decode cX9_span 59 = .ok (.aload_n 0, 1) := by decide +kernel
theorem dX9_span_60 : decode cX9_span 60 = .ok (.getfield 340, 3) := by decide +kernel
theorem dX9_span_63 : decode cX9_span 63 = .ok (.if_icmp .ge 84, 3) := by decide +kernel
theorem dX9_span_66 : decode cX9_span 66 = .ok (.iload 6, 2) := by decide +kernel
theorem dX9_span_68 : decode cX9_span 68 = .ok (.aload_n 0, 1) := by decide +kernel
theorem dX9_span_69 : decode cX9_span 69 = .ok (.getfield 69, 3) := by decide +kernel
theorem dX9_span_72 : decode cX9_span 72 = .ok (.iload 9, 2) := by decide +kernel
theorem dX9_span_74 : decode cX9_span 74 = .ok (.laload, 1) := by decide +kernel
theorem dX9_span_75 : decode cX9_span 75 = .ok (.invokestatic 355, 3) := by decide +kernel
theorem dX9_span_78 : decode cX9_span 78 = .ok (.ifCond .eq 7, 3) := by decide +kernel
theorem dX9_span_81 : decode cX9_span 81 = .ok (.iconst 0, 1) := by decide +kernel
theorem dX9_span_82 : decode cX9_span 82 = .ok (.goto 4, 3) := by decide +kernel
theorem dX9_span_85 : decode cX9_span 85 = .ok (.iconst 1, 1) := by decide +kernel
theorem dX9_span_86 : decode cX9_span 86 = .ok (.iadd, 1) := by decide +kernel
theorem dX9_span_87 : decode cX9_span 87 = .ok (.istore 6, 2) := by decide +kernel
theorem dX9_span_89 : decode cX9_span 89 = .ok (.iload 7, 2) := by decide +kernel
theorem dX9_span_91 : decode cX9_span 91 = .ok (.aload_n 0, 1) := by decide +kernel
theorem dX9_span_92 : decode cX9_span 92 = .ok (.getfield 69, 3) := by decide +kernel
theorem dX9_span_95 : decode cX9_span 95 = .ok (.iload 9, 2) := by decide +kernel
theorem dX9_span_97 : decode cX9_span 97 = .ok (.laload, 1) := by decide +kernel
theorem dX9_span_98 : decode cX9_span 98 = .ok (.ldc2_w 359, 3) := by decide +kernel
theorem dX9_span_101 : decode cX9_span 101 = .ok (.lcmp, 1) := by decide +kernel
theorem dX9_span_102 : decode cX9_span 102 = .ok (.ifCond .ne 7, 3) := by decide +kernel
theorem dX9_span_105 : decode cX9_span 105 = .ok (.iconst 1, 1) := by decide +kernel
theorem dX9_span_106 : decode cX9_span 106 = .ok (.goto 4, 3) := by decide +kernel
theorem dX9_span_109 : decode cX9_span 109 = .ok (.iconst 0, 1) := by decide +kernel
theorem dX9_span_110 : decode cX9_span 110 = .ok (.iadd, 1) := by decide +kernel
theorem dX9_span_111 : decode cX9_span 111 = .ok (.istore 7, 2) := by decide +kernel
theorem dX9_span_113 : decode cX9_span 113 = .ok (.iload 8, 2) := by decide +kernel
theorem dX9_span_115 : decode cX9_span 115 = .ok (.aload_n 0, 1) := by decide +kernel
theorem dX9_span_116 : decode cX9_span 116 = .ok (.getfield 69, 3) := by decide +kernel
theorem dX9_span_119 : decode cX9_span 119 = .ok (.iload 9, 2) := by decide +kernel
theorem dX9_span_121 : decode cX9_span 121 = .ok (.laload, 1) := by decide +kernel
theorem dX9_span_122 : decode cX9_span 122 = .ok (.ldc2_w 95, 3) := by decide +kernel
theorem dX9_span_125 : decode cX9_span 125 = .ok (.land, 1) := by decide +kernel
theorem dX9_span_126 : decode cX9_span 126 = .ok (.ldc2_w 97, 3) := by decide +kernel
theorem dX9_span_129 : decode cX9_span 129 = .ok (.lcmp, 1) := by decide +kernel
theorem dX9_span_130 : decode cX9_span 130 = .ok (.ifCond .ne 7, 3) := by decide +kernel
theorem dX9_span_133 : decode cX9_span 133 = .ok (.iconst 1, 1) := by decide +kernel
theorem dX9_span_134 : decode cX9_span 134 = .ok (.goto 4, 3) := by decide +kernel
theorem dX9_span_137 : decode cX9_span 137 = .ok (.iconst 0, 1) := by decide +kernel
theorem dX9_span_138 : decode cX9_span 138 = .ok (.iadd, 1) := by decide +kernel
theorem dX9_span_139 : decode cX9_span 139 = .ok (.istore 8, 2) := by decide +kernel
theorem dX9_span_141 : decode cX9_span 141 = .ok (.iinc 9 1, 3) := by decide +kernel
theorem dX9_span_144 : decode cX9_span 144 = .ok (.goto (-87), 3) := by decide +kernel
theorem dX9_span_147 : decode cX9_span 147 = .ok (.aload_n 0, 1) := by decide +kernel
theorem dX9_span_148 : decode cX9_span 148 = .ok (.getfield 340, 3) := by decide +kernel
theorem dX9_span_151 : decode cX9_span 151 = .ok (.aload_n 0, 1) := by decide +kernel
theorem dX9_span_152 : decode cX9_span 152 = .ok (.getfield 337, 3) := by decide +kernel
theorem dX9_span_155 : decode cX9_span 155 = .ok (.if_icmp .le 7, 3) := by decide +kernel
theorem dX9_span_158 : decode cX9_span 158 = .ok (.iconst 1, 1) := by decide +kernel
theorem dX9_span_159 : decode cX9_span 159 = .ok (.goto 4, 3) := by decide +kernel
theorem dX9_span_162 : decode cX9_span 162 = .ok (.iconst 0, 1) := by decide +kernel
theorem dX9_span_163 : decode cX9_span 163 = .ok (.istore 9, 2) := by decide +kernel
theorem dX9_span_165 : decode cX9_span 165 = .ok (.iload 4, 2) := by decide +kernel
theorem dX9_span_167 : decode cX9_span 167 = .ok (.tableswitch 98 0 5 #[37, 47, 50, 70, 92, 95], 37) := by decide +kernel
theorem dX9_span_204 : decode cX9_span 204 = .ok (.aload_n 0, 1) := by decide +kernel
theorem dX9_span_205 : decode cX9_span 205 = .ok (.getfield 340, 3) := by decide +kernel
theorem dX9_span_208 : decode cX9_span 208 = .ok (.aload_n 0, 1) := by decide +kernel
theorem dX9_span_209 : decode cX9_span 209 = .ok (.getfield 337, 3) := by decide +kernel
theorem dX9_span_212 : decode cX9_span 212 = .ok (.isub, 1) := by decide +kernel
theorem dX9_span_213 : decode cX9_span 213 = .ok (.ireturn, 1) := by decide +kernel
theorem dX9_span_214 : decode cX9_span 214 = .ok (.iload 5, 2) := by decide +kernel
theorem dX9_span_216 : decode cX9_span 216 = .ok (.ireturn, 1) := by decide +kernel
theorem dX9_span_217 : decode cX9_span 217 = .ok (.iload 9, 2) := by decide +kernel
theorem dX9_span_219 : decode cX9_span 219 = .ok (.ifCond .eq 16, 3) := by decide +kernel
theorem dX9_span_222 : decode cX9_span 222 = .ok (.aload_n 0, 1) := by decide +kernel
theorem dX9_span_223 : decode cX9_span 223 = .ok (.getfield 66, 3) := by decide +kernel
theorem dX9_span_226 : decode cX9_span 226 = .ok (.aload_n 0, 1) := by decide +kernel
theorem dX9_span_227 : decode cX9_span 227 = .ok (.getfield 337, 3) := by decide +kernel
theorem dX9_span_230 : decode cX9_span 230 = .ok (.laload, 1) := by decide +kernel
theorem dX9_span_231 : decode cX9_span 231 = .ok (.l2i, 1) := by decide +kernel
theorem dX9_span_232 : decode cX9_span 232 = .ok (.goto 4, 3) := by decide +kernel
theorem dX9_span_235 : decode cX9_span 235 = .ok (.iconst (-1), 1) := by decide +kernel
theorem dX9_span_236 : decode cX9_span 236 = .ok (.ireturn, 1) := by decide +kernel
theorem dX9_span_237 : decode cX9_span 237 = .ok (.iload 9, 2) := by decide +kernel
theorem dX9_span_239 : decode cX9_span 239 = .ok (.ifCond .eq 18, 3) := by decide +kernel
theorem dX9_span_242 : decode cX9_span 242 = .ok (.aload_n 0, 1) := by decide +kernel
theorem dX9_span_243 : decode cX9_span 243 = .ok (.getfield 66, 3) := by decide +kernel
theorem dX9_span_246 : decode cX9_span 246 = .ok (.aload_n 0, 1) := by decide +kernel
theorem dX9_span_247 : decode cX9_span 247 = .ok (.getfield 340, 3) := by decide +kernel
theorem dX9_span_250 : decode cX9_span 250 = .ok (.iconst 1, 1) := by decide +kernel
theorem dX9_span_251 : decode cX9_span 251 = .ok (.isub, 1) := by decide +kernel
theorem dX9_span_252 : decode cX9_span 252 = .ok (.laload, 1) := by decide +kernel
theorem dX9_span_253 : decode cX9_span 253 = .ok (.l2i, 1) := by decide +kernel
theorem dX9_span_254 : decode cX9_span 254 = .ok (.goto 4, 3) := by decide +kernel
theorem dX9_span_257 : decode cX9_span 257 = .ok (.iconst (-1), 1) := by decide +kernel
theorem dX9_span_258 : decode cX9_span 258 = .ok (.ireturn, 1) := by decide +kernel
theorem dX9_span_259 : decode cX9_span 259 = .ok (.iload 6, 2) := by decide +kernel
theorem dX9_span_261 : decode cX9_span 261 = .ok (.ireturn, 1) := by decide +kernel
theorem dX9_span_262 : decode cX9_span 262 = .ok (.iload 7, 2) := by decide +kernel
theorem dX9_span_264 : decode cX9_span 264 = .ok (.ireturn, 1) := by decide +kernel
theorem dX9_span_265 : decode cX9_span 265 = .ok (.iload 8, 2) := by decide +kernel
theorem dX9_span_267 : decode cX9_span 267 = .ok (.ireturn, 1) := by decide +kernel
theorem dX9_isLess_0 : decode cX9_isLess 0 = .ok (.lload_n 0, 1) := by decide +kernel
theorem dX9_isLess_1 : decode cX9_isLess 1 = .ok (.invokestatic 361, 3) := by decide +kernel
theorem dX9_isLess_4 : decode cX9_isLess 4 = .ok (.lload_n 2, 1) := by decide +kernel
theorem dX9_isLess_5 : decode cX9_isLess 5 = .ok (.invokestatic 361, 3) := by decide +kernel
theorem dX9_isLess_8 : decode cX9_isLess 8 = .ok (.dcmp .g, 1) := by decide +kernel
theorem dX9_isLess_9 : decode cX9_isLess 9 = .ok (.ifCond .ge 7, 3) := by decide +kernel
theorem dX9_isLess_12 : decode cX9_isLess 12 = .ok (.iconst 1, 1) := by decide +kernel
theorem dX9_isLess_13 : decode cX9_isLess 13 = .ok (.goto 4, 3) := by decide +kernel
theorem dX9_isLess_16 : decode cX9_isLess 16 = .ok (.iconst 0, 1) := by decide +kernel
theorem dX9_isLess_17 : decode cX9_isLess 17 = .ok (.ireturn, 1) := by decide +kernel
theorem dX9_told_0 : decode cX9_told 0 = .ok (.dload_n 0, 1) := by decide +kernel
theorem dX9_told_1 : decode cX9_told 1 = .ok (.dload_n 0, 1) := by decide +kernel
theorem dX9_told_2 : decode cX9_told 2 = .ok (.dcmp .l, 1) := by decide +kernel
theorem dX9_told_3 : decode cX9_told 3 = .ok (.ifCond .ne 10, 3) := by decide +kernel
theorem dX9_told_6 : decode cX9_told 6 = .ok (.dload_n 0, 1) := by decide +kernel
theorem dX9_told_7 : decode cX9_told 7 = .ok (.invokestatic 367, 3) := by decide +kernel
theorem dX9_told_10 : decode cX9_told 10 = .ok (.goto 6, 3) := by decide +kernel
theorem dX9_told_13 : decode cX9_told 13 = .ok (.ldc2_w 371, 3) := by decide +kernel
theorem dX9_told_16 : decode cX9_told 16 = .ok (.lreturn, 1) := by decide +kernel
theorem dX9_value_0 : decode cX9_value 0 = .ok (.aload_n 0, 1) := by decide +kernel
theorem dX9_value_1 : decode cX9_value 1 = .ok (.iload_n 1, 1) := by decide +kernel
theorem dX9_value_2 : decode cX9_value 2 = .ok (.iload_n 2, 1) := by decide +kernel
theorem dX9_value_3 : decode cX9_value 3 = .ok (.iload_n 3, 1) := by decide +kernel
theorem dX9_value_4 : decode cX9_value 4 = .ok (.invokevirtual 343, 3) := by decide +kernel
theorem dX9_value_7 : decode cX9_value 7 = .ok (.ifCond .eq 16, 3) := by decide +kernel
theorem dX9_value_10 : decode cX9_value 10 = .ok (.iload 4, 2) := by decide +kernel
theorem dX9_value_12 : decode cX9_value 12 = .ok (.i2l, 1) := by decide +kernel
theorem dX9_value_13 : decode cX9_value 13 = .ok (.lconst 0, 1) := by decide +kernel
theorem dX9_value_14 : decode cX9_value 14 = .ok (.ldc2_w 373, 3) := by decide +kernel
theorem dX9_value_17 : decode cX9_value 17 = .ok (.invokestatic 83, 3) := by decide +kernel
theorem dX9_value_20 : decode cX9_value 20 = .ok (.ifCond .ne 7, 3) := by decide +kernel
theorem dX9_value_23 : decode cX9_value 23 = .ok (.ldc2_w 371, 3) := by decide +kernel
theorem dX9_value_26 : decode cX9_value 26 = .ok (.lreturn, 1) := by decide +kernel
theorem dX9_value_27 : decode cX9_value 27 = .ok (.aload_n 0, 1) := by decide +kernel
theorem dX9_value_28 : decode cX9_value 28 = .ok (.iload_n 1, 1) := by decide +kernel
theorem dX9_value_29 : decode cX9_value 29 = .ok (.iload_n 2, 1) := by decide +kernel
theorem dX9_value_30 : decode cX9_value 30 = .ok (.iload_n 3, 1) := by decide +kernel
theorem dX9_value_31 : decode cX9_value 31 = .ok (.invokevirtual 351, 3) := by decide +kernel
theorem dX9_value_34 : decode cX9_value 34 = .ok (.iconst 0, 1) := by decide +kernel
theorem dX9_value_35 : decode cX9_value 35 = .ok (.istore 5, 2) := by decide +kernel
theorem dX9_value_37 : decode cX9_value 37 = .ok (.lconst 0, 1) := by decide +kernel
theorem dX9_value_38 : decode cX9_value 38 = .ok (.lstore 6, 2) := by decide +kernel
theorem dX9_value_40 : decode cX9_value 40 = .ok (.dconst 0, 1) := by decide +kernel
theorem dX9_value_41 : decode cX9_value 41 = .ok (.dstore 8, 2) := by decide +kernel
theorem dX9_value_43 : decode cX9_value 43 = .ok (.aload_n 0, 1) := by decide +kernel
theorem dX9_value_44 : decode cX9_value 44 = .ok (.getfield 337, 3) := by decide +kernel
theorem dX9_value_47 : decode cX9_value 47 = .ok (.istore 10, 2) := by decide +kernel
theorem dX9_value_49 : decode cX9_value 49 = .ok (.iload 10, 2) := by decide +kernel
theorem dX9_value_51 : decode cX9_value 51 = .ok (.aload_n 0, 1) := by decide +kernel
theorem dX9_value_52 : decode cX9_value 52 = .ok (.getfield 340, 3) := by decide +kernel
theorem dX9_value_55 : decode cX9_value 55 = .ok (.if_icmp .ge 106, 3) := by decide +kernel
theorem dX9_value_58 : decode cX9_value 58 = .ok (.aload_n 0, 1) := by decide +kernel
theorem dX9_value_59 : decode cX9_value 59 = .ok (.getfield 69, 3) := by decide +kernel
theorem dX9_value_62 : decode cX9_value 62 = .ok (.iload 10, 2) := by decide +kernel
theorem dX9_value_64 : decode cX9_value 64 = .ok (.laload, 1) := by decide +kernel
theorem dX9_value_65 : decode cX9_value 65 = .ok (.lstore 11, 2) := by decide +kernel
theorem dX9_value_67 : decode cX9_value 67 = .ok (.lload 11, 2) := by decide +kernel
theorem dX9_value_69 : decode cX9_value 69 = .ok (.invokestatic 355, 3) := by decide +kernel
theorem dX9_value_72 : decode cX9_value 72 = .ok (.ifCond .ne 6, 3) := by decide +kernel
theorem dX9_value_75 : decode cX9_value 75 = .ok (.goto 80, 3) := by decide +kernel
theorem dX9_value_78 : decode cX9_value 78 = .ok (.iload 4, 2) := by decide +kernel
theorem dX9_value_80 : decode cX9_value 80 = .ok (.iconst 1, 1) := by decide +kernel
theorem dX9_value_81 : decode cX9_value 81 = .ok (.if_icmp .eq 35, 3) := by decide +kernel
theorem dX9_value_84 : decode cX9_value 84 = .ok (.iload 4, 2) := by decide +kernel
theorem dX9_value_86 : decode cX9_value 86 = .ok (.iconst 2, 1) := by decide +kernel
theorem dX9_value_87 : decode cX9_value 87 = .ok (.if_icmp .ne 13, 3) := by decide +kernel
theorem dX9_value_90 : decode cX9_value 90 = .ok (.lload 11, 2) := by decide +kernel
theorem dX9_value_92 : decode cX9_value 92 = .ok (.lload 6, 2) := by decide +kernel
theorem dX9_value_94 : decode cX9_value 94 = .ok (.invokestatic 375, 3) := by decide +kernel
theorem dX9_value_97 : decode cX9_value 97 = .ok (.ifCond .ne 19, 3) := by decide +kernel
theorem dX9_value_100 : decode cX9_value 100 = .ok (.iload 4, 2) := by decide +kernel
theorem dX9_value_102 : decode cX9_value 102 = .ok (.iconst 3, 1) := by decide +kernel
theorem dX9_value_103 : decode cX9_value 103 = .ok (.if_icmp .ne 17, 3) := by decide +kernel
theorem dX9_value_106 : decode cX9_value 106 = .ok (.lload 6, 2) := by decide +kernel
theorem dX9_value_108 : decode cX9_value 108 = .ok (.lload 11, 2) := by decide +kernel
theorem dX9_value_110 : decode cX9_value 110 = .ok (.invokestatic 375, 3) := by decide +kernel
theorem dX9_value_113 : decode cX9_value 113 = .ok (.ifCond .eq 7, 3) := by decide +kernel
theorem dX9_value_116 : decode cX9_value 116 = .ok (.iconst 1, 1) := by decide +kernel
theorem dX9_value_117 : decode cX9_value 117 = .ok (.goto 4, 3) := by decide +kernel
theorem dX9_value_120 : decode cX9_value 120 = .ok (.iconst 0, 1) := by decide +kernel
theorem dX9_value_121 : decode cX9_value 121 = .ok (.istore 13, 2) := by decide +kernel
theorem dX9_value_123 : decode cX9_value 123 = .ok (.iload 5, 2) := by decide +kernel
theorem dX9_value_125 : decode cX9_value 125 = .ok (.ifCond .eq 8, 3) := by decide +kernel
theorem dX9_value_128 : decode cX9_value 128 = .ok (.iload 13, 2) := by decide +kernel
theorem dX9_value_130 : decode cX9_value 130 = .ok (.ifCond .eq 8, 3) := by decide +kernel
theorem dX9_value_133 : decode cX9_value 133 = .ok (.lload 11, 2) := by decide +kernel
theorem dX9_value_135 : decode cX9_value 135 = .ok (.goto 5, 3) := by decide +kernel
theorem dX9_value_138 : decode cX9_value 138 = .ok (.lload 6, 2) := by decide +kernel
theorem dX9_value_140 : decode cX9_value 140 = .ok (.lstore 6, 2) := by decide +kernel
theorem dX9_value_142 : decode cX9_value 142 = .ok (.iconst 1, 1) := by decide +kernel
theorem dX9_value_143 : decode cX9_value 143 = .ok (.istore 5, 2) := by decide +kernel
theorem dX9_value_145 : decode cX9_value 145 = .ok (.dload 8, 2) := by decide +kernel
theorem dX9_value_147 : decode cX9_value 147 = .ok (.lload 11, 2) := by decide +kernel
theorem dX9_value_149 : decode cX9_value 149 = .ok (.invokestatic 361, 3) := by decide +kernel
theorem dX9_value_152 : decode cX9_value 152 = .ok (.dadd, 1) := by decide +kernel
theorem dX9_value_153 : decode cX9_value 153 = .ok (.dstore 8, 2) := by decide +kernel
theorem dX9_value_155 : decode cX9_value 155 = .ok (.iinc 10 1, 3) := by decide +kernel
theorem dX9_value_158 : decode cX9_value 158 = .ok (.goto (-109), 3) := by decide +kernel
theorem dX9_value_161 : decode cX9_value 161 = .ok (.iload 5, 2) := by decide +kernel
theorem dX9_value_163 : decode cX9_value 163 = .ok (.ifCond .ne 9, 3) := by decide +kernel
theorem dX9_value_166 : decode cX9_value 166 = .ok (.ldc2_w 371, 3) := by decide +kernel
theorem dX9_value_169 : decode cX9_value 169 = .ok (.goto 19, 3) := by decide +kernel
theorem dX9_value_172 : decode cX9_value 172 = .ok (.iload 4, 2) := by decide +kernel
theorem dX9_value_174 : decode cX9_value 174 = .ok (.iconst 4, 1) := by decide +kernel
theorem dX9_value_175 : decode cX9_value 175 = .ok (.if_icmp .ne 11, 3) := by decide +kernel
theorem dX9_value_178 : decode cX9_value 178 = .ok (.dload 8, 2) := by decide +kernel
theorem dX9_value_180 : decode cX9_value 180 = .ok (.invokestatic 379, 3) := by decide +kernel
theorem dX9_value_183 : decode cX9_value 183 = .ok (.goto 5, 3) := by decide +kernel
theorem dX9_value_186 : decode cX9_value 186 = .ok (.lload 6, 2) := by decide +kernel
theorem dX9_value_188 : decode cX9_value 188 = .ok (.lreturn, 1) := by decide +kernel
theorem dX9_above_0 : decode cX9_above 0 = .ok (.aload_n 0, 1) := by decide +kernel
theorem dX9_above_1 : decode cX9_above 1 = .ok (.iload_n 1, 1) := by decide +kernel
theorem dX9_above_2 : decode cX9_above 2 = .ok (.iload_n 2, 1) := by decide +kernel
theorem dX9_above_3 : decode cX9_above 3 = .ok (.iload_n 3, 1) := by decide +kernel
theorem dX9_above_4 : decode cX9_above 4 = .ok (.invokevirtual 343, 3) := by decide +kernel
theorem dX9_above_7 : decode cX9_above 7 = .ok (.ifCond .ne 6, 3) := by decide +kernel
theorem dX9_above_10 : decode cX9_above 10 = .ok (.bipush (-2), 2) := by decide +kernel
theorem dX9_above_12 : decode cX9_above 12 = .ok (.ireturn, 1) := by decide +kernel
theorem dX9_above_13 : decode cX9_above 13 = .ok (.lload 4, 2) := by decide +kernel
theorem dX9_above_15 : decode cX9_above 15 = .ok (.invokestatic 355, 3) := by decide +kernel
theorem dX9_above_18 : decode cX9_above 18 = .ok (.ifCond .ne 5, 3) := by decide +kernel
theorem dX9_above_21 : decode cX9_above 21 = .ok (.iconst (-1), 1) := by decide +kernel
theorem dX9_above_22 : decode cX9_above 22 = .ok (.ireturn, 1) := by decide +kernel
theorem dX9_above_23 : decode cX9_above 23 = .ok (.aload_n 0, 1) := by decide +kernel
theorem dX9_above_24 : decode cX9_above 24 = .ok (.iload_n 1, 1) := by decide +kernel
theorem dX9_above_25 : decode cX9_above 25 = .ok (.iload_n 2, 1) := by decide +kernel
theorem dX9_above_26 : decode cX9_above 26 = .ok (.iload_n 3, 1) := by decide +kernel
theorem dX9_above_27 : decode cX9_above 27 = .ok (.invokevirtual 351, 3) := by decide +kernel
theorem dX9_above_30 : decode cX9_above 30 = .ok (.iconst 0, 1) := by decide +kernel
theorem dX9_above_31 : decode cX9_above 31 = .ok (.istore 6, 2) := by decide +kernel
theorem dX9_above_33 : decode cX9_above 33 = .ok (.aload_n 0, 1) := by decide +kernel
theorem dX9_above_34 : decode cX9_above 34 = .ok (.getfield 337, 3) := by decide +kernel
theorem dX9_above_37 : decode cX9_above 37 = .ok (.istore 7, 2) := by decide +kernel
theorem dX9_above_39 : decode cX9_above 39 = .ok (.iload 7, 2) := by decide +kernel
theorem dX9_above_41 : decode cX9_above 41 = .ok (.aload_n 0, 1) := by decide +kernel
theorem dX9_above_42 : decode cX9_above 42 = .ok (.getfield 340, 3) := by decide +kernel
theorem dX9_above_45 : decode cX9_above 45 = .ok (.if_icmp .ge 47, 3) := by decide +kernel
theorem dX9_above_48 : decode cX9_above 48 = .ok (.iload 6, 2) := by decide +kernel
theorem dX9_above_50 : decode cX9_above 50 = .ok (.aload_n 0, 1) := by decide +kernel
theorem dX9_above_51 : decode cX9_above 51 = .ok (.getfield 69, 3) := by decide +kernel
theorem dX9_above_54 : decode cX9_above 54 = .ok (.iload 7, 2) := by decide +kernel
theorem dX9_above_56 : decode cX9_above 56 = .ok (.laload, 1) := by decide +kernel
theorem dX9_above_57 : decode cX9_above 57 = .ok (.invokestatic 355, 3) := by decide +kernel
theorem dX9_above_60 : decode cX9_above 60 = .ok (.ifCond .eq 22, 3) := by decide +kernel
theorem dX9_above_63 : decode cX9_above 63 = .ok (.lload 4, 2) := by decide +kernel
theorem dX9_above_65 : decode cX9_above 65 = .ok (.aload_n 0, 1) := by decide +kernel
theorem dX9_above_66 : decode cX9_above 66 = .ok (.getfield 69, 3) := by decide +kernel
theorem dX9_above_69 : decode cX9_above 69 = .ok (.iload 7, 2) := by decide +kernel
theorem dX9_above_71 : decode cX9_above 71 = .ok (.laload, 1) := by decide +kernel
theorem dX9_above_72 : decode cX9_above 72 = .ok (.invokestatic 375, 3) := by decide +kernel
theorem dX9_above_75 : decode cX9_above 75 = .ok (.ifCond .eq 7, 3) := by decide +kernel
theorem dX9_above_78 : decode cX9_above 78 = .ok (.iconst 1, 1) := by decide +kernel
theorem dX9_above_79 : decode cX9_above 79 = .ok (.goto 4, 3) := by decide +kernel
theorem dX9_above_82 : decode cX9_above 82 = .ok (.iconst 0, 1) := by decide +kernel
theorem dX9_above_83 : decode cX9_above 83 = .ok (.iadd, 1) := by decide +kernel
theorem dX9_above_84 : decode cX9_above 84 = .ok (.istore 6, 2) := by decide +kernel
theorem dX9_above_86 : decode cX9_above 86 = .ok (.iinc 7 1, 3) := by decide +kernel
theorem dX9_above_89 : decode cX9_above 89 = .ok (.goto (-50), 3) := by decide +kernel
theorem dX9_above_92 : decode cX9_above 92 = .ok (.iload 6, 2) := by decide +kernel
theorem dX9_above_94 : decode cX9_above 94 = .ok (.ireturn, 1) := by decide +kernel
theorem dX9_least_0 : decode cX9_least 0 = .ok (.aload_n 0, 1) := by decide +kernel
theorem dX9_least_1 : decode cX9_least 1 = .ok (.iload_n 1, 1) := by decide +kernel
theorem dX9_least_2 : decode cX9_least 2 = .ok (.iload_n 2, 1) := by decide +kernel
theorem dX9_least_3 : decode cX9_least 3 = .ok (.iload_n 3, 1) := by decide +kernel
theorem dX9_least_4 : decode cX9_least 4 = .ok (.invokevirtual 343, 3) := by decide +kernel
theorem dX9_least_7 : decode cX9_least 7 = .ok (.ifCond .eq 8, 3) := by decide +kernel
theorem dX9_least_10 : decode cX9_least 10 = .ok (.iload 4, 2) := by decide +kernel
theorem dX9_least_12 : decode cX9_least 12 = .ok (.ifCond .ge 7, 3) := by decide +kernel
theorem dX9_least_15 : decode cX9_least 15 = .ok (.ldc2_w 371, 3) := by decide +kernel
theorem dX9_least_18 : decode cX9_least 18 = .ok (.lreturn, 1) := by decide +kernel
theorem dX9_least_19 : decode cX9_least 19 = .ok (.aload_n 0, 1) := by decide +kernel
theorem dX9_least_20 : decode cX9_least 20 = .ok (.iload_n 1, 1) := by decide +kernel
theorem dX9_least_21 : decode cX9_least 21 = .ok (.iload_n 2, 1) := by decide +kernel
theorem dX9_least_22 : decode cX9_least 22 = .ok (.iload_n 3, 1) := by decide +kernel
theorem dX9_least_23 : decode cX9_least 23 = .ok (.invokevirtual 351, 3) := by decide +kernel
theorem dX9_least_26 : decode cX9_least 26 = .ok (.aload_n 0, 1) := by decide +kernel
theorem dX9_least_27 : decode cX9_least 27 = .ok (.getfield 337, 3) := by decide +kernel
theorem dX9_least_30 : decode cX9_least 30 = .ok (.istore 5, 2) := by decide +kernel
theorem dX9_least_32 : decode cX9_least 32 = .ok (.iload 5, 2) := by decide +kernel
theorem dX9_least_34 : decode cX9_least 34 = .ok (.aload_n 0, 1) := by decide +kernel
theorem dX9_least_35 : decode cX9_least 35 = .ok (.getfield 340, 3) := by decide +kernel
theorem dX9_least_38 : decode cX9_least 38 = .ok (.if_icmp .ge 156, 3) := by decide +kernel
theorem dX9_least_41 : decode cX9_least 41 = .ok (.iconst 0, 1) := by decide +kernel
theorem dX9_least_42 : decode cX9_least 42 = .ok (.istore 6, 2) := by decide +kernel
theorem dX9_least_44 : decode cX9_least 44 = .ok (.aload_n 0, 1) := by decide +kernel
theorem dX9_least_45 : decode cX9_least 45 = .ok (.getfield 337, 3) := by decide +kernel
theorem dX9_least_48 : decode cX9_least 48 = .ok (.istore 7, 2) := by decide +kernel
theorem dX9_least_50 : decode cX9_least 50 = .ok (.iload 7, 2) := by decide +kernel
theorem dX9_least_52 : decode cX9_least 52 = .ok (.aload_n 0, 1) := by decide +kernel
theorem dX9_least_53 : decode cX9_least 53 = .ok (.getfield 340, 3) := by decide +kernel
theorem dX9_least_56 : decode cX9_least 56 = .ok (.if_icmp .ge 104, 3) := by decide +kernel
theorem dX9_least_59 : decode cX9_least 59 = .ok (.aload_n 0, 1) := by decide +kernel
theorem dX9_least_60 : decode cX9_least 60 = .ok (.getfield 69, 3) := by decide +kernel
theorem dX9_least_63 : decode cX9_least 63 = .ok (.iload 5, 2) := by decide +kernel
theorem dX9_least_65 : decode cX9_least 65 = .ok (.laload, 1) := by decide +kernel
theorem dX9_least_66 : decode cX9_least 66 = .ok (.invokestatic 355, 3) := by decide +kernel
theorem dX9_least_69 : decode cX9_least 69 = .ok (.ifCond .eq 91, 3) := by decide +kernel
theorem dX9_least_72 : decode cX9_least 72 = .ok (.aload_n 0, 1) := by decide +kernel
theorem dX9_least_73 : decode cX9_least 73 = .ok (.getfield 69, 3) := by decide +kernel
theorem dX9_least_76 : decode cX9_least 76 = .ok (.iload 7, 2) := by decide +kernel
theorem dX9_least_78 : decode cX9_least 78 = .ok (.laload, 1) := by decide +kernel
theorem dX9_least_79 : decode cX9_least 79 = .ok (.invokestatic 355, 3) := by decide +kernel
theorem dX9_least_82 : decode cX9_least 82 = .ok (.ifCond .eq 54, 3) := by decide +kernel
theorem dX9_least_85 : decode cX9_least 85 = .ok (.aload_n 0, 1) := by decide +kernel
theorem dX9_least_86 : decode cX9_least 86 = .ok (.getfield 69, 3) := by decide +kernel
theorem dX9_least_89 : decode cX9_least 89 = .ok (.iload 7, 2) := by decide +kernel
theorem dX9_least_91 : decode cX9_least 91 = .ok (.laload, 1) := by decide +kernel
theorem dX9_least_92 : decode cX9_least 92 = .ok (.aload_n 0, 1) := by decide +kernel
theorem dX9_least_93 : decode cX9_least 93 = .ok (.getfield 69, 3) := by decide +kernel
theorem dX9_least_96 : decode cX9_least 96 = .ok (.iload 5, 2) := by decide +kernel
theorem dX9_least_98 : decode cX9_least 98 = .ok (.laload, 1) := by decide +kernel
theorem dX9_least_99 : decode cX9_least 99 = .ok (.invokestatic 375, 3) := by decide +kernel
theorem dX9_least_102 : decode cX9_least 102 = .ok (.ifCond .ne 30, 3) := by decide +kernel
theorem dX9_least_105 : decode cX9_least 105 = .ok (.iload 7, 2) := by decide +kernel
theorem dX9_least_107 : decode cX9_least 107 = .ok (.iload 5, 2) := by decide +kernel
theorem dX9_least_109 : decode cX9_least 109 = .ok (.if_icmp .ge 27, 3) := by decide +kernel
theorem dX9_least_112 : decode cX9_least 112 = .ok (.aload_n 0, 1) := by decide +kernel
theorem dX9_least_113 : decode cX9_least 113 = .ok (.getfield 69, 3) := by decide +kernel
theorem dX9_least_116 : decode cX9_least 116 = .ok (.iload 5, 2) := by decide +kernel
theorem dX9_least_118 : decode cX9_least 118 = .ok (.laload, 1) := by decide +kernel
theorem dX9_least_119 : decode cX9_least 119 = .ok (.aload_n 0, 1) := by decide +kernel
theorem dX9_least_120 : decode cX9_least 120 = .ok (.getfield 69, 3) := by decide +kernel
theorem dX9_least_123 : decode cX9_least 123 = .ok (.iload 7, 2) := by decide +kernel
theorem dX9_least_125 : decode cX9_least 125 = .ok (.laload, 1) := by decide +kernel
theorem dX9_least_126 : decode cX9_least 126 = .ok (.invokestatic 375, 3) := by decide +kernel
theorem dX9_least_129 : decode cX9_least 129 = .ok (.ifCond .ne 7, 3) := by decide +kernel
theorem dX9_least_132 : decode cX9_least 132 = .ok (.iconst 1, 1) := by decide +kernel
theorem dX9_least_133 : decode cX9_least 133 = .ok (.goto 4, 3) := by decide +kernel
theorem dX9_least_136 : decode cX9_least 136 = .ok (.iconst 0, 1) := by decide +kernel
theorem dX9_least_137 : decode cX9_least 137 = .ok (.istore 8, 2) := by decide +kernel
theorem dX9_least_139 : decode cX9_least 139 = .ok (.iload 6, 2) := by decide +kernel
theorem dX9_least_141 : decode cX9_least 141 = .ok (.iload 8, 2) := by decide +kernel
theorem dX9_least_143 : decode cX9_least 143 = .ok (.ifCond .eq 7, 3) := by decide +kernel
theorem dX9_least_146 : decode cX9_least 146 = .ok (.iconst 1, 1) := by decide +kernel
theorem dX9_least_147 : decode cX9_least 147 = .ok (.goto 4, 3) := by decide +kernel
theorem dX9_least_150 : decode cX9_least 150 = .ok (.iconst 0, 1) := by decide +kernel
theorem dX9_least_151 : decode cX9_least 151 = .ok (.iadd, 1) := by decide +kernel
theorem dX9_least_152 : decode cX9_least 152 = .ok (.istore 6, 2) := by decide +kernel
theorem dX9_least_154 : decode cX9_least 154 = .ok (.iinc 7 1, 3) := by decide +kernel
theorem dX9_least_157 : decode cX9_least 157 = .ok (.goto (-107), 3) := by decide +kernel
theorem dX9_least_160 : decode cX9_least 160 = .ok (.aload_n 0, 1) := by decide +kernel
theorem dX9_least_161 : decode cX9_least 161 = .ok (.getfield 69, 3) := by decide +kernel
theorem dX9_least_164 : decode cX9_least 164 = .ok (.iload 5, 2) := by decide +kernel
theorem dX9_least_166 : decode cX9_least 166 = .ok (.laload, 1) := by decide +kernel
theorem dX9_least_167 : decode cX9_least 167 = .ok (.invokestatic 355, 3) := by decide +kernel
theorem dX9_least_170 : decode cX9_least 170 = .ok (.ifCond .eq 18, 3) := by decide +kernel
theorem dX9_least_173 : decode cX9_least 173 = .ok (.iload 6, 2) := by decide +kernel
theorem dX9_least_175 : decode cX9_least 175 = .ok (.iload 4, 2) := by decide +kernel
theorem dX9_least_177 : decode cX9_least 177 = .ok (.if_icmp .ne 11, 3) := by decide +kernel
theorem dX9_least_180 : decode cX9_least 180 = .ok (.aload_n 0, 1) := by decide +kernel
theorem dX9_least_181 : decode cX9_least 181 = .ok (.getfield 69, 3) := by decide +kernel
theorem dX9_least_184 : decode cX9_least 184 = .ok (.iload 5, 2) := by decide +kernel
theorem dX9_least_186 : decode cX9_least 186 = .ok (.laload, 1) := by decide +kernel
theorem dX9_least_187 : decode cX9_least 187 = .ok (.lreturn, 1) := by decide +kernel
theorem dX9_least_188 : decode cX9_least 188 = .ok (.iinc 5 1, 3) := by decide +kernel
theorem dX9_least_191 : decode cX9_least 191 = .ok (.goto (-159), 3) := by decide +kernel
theorem dX9_least_194 : decode cX9_least 194 = .ok (.ldc2_w 371, 3) := by decide +kernel
theorem dX9_least_197 : decode cX9_least 197 = .ok (.lreturn, 1) := by decide +kernel
theorem dX9_passes_0 : decode cX9_passes 0 = .ok (.aload_n 0, 1) := by decide +kernel
theorem dX9_passes_1 : decode cX9_passes 1 = .ok (.iload_n 1, 1) := by decide +kernel
theorem dX9_passes_2 : decode cX9_passes 2 = .ok (.invokevirtual 87, 3) := by decide +kernel
theorem dX9_passes_5 : decode cX9_passes 5 = .ok (.ifCond .ne 6, 3) := by decide +kernel
theorem dX9_passes_8 : decode cX9_passes 8 = .ok (.bipush (-2), 2) := by decide +kernel
theorem dX9_passes_10 : decode cX9_passes 10 = .ok (.ireturn, 1) := by decide +kernel
theorem dX9_passes_11 : decode cX9_passes 11 = .ok (.lload_n 2, 1) := by decide +kernel
theorem dX9_passes_12 : decode cX9_passes 12 = .ok (.invokestatic 355, 3) := by decide +kernel
theorem dX9_passes_15 : decode cX9_passes 15 = .ok (.ifCond .ne 5, 3) := by decide +kernel
theorem dX9_passes_18 : decode cX9_passes 18 = .ok (.iconst (-1), 1) := by decide +kernel
theorem dX9_passes_19 : decode cX9_passes 19 = .ok (.ireturn, 1) := by decide +kernel
theorem dX9_passes_20 : decode cX9_passes 20 = .ok (.aload_n 0, 1) := by decide +kernel
theorem dX9_passes_21 : decode cX9_passes 21 = .ok (.iload_n 1, 1) := by decide +kernel
theorem dX9_passes_22 : decode cX9_passes 22 = .ok (.invokevirtual 297, 3) := by decide +kernel
theorem dX9_passes_25 : decode cX9_passes 25 = .ok (.iconst 0, 1) := by decide +kernel
theorem dX9_passes_26 : decode cX9_passes 26 = .ok (.istore 4, 2) := by decide +kernel
theorem dX9_passes_28 : decode cX9_passes 28 = .ok (.iconst 1, 1) := by decide +kernel
theorem dX9_passes_29 : decode cX9_passes 29 = .ok (.istore 5, 2) := by decide +kernel
theorem dX9_passes_31 : decode cX9_passes 31 = .ok (.iload 5, 2) := by decide +kernel
theorem dX9_passes_33 : decode cX9_passes 33 = .ok (.aload_n 0, 1) := by decide +kernel
theorem dX9_passes_34 : decode cX9_passes 34 = .ok (.getfield 248, 3) := by decide +kernel
theorem dX9_passes_37 : decode cX9_passes 37 = .ok (.if_icmp .ge 86, 3) := by decide +kernel
theorem dX9_passes_40 : decode cX9_passes 40 = .ok (.aload_n 0, 1) := by decide +kernel
theorem dX9_passes_41 : decode cX9_passes 41 = .ok (.getfield 69, 3) := by decide +kernel
theorem dX9_passes_44 : decode cX9_passes 44 = .ok (.iload 5, 2) := by decide +kernel
theorem dX9_passes_46 : decode cX9_passes 46 = .ok (.laload, 1) := by decide +kernel
theorem dX9_passes_47 : decode cX9_passes 47 = .ok (.invokestatic 355, 3) := by decide +kernel
theorem dX9_passes_50 : decode cX9_passes 50 = .ok (.ifCond .eq 22, 3) := by decide +kernel
theorem dX9_passes_53 : decode cX9_passes 53 = .ok (.aload_n 0, 1) := by decide +kernel
theorem dX9_passes_54 : decode cX9_passes 54 = .ok (.getfield 69, 3) := by decide +kernel
theorem dX9_passes_57 : decode cX9_passes 57 = .ok (.iload 5, 2) := by decide +kernel
theorem dX9_passes_59 : decode cX9_passes 59 = .ok (.iconst 1, 1) := by decide +kernel
theorem dX9_passes_60 : decode cX9_passes 60 = .ok (.isub, 1) := by decide +kernel
theorem dX9_passes_61 : decode cX9_passes 61 = .ok (.laload, 1) := by decide +kernel
theorem dX9_passes_62 : decode cX9_passes 62 = .ok (.invokestatic 355, 3) := by decide +kernel
theorem dX9_passes_65 : decode cX9_passes 65 = .ok (.ifCond .eq 7, 3) := by decide +kernel
theorem dX9_passes_68 : decode cX9_passes 68 = .ok (.iconst 1, 1) := by decide +kernel
theorem dX9_passes_69 : decode cX9_passes 69 = .ok (.goto 4, 3) := by decide +kernel
theorem dX9_passes_72 : decode cX9_passes 72 = .ok (.iconst 0, 1) := by decide +kernel
theorem dX9_passes_73 : decode cX9_passes 73 = .ok (.istore 6, 2) := by decide +kernel
theorem dX9_passes_75 : decode cX9_passes 75 = .ok (.iload 4, 2) := by decide +kernel
theorem dX9_passes_77 : decode cX9_passes 77 = .ok (.iload 6, 2) := by decide +kernel
theorem dX9_passes_79 : decode cX9_passes 79 = .ok (.ifCond .eq 34, 3) := by decide +kernel
theorem dX9_passes_82 : decode cX9_passes 82 = .ok (.aload_n 0, 1) := by decide +kernel
theorem dX9_passes_83 : decode cX9_passes 83 = .ok (.getfield 69, 3) := by decide +kernel
theorem dX9_passes_86 : decode cX9_passes 86 = .ok (.iload 5, 2) := by decide +kernel
theorem dX9_passes_88 : decode cX9_passes 88 = .ok (.laload, 1) := by decide +kernel
theorem dX9_passes_89 : decode cX9_passes 89 = .ok (.lload_n 2, 1) := by decide +kernel
theorem dX9_passes_90 : decode cX9_passes 90 = .ok (.invokestatic 375, 3) := by decide +kernel
theorem dX9_passes_93 : decode cX9_passes 93 = .ok (.aload_n 0, 1) := by decide +kernel
theorem dX9_passes_94 : decode cX9_passes 94 = .ok (.getfield 69, 3) := by decide +kernel
theorem dX9_passes_97 : decode cX9_passes 97 = .ok (.iload 5, 2) := by decide +kernel
theorem dX9_passes_99 : decode cX9_passes 99 = .ok (.iconst 1, 1) := by decide +kernel
theorem dX9_passes_100 : decode cX9_passes 100 = .ok (.isub, 1) := by decide +kernel
theorem dX9_passes_101 : decode cX9_passes 101 = .ok (.laload, 1) := by decide +kernel
theorem dX9_passes_102 : decode cX9_passes 102 = .ok (.lload_n 2, 1) := by decide +kernel
theorem dX9_passes_103 : decode cX9_passes 103 = .ok (.invokestatic 375, 3) := by decide +kernel
theorem dX9_passes_106 : decode cX9_passes 106 = .ok (.if_icmp .eq 7, 3) := by decide +kernel
theorem dX9_passes_109 : decode cX9_passes 109 = .ok (.iconst 1, 1) := by decide +kernel
theorem dX9_passes_110 : decode cX9_passes 110 = .ok (.goto 4, 3) := by decide +kernel
theorem dX9_passes_113 : decode cX9_passes 113 = .ok (.iconst 0, 1) := by decide +kernel
theorem dX9_passes_114 : decode cX9_passes 114 = .ok (.iadd, 1) := by decide +kernel
theorem dX9_passes_115 : decode cX9_passes 115 = .ok (.istore 4, 2) := by decide +kernel
theorem dX9_passes_117 : decode cX9_passes 117 = .ok (.iinc 5 1, 3) := by decide +kernel
theorem dX9_passes_120 : decode cX9_passes 120 = .ok (.goto (-89), 3) := by decide +kernel
theorem dX9_passes_123 : decode cX9_passes 123 = .ok (.iload 4, 2) := by decide +kernel
theorem dX9_passes_125 : decode cX9_passes 125 = .ok (.ireturn, 1) := by decide +kernel
theorem dX9_area_0 : decode cX9_area 0 = .ok (.aload_n 0, 1) := by decide +kernel
theorem dX9_area_1 : decode cX9_area 1 = .ok (.iload_n 1, 1) := by decide +kernel
theorem dX9_area_2 : decode cX9_area 2 = .ok (.iload_n 2, 1) := by decide +kernel
theorem dX9_area_3 : decode cX9_area 3 = .ok (.iload_n 3, 1) := by decide +kernel
theorem dX9_area_4 : decode cX9_area 4 = .ok (.invokevirtual 343, 3) := by decide +kernel
theorem dX9_area_7 : decode cX9_area 7 = .ok (.ifCond .ne 7, 3) := by decide +kernel
theorem dX9_area_10 : decode cX9_area 10 = .ok (.ldc2_w 371, 3) := by decide +kernel
theorem dX9_area_13 : decode cX9_area 13 = .ok (.lreturn, 1) := by decide +kernel
theorem dX9_area_14 : decode cX9_area 14 = .ok (.aload_n 0, 1) := by decide +kernel
theorem dX9_area_15 : decode cX9_area 15 = .ok (.iload_n 1, 1) := by decide +kernel
theorem dX9_area_16 : decode cX9_area 16 = .ok (.iload_n 2, 1) := by decide +kernel
theorem dX9_area_17 : decode cX9_area 17 = .ok (.iload_n 3, 1) := by decide +kernel
theorem dX9_area_18 : decode cX9_area 18 = .ok (.invokevirtual 351, 3) := by decide +kernel
theorem dX9_area_21 : decode cX9_area 21 = .ok (.dconst 0, 1) := by decide +kernel
theorem dX9_area_22 : decode cX9_area 22 = .ok (.dstore 4, 2) := by decide +kernel
theorem dX9_area_24 : decode cX9_area 24 = .ok (.aload_n 0, 1) := by decide +kernel
theorem dX9_area_25 : decode cX9_area 25 = .ok (.getfield 337, 3) := by decide +kernel
theorem dX9_area_28 : decode cX9_area 28 = .ok (.istore 6, 2) := by decide +kernel
theorem dX9_area_30 : decode cX9_area 30 = .ok (.iload 6, 2) := by decide +kernel
theorem dX9_area_32 : decode cX9_area 32 = .ok (.iconst 1, 1) := by decide +kernel
theorem dX9_area_33 : decode cX9_area 33 = .ok (.iadd, 1) := by decide +kernel
theorem dX9_area_34 : decode cX9_area 34 = .ok (.aload_n 0, 1) := by decide +kernel
theorem dX9_area_35 : decode cX9_area 35 = .ok (.getfield 340, 3) := by decide +kernel
theorem dX9_area_38 : decode cX9_area 38 = .ok (.if_icmp .ge 56, 3) := by decide +kernel
theorem dX9_area_41 : decode cX9_area 41 = .ok (.aload_n 0, 1) := by decide +kernel
theorem dX9_area_42 : decode cX9_area 42 = .ok (.getfield 69, 3) := by decide +kernel
theorem dX9_area_45 : decode cX9_area 45 = .ok (.iload 6, 2) := by decide +kernel
theorem dX9_area_47 : decode cX9_area 47 = .ok (.laload, 1) := by decide +kernel
theorem dX9_area_48 : decode cX9_area 48 = .ok (.invokestatic 355, 3) := by decide +kernel
theorem dX9_area_51 : decode cX9_area 51 = .ok (.ifCond .eq 37, 3) := by decide +kernel
theorem dX9_area_54 : decode cX9_area 54 = .ok (.dload 4, 2) := by decide +kernel
theorem dX9_area_56 : decode cX9_area 56 = .ok (.aload_n 0, 1) := by decide +kernel
theorem dX9_area_57 : decode cX9_area 57 = .ok (.getfield 69, 3) := by decide +kernel
theorem dX9_area_60 : decode cX9_area 60 = .ok (.iload 6, 2) := by decide +kernel
theorem dX9_area_62 : decode cX9_area 62 = .ok (.laload, 1) := by decide +kernel
theorem dX9_area_63 : decode cX9_area 63 = .ok (.invokestatic 361, 3) := by decide +kernel
theorem dX9_area_66 : decode cX9_area 66 = .ok (.aload_n 0, 1) := by decide +kernel
theorem dX9_area_67 : decode cX9_area 67 = .ok (.getfield 66, 3) := by decide +kernel
theorem dX9_area_70 : decode cX9_area 70 = .ok (.iload 6, 2) := by decide +kernel
theorem dX9_area_72 : decode cX9_area 72 = .ok (.iconst 1, 1) := by decide +kernel
theorem dX9_area_73 : decode cX9_area 73 = .ok (.iadd, 1) := by decide +kernel
theorem dX9_area_74 : decode cX9_area 74 = .ok (.laload, 1) := by decide +kernel
theorem dX9_area_75 : decode cX9_area 75 = .ok (.aload_n 0, 1) := by decide +kernel
theorem dX9_area_76 : decode cX9_area 76 = .ok (.getfield 66, 3) := by decide +kernel
theorem dX9_area_79 : decode cX9_area 79 = .ok (.iload 6, 2) := by decide +kernel
theorem dX9_area_81 : decode cX9_area 81 = .ok (.laload, 1) := by decide +kernel
theorem dX9_area_82 : decode cX9_area 82 = .ok (.lsub, 1) := by decide +kernel
theorem dX9_area_83 : decode cX9_area 83 = .ok (.l2d, 1) := by decide +kernel
theorem dX9_area_84 : decode cX9_area 84 = .ok (.dmul, 1) := by decide +kernel
theorem dX9_area_85 : decode cX9_area 85 = .ok (.dadd, 1) := by decide +kernel
theorem dX9_area_86 : decode cX9_area 86 = .ok (.dstore 4, 2) := by decide +kernel
theorem dX9_area_88 : decode cX9_area 88 = .ok (.iinc 6 1, 3) := by decide +kernel
theorem dX9_area_91 : decode cX9_area 91 = .ok (.goto (-61), 3) := by decide +kernel
theorem dX9_area_94 : decode cX9_area 94 = .ok (.dload 4, 2) := by decide +kernel
theorem dX9_area_96 : decode cX9_area 96 = .ok (.invokestatic 379, 3) := by decide +kernel
theorem dX9_area_99 : decode cX9_area 99 = .ok (.lreturn, 1) := by decide +kernel
theorem dX9_gap_0 : decode cX9_gap 0 = .ok (.aload_n 0, 1) := by decide +kernel
theorem dX9_gap_1 : decode cX9_gap 1 = .ok (.iload_n 1, 1) := by decide +kernel
theorem dX9_gap_2 : decode cX9_gap 2 = .ok (.invokevirtual 87, 3) := by decide +kernel
theorem dX9_gap_5 : decode cX9_gap 5 = .ok (.ifCond .eq 13, 3) := by decide +kernel
theorem dX9_gap_8 : decode cX9_gap 8 = .ok (.iload_n 2, 1) := by decide +kernel
theorem dX9_gap_9 : decode cX9_gap 9 = .ok (.i2l, 1) := by decide +kernel
theorem dX9_gap_10 : decode cX9_gap 10 = .ok (.lconst 0, 1) := by decide +kernel
theorem dX9_gap_11 : decode cX9_gap 11 = .ok (.lconst 1, 1) := by decide +kernel
theorem dX9_gap_12 : decode cX9_gap 12 = .ok (.invokestatic 83, 3) := by decide +kernel
theorem dX9_gap_15 : decode cX9_gap 15 = .ok (.ifCond .ne 6, 3) := by decide +kernel
theorem dX9_gap_18 : decode cX9_gap 18 = .ok (.bipush (-2), 2) := by decide +kernel
theorem dX9_gap_20 : decode cX9_gap 20 = .ok (.ireturn, 1) := by decide +kernel
theorem dX9_gap_21 : decode cX9_gap 21 = .ok (.aload_n 0, 1) := by decide +kernel
theorem dX9_gap_22 : decode cX9_gap 22 = .ok (.iload_n 1, 1) := by decide +kernel
theorem dX9_gap_23 : decode cX9_gap 23 = .ok (.invokevirtual 297, 3) := by decide +kernel
theorem dX9_gap_26 : decode cX9_gap 26 = .ok (.lconst 0, 1) := by decide +kernel
theorem dX9_gap_27 : decode cX9_gap 27 = .ok (.lstore_n 3, 1) := by decide +kernel
theorem dX9_gap_28 : decode cX9_gap 28 = .ok (.ldc2_w 331, 3) := by decide +kernel
theorem dX9_gap_31 : decode cX9_gap 31 = .ok (.lstore 5, 2) := by decide +kernel
theorem dX9_gap_33 : decode cX9_gap 33 = .ok (.iconst 1, 1) := by decide +kernel
theorem dX9_gap_34 : decode cX9_gap 34 = .ok (.istore 7, 2) := by decide +kernel
theorem dX9_gap_36 : decode cX9_gap 36 = .ok (.iload 7, 2) := by decide +kernel
theorem dX9_gap_38 : decode cX9_gap 38 = .ok (.aload_n 0, 1) := by decide +kernel
theorem dX9_gap_39 : decode cX9_gap 39 = .ok (.getfield 248, 3) := by decide +kernel
theorem dX9_gap_42 : decode cX9_gap 42 = .ok (.if_icmp .ge 60, 3) := by decide +kernel
theorem dX9_gap_45 : decode cX9_gap 45 = .ok (.aload_n 0, 1) := by decide +kernel
theorem dX9_gap_46 : decode cX9_gap 46 = .ok (.getfield 66, 3) := by decide +kernel
theorem dX9_gap_49 : decode cX9_gap 49 = .ok (.iload 7, 2) := by decide +kernel
theorem dX9_gap_51 : decode cX9_gap 51 = .ok (.laload, 1) := by decide +kernel
theorem dX9_gap_52 : decode cX9_gap 52 = .ok (.aload_n 0, 1) := by decide +kernel
theorem dX9_gap_53 : decode cX9_gap 53 = .ok (.getfield 66, 3) := by decide +kernel
theorem dX9_gap_56 : decode cX9_gap 56 = .ok (.iload 7, 2) := by decide +kernel
theorem dX9_gap_58 : decode cX9_gap 58 = .ok (.iconst 1, 1) := by decide +kernel
theorem dX9_gap_59 : decode cX9_gap 59 = .ok (.isub, 1) := by decide +kernel
theorem dX9_gap_60 : decode cX9_gap 60 = .ok (.laload, 1) := by decide +kernel
theorem dX9_gap_61 : decode cX9_gap 61 = .ok (.lsub, 1) := by decide +kernel
theorem dX9_gap_62 : decode cX9_gap 62 = .ok (.lload_n 3, 1) := by decide +kernel
theorem dX9_gap_63 : decode cX9_gap 63 = .ok (.lcmp, 1) := by decide +kernel
theorem dX9_gap_64 : decode cX9_gap 64 = .ok (.ifCond .le 32, 3) := by decide +kernel
theorem dX9_gap_67 : decode cX9_gap 67 = .ok (.aload_n 0, 1) := by decide +kernel
theorem dX9_gap_68 : decode cX9_gap 68 = .ok (.getfield 66, 3) := by decide +kernel
theorem dX9_gap_71 : decode cX9_gap 71 = .ok (.iload 7, 2) := by decide +kernel
theorem dX9_gap_73 : decode cX9_gap 73 = .ok (.laload, 1) := by decide +kernel
theorem dX9_gap_74 : decode cX9_gap 74 = .ok (.aload_n 0, 1) := by decide +kernel
theorem dX9_gap_75 : decode cX9_gap 75 = .ok (.getfield 66, 3) := by decide +kernel
theorem dX9_gap_78 : decode cX9_gap 78 = .ok (.iload 7, 2) := by decide +kernel
theorem dX9_gap_80 : decode cX9_gap 80 = .ok (.iconst 1, 1) := by decide +kernel
theorem dX9_gap_81 : decode cX9_gap 81 = .ok (.isub, 1) := by decide +kernel
theorem dX9_gap_82 : decode cX9_gap 82 = .ok (.laload, 1) := by decide +kernel
theorem dX9_gap_83 : decode cX9_gap 83 = .ok (.lsub, 1) := by decide +kernel
theorem dX9_gap_84 : decode cX9_gap 84 = .ok (.lstore_n 3, 1) := by decide +kernel
theorem dX9_gap_85 : decode cX9_gap 85 = .ok (.aload_n 0, 1) := by decide +kernel
theorem dX9_gap_86 : decode cX9_gap 86 = .ok (.getfield 66, 3) := by decide +kernel
theorem dX9_gap_89 : decode cX9_gap 89 = .ok (.iload 7, 2) := by decide +kernel
theorem dX9_gap_91 : decode cX9_gap 91 = .ok (.iconst 1, 1) := by decide +kernel
theorem dX9_gap_92 : decode cX9_gap 92 = .ok (.isub, 1) := by decide +kernel
theorem dX9_gap_93 : decode cX9_gap 93 = .ok (.laload, 1) := by decide +kernel
theorem dX9_gap_94 : decode cX9_gap 94 = .ok (.lstore 5, 2) := by decide +kernel
theorem dX9_gap_96 : decode cX9_gap 96 = .ok (.iinc 7 1, 3) := by decide +kernel
theorem dX9_gap_99 : decode cX9_gap 99 = .ok (.goto (-63), 3) := by decide +kernel
theorem dX9_gap_102 : decode cX9_gap 102 = .ok (.aload_n 0, 1) := by decide +kernel
theorem dX9_gap_103 : decode cX9_gap 103 = .ok (.getfield 248, 3) := by decide +kernel
theorem dX9_gap_106 : decode cX9_gap 106 = .ok (.iconst 2, 1) := by decide +kernel
theorem dX9_gap_107 : decode cX9_gap 107 = .ok (.if_icmp .ge 7, 3) := by decide +kernel
theorem dX9_gap_110 : decode cX9_gap 110 = .ok (.iconst (-1), 1) := by decide +kernel
theorem dX9_gap_111 : decode cX9_gap 111 = .ok (.goto 14, 3) := by decide +kernel
theorem dX9_gap_114 : decode cX9_gap 114 = .ok (.iload_n 2, 1) := by decide +kernel
theorem dX9_gap_115 : decode cX9_gap 115 = .ok (.ifCond .ne 7, 3) := by decide +kernel
theorem dX9_gap_118 : decode cX9_gap 118 = .ok (.lload_n 3, 1) := by decide +kernel
theorem dX9_gap_119 : decode cX9_gap 119 = .ok (.goto 5, 3) := by decide +kernel
theorem dX9_gap_122 : decode cX9_gap 122 = .ok (.lload 5, 2) := by decide +kernel
theorem dX9_gap_124 : decode cX9_gap 124 = .ok (.l2i, 1) := by decide +kernel
theorem dX9_gap_125 : decode cX9_gap 125 = .ok (.ireturn, 1) := by decide +kernel
theorem dX9_row_0 : decode cX9_row 0 = .ok (.aload_n 0, 1) := by decide +kernel
theorem dX9_row_1 : decode cX9_row 1 = .ok (.iload_n 1, 1) := by decide +kernel
theorem dX9_row_2 : decode cX9_row 2 = .ok (.invokevirtual 87, 3) := by decide +kernel
theorem dX9_row_5 : decode cX9_row 5 = .ok (.ifCond .eq 13, 3) := by decide +kernel
theorem dX9_row_8 : decode cX9_row 8 = .ok (.iload_n 2, 1) := by decide +kernel
theorem dX9_row_9 : decode cX9_row 9 = .ok (.i2l, 1) := by decide +kernel
theorem dX9_row_10 : decode cX9_row 10 = .ok (.lconst 0, 1) := by decide +kernel
theorem dX9_row_11 : decode cX9_row 11 = .ok (.lconst 1, 1) := by decide +kernel
theorem dX9_row_12 : decode cX9_row 12 = .ok (.invokestatic 83, 3) := by decide +kernel
theorem dX9_row_15 : decode cX9_row 15 = .ok (.ifCond .ne 6, 3) := by decide +kernel
theorem dX9_row_18 : decode cX9_row 18 = .ok (.bipush (-2), 2) := by decide +kernel
theorem dX9_row_20 : decode cX9_row 20 = .ok (.ireturn, 1) := by decide +kernel
theorem dX9_row_21 : decode cX9_row 21 = .ok (.aload_n 0, 1) := by decide +kernel
theorem dX9_row_22 : decode cX9_row 22 = .ok (.iload_n 1, 1) := by decide +kernel
theorem dX9_row_23 : decode cX9_row 23 = .ok (.invokevirtual 297, 3) := by decide +kernel
theorem dX9_row_26 : decode cX9_row 26 = .ok (.iconst 0, 1) := by decide +kernel
theorem dX9_row_27 : decode cX9_row 27 = .ok (.istore_n 3, 1) := by decide +kernel
theorem dX9_row_28 : decode cX9_row 28 = .ok (.iconst 0, 1) := by decide +kernel
theorem dX9_row_29 : decode cX9_row 29 = .ok (.istore 4, 2) := by decide +kernel
theorem dX9_row_31 : decode cX9_row 31 = .ok (.iconst 0, 1) := by decide +kernel
theorem dX9_row_32 : decode cX9_row 32 = .ok (.istore 5, 2) := by decide +kernel
theorem dX9_row_34 : decode cX9_row 34 = .ok (.iload 5, 2) := by decide +kernel
theorem dX9_row_36 : decode cX9_row 36 = .ok (.aload_n 0, 1) := by decide +kernel
theorem dX9_row_37 : decode cX9_row 37 = .ok (.getfield 248, 3) := by decide +kernel
theorem dX9_row_40 : decode cX9_row 40 = .ok (.if_icmp .ge 141, 3) := by decide +kernel
theorem dX9_row_43 : decode cX9_row 43 = .ok (.iload 5, 2) := by decide +kernel
theorem dX9_row_45 : decode cX9_row 45 = .ok (.ifCond .le 84, 3) := by decide +kernel
theorem dX9_row_48 : decode cX9_row 48 = .ok (.iload_n 2, 1) := by decide +kernel
theorem dX9_row_49 : decode cX9_row 49 = .ok (.ifCond .ne 26, 3) := by decide +kernel
theorem dX9_row_52 : decode cX9_row 52 = .ok (.aload_n 0, 1) := by decide +kernel
theorem dX9_row_53 : decode cX9_row 53 = .ok (.getfield 69, 3) := by decide +kernel
theorem dX9_row_56 : decode cX9_row 56 = .ok (.iload 5, 2) := by decide +kernel
theorem dX9_row_58 : decode cX9_row 58 = .ok (.laload, 1) := by decide +kernel
theorem dX9_row_59 : decode cX9_row 59 = .ok (.aload_n 0, 1) := by decide +kernel
theorem dX9_row_60 : decode cX9_row 60 = .ok (.getfield 69, 3) := by decide +kernel
theorem dX9_row_63 : decode cX9_row 63 = .ok (.iload 5, 2) := by decide +kernel
theorem dX9_row_65 : decode cX9_row 65 = .ok (.iconst 1, 1) := by decide +kernel
theorem dX9_row_66 : decode cX9_row 66 = .ok (.isub, 1) := by decide +kernel
theorem dX9_row_67 : decode cX9_row 67 = .ok (.laload, 1) := by decide +kernel
theorem dX9_row_68 : decode cX9_row 68 = .ok (.lcmp, 1) := by decide +kernel
theorem dX9_row_69 : decode cX9_row 69 = .ok (.ifCond .ne 60, 3) := by decide +kernel
theorem dX9_row_72 : decode cX9_row 72 = .ok (.goto 53, 3) := by decide +kernel
theorem dX9_row_75 : decode cX9_row 75 = .ok (.aload_n 0, 1) := by decide +kernel
theorem dX9_row_76 : decode cX9_row 76 = .ok (.getfield 69, 3) := by decide +kernel
theorem dX9_row_79 : decode cX9_row 79 = .ok (.iload 5, 2) := by decide +kernel
theorem dX9_row_81 : decode cX9_row 81 = .ok (.iconst 1, 1) := by decide +kernel
theorem dX9_row_82 : decode cX9_row 82 = .ok (.isub, 1) := by decide +kernel
theorem dX9_row_83 : decode cX9_row 83 = .ok (.laload, 1) := by decide +kernel
theorem dX9_row_84 : decode cX9_row 84 = .ok (.invokestatic 355, 3) := by decide +kernel
theorem dX9_row_87 : decode cX9_row 87 = .ok (.ifCond .eq 42, 3) := by decide +kernel
theorem dX9_row_90 : decode cX9_row 90 = .ok (.aload_n 0, 1) := by decide +kernel
theorem dX9_row_91 : decode cX9_row 91 = .ok (.getfield 69, 3) := by decide +kernel
theorem dX9_row_94 : decode cX9_row 94 = .ok (.iload 5, 2) := by decide +kernel
theorem dX9_row_96 : decode cX9_row 96 = .ok (.laload, 1) := by decide +kernel
theorem dX9_row_97 : decode cX9_row 97 = .ok (.invokestatic 355, 3) := by decide +kernel
theorem dX9_row_100 : decode cX9_row 100 = .ok (.ifCond .eq 29, 3) := by decide +kernel
theorem dX9_row_103 : decode cX9_row 103 = .ok (.aload_n 0, 1) := by decide +kernel
theorem dX9_row_104 : decode cX9_row 104 = .ok (.getfield 69, 3) := by decide +kernel
theorem dX9_row_107 : decode cX9_row 107 = .ok (.iload 5, 2) := by decide +kernel
theorem dX9_row_109 : decode cX9_row 109 = .ok (.iconst 1, 1) := by decide +kernel
theorem dX9_row_110 : decode cX9_row 110 = .ok (.isub, 1) := by decide +kernel
theorem dX9_row_111 : decode cX9_row 111 = .ok (.laload, 1) := by decide +kernel
theorem dX9_row_112 : decode cX9_row 112 = .ok (.aload_n 0, 1) := by decide +kernel
theorem dX9_row_113 : decode cX9_row 113 = .ok (.getfield 69, 3) := by decide +kernel
theorem dX9_row_116 : decode cX9_row 116 = .ok (.iload 5, 2) := by decide +kernel
theorem dX9_row_118 : decode cX9_row 118 = .ok (.laload, 1) := by decide +kernel
theorem dX9_row_119 : decode cX9_row 119 = .ok (.invokestatic 375, 3) := by decide +kernel
theorem dX9_row_122 : decode cX9_row 122 = .ok (.ifCond .eq 7, 3) := by decide +kernel
theorem dX9_row_125 : decode cX9_row 125 = .ok (.iconst 1, 1) := by decide +kernel
theorem dX9_row_126 : decode cX9_row 126 = .ok (.goto 4, 3) := by decide +kernel
theorem dX9_row_129 : decode cX9_row 129 = .ok (.iconst 0, 1) := by decide +kernel
theorem dX9_row_130 : decode cX9_row 130 = .ok (.istore 6, 2) := by decide +kernel
theorem dX9_row_132 : decode cX9_row 132 = .ok (.iload 6, 2) := by decide +kernel
theorem dX9_row_134 : decode cX9_row 134 = .ok (.ifCond .eq 10, 3) := by decide +kernel
theorem dX9_row_137 : decode cX9_row 137 = .ok (.iload 4, 2) := by decide +kernel
theorem dX9_row_139 : decode cX9_row 139 = .ok (.iconst 1, 1) := by decide +kernel
theorem dX9_row_140 : decode cX9_row 140 = .ok (.iadd, 1) := by decide +kernel
theorem dX9_row_141 : decode cX9_row 141 = .ok (.goto 25, 3) := by decide +kernel
theorem dX9_row_144 : decode cX9_row 144 = .ok (.iload_n 2, 1) := by decide +kernel
theorem dX9_row_145 : decode cX9_row 145 = .ok (.ifCond .eq 16, 3) := by decide +kernel
theorem dX9_row_148 : decode cX9_row 148 = .ok (.aload_n 0, 1) := by decide +kernel
theorem dX9_row_149 : decode cX9_row 149 = .ok (.getfield 69, 3) := by decide +kernel
theorem dX9_row_152 : decode cX9_row 152 = .ok (.iload 5, 2) := by decide +kernel
theorem dX9_row_154 : decode cX9_row 154 = .ok (.laload, 1) := by decide +kernel
theorem dX9_row_155 : decode cX9_row 155 = .ok (.invokestatic 355, 3) := by decide +kernel
theorem dX9_row_158 : decode cX9_row 158 = .ok (.ifCond .eq 7, 3) := by decide +kernel
theorem dX9_row_161 : decode cX9_row 161 = .ok (.iconst 1, 1) := by decide +kernel
theorem dX9_row_162 : decode cX9_row 162 = .ok (.goto 4, 3) := by decide +kernel
theorem dX9_row_165 : decode cX9_row 165 = .ok (.iconst 0, 1) := by decide +kernel
theorem dX9_row_166 : decode cX9_row 166 = .ok (.istore 4, 2) := by decide +kernel
theorem dX9_row_168 : decode cX9_row 168 = .ok (.iload_n 3, 1) := by decide +kernel
theorem dX9_row_169 : decode cX9_row 169 = .ok (.iload 4, 2) := by decide +kernel
theorem dX9_row_171 : decode cX9_row 171 = .ok (.invokestatic 288, 3) := by decide +kernel
theorem dX9_row_174 : decode cX9_row 174 = .ok (.istore_n 3, 1) := by decide +kernel
theorem dX9_row_175 : decode cX9_row 175 = .ok (.iinc 5 1, 3) := by decide +kernel
theorem dX9_row_178 : decode cX9_row 178 = .ok (.goto (-144), 3) := by decide +kernel
theorem dX9_row_181 : decode cX9_row 181 = .ok (.iload_n 3, 1) := by decide +kernel
theorem dX9_row_182 : decode cX9_row 182 = .ok (.ireturn, 1) := by decide +kernel
theorem dX9_gathersTwo_0 : decode cX9_gathersTwo 0 = .ok (.aload_n 0, 1) := by decide +kernel
theorem dX9_gathersTwo_1 : decode cX9_gathersTwo 1 = .ok (.iload_n 2, 1) := by decide +kernel
theorem dX9_gathersTwo_2 : decode cX9_gathersTwo 2 = .ok (.invokevirtual 297, 3) := by decide +kernel
theorem dX9_gathersTwo_5 : decode cX9_gathersTwo 5 = .ok (.aload_n 0, 1) := by decide +kernel
theorem dX9_gathersTwo_6 : decode cX9_gathersTwo 6 = .ok (.aload_n 0, 1) := by decide +kernel
theorem dX9_gathersTwo_7 : decode cX9_gathersTwo 7 = .ok (.getfield 248, 3) := by decide +kernel
theorem dX9_gathersTwo_10 : decode cX9_gathersTwo 10 = .ok (.putfield 382, 3) := by decide +kernel
theorem dX9_gathersTwo_13 : decode cX9_gathersTwo 13 = .ok (.iconst 0, 1) := by decide +kernel
theorem dX9_gathersTwo_14 : decode cX9_gathersTwo 14 = .ok (.istore_n 3, 1) := by decide +kernel
theorem dX9_gathersTwo_15 : decode cX9_gathersTwo 15 = .ok (.iload_n 3, 1) := by decide +kernel
theorem dX9_gathersTwo_16 : decode cX9_gathersTwo 16 = .ok (.aload_n 0, 1) := by decide +kernel
theorem dX9_gathersTwo_17 : decode cX9_gathersTwo 17 = .ok (.getfield 248, 3) := by decide +kernel
theorem dX9_gathersTwo_20 : decode cX9_gathersTwo 20 = .ok (.if_icmp .ge 33, 3) := by decide +kernel
theorem dX9_gathersTwo_23 : decode cX9_gathersTwo 23 = .ok (.aload_n 0, 1) := by decide +kernel
theorem dX9_gathersTwo_24 : decode cX9_gathersTwo 24 = .ok (.getfield 75, 3) := by decide +kernel
theorem dX9_gathersTwo_27 : decode cX9_gathersTwo 27 = .ok (.iload_n 3, 1) := by decide +kernel
theorem dX9_gathersTwo_28 : decode cX9_gathersTwo 28 = .ok (.aload_n 0, 1) := by decide +kernel
theorem dX9_gathersTwo_29 : decode cX9_gathersTwo 29 = .ok (.getfield 66, 3) := by decide +kernel
theorem dX9_gathersTwo_32 : decode cX9_gathersTwo 32 = .ok (.iload_n 3, 1) := by decide +kernel
theorem dX9_gathersTwo_33 : decode cX9_gathersTwo 33 = .ok (.laload, 1) := by decide +kernel
theorem dX9_gathersTwo_34 : decode cX9_gathersTwo 34 = .ok (.lastore, 1) := by decide +kernel
theorem dX9_gathersTwo_35 : decode cX9_gathersTwo 35 = .ok (.aload_n 0, 1) := by decide +kernel
theorem dX9_gathersTwo_36 : decode cX9_gathersTwo 36 = .ok (.getfield 78, 3) := by decide +kernel
theorem dX9_gathersTwo_39 : decode cX9_gathersTwo 39 = .ok (.iload_n 3, 1) := by decide +kernel
theorem dX9_gathersTwo_40 : decode cX9_gathersTwo 40 = .ok (.aload_n 0, 1) := by decide +kernel
theorem dX9_gathersTwo_41 : decode cX9_gathersTwo 41 = .ok (.getfield 69, 3) := by decide +kernel
theorem dX9_gathersTwo_44 : decode cX9_gathersTwo 44 = .ok (.iload_n 3, 1) := by decide +kernel
theorem dX9_gathersTwo_45 : decode cX9_gathersTwo 45 = .ok (.laload, 1) := by decide +kernel
theorem dX9_gathersTwo_46 : decode cX9_gathersTwo 46 = .ok (.lastore, 1) := by decide +kernel
theorem dX9_gathersTwo_47 : decode cX9_gathersTwo 47 = .ok (.iinc 3 1, 3) := by decide +kernel
theorem dX9_gathersTwo_50 : decode cX9_gathersTwo 50 = .ok (.goto (-35), 3) := by decide +kernel
theorem dX9_gathersTwo_53 : decode cX9_gathersTwo 53 = .ok (.aload_n 0, 1) := by decide +kernel
theorem dX9_gathersTwo_54 : decode cX9_gathersTwo 54 = .ok (.iload_n 1, 1) := by decide +kernel
theorem dX9_gathersTwo_55 : decode cX9_gathersTwo 55 = .ok (.invokevirtual 297, 3) := by decide +kernel
theorem dX9_gathersTwo_58 : decode cX9_gathersTwo 58 = .ok (.return_, 1) := by decide +kernel
theorem dX9_areTwo_0 : decode cX9_areTwo 0 = .ok (.aload_n 0, 1) := by decide +kernel
theorem dX9_areTwo_1 : decode cX9_areTwo 1 = .ok (.iload_n 1, 1) := by decide +kernel
theorem dX9_areTwo_2 : decode cX9_areTwo 2 = .ok (.invokevirtual 87, 3) := by decide +kernel
theorem dX9_areTwo_5 : decode cX9_areTwo 5 = .ok (.ifCond .eq 15, 3) := by decide +kernel
theorem dX9_areTwo_8 : decode cX9_areTwo 8 = .ok (.aload_n 0, 1) := by decide +kernel
theorem dX9_areTwo_9 : decode cX9_areTwo 9 = .ok (.iload_n 2, 1) := by decide +kernel
theorem dX9_areTwo_10 : decode cX9_areTwo 10 = .ok (.invokevirtual 87, 3) := by decide +kernel
theorem dX9_areTwo_13 : decode cX9_areTwo 13 = .ok (.ifCond .eq 7, 3) := by decide +kernel
theorem dX9_areTwo_16 : decode cX9_areTwo 16 = .ok (.iconst 1, 1) := by decide +kernel
theorem dX9_areTwo_17 : decode cX9_areTwo 17 = .ok (.goto 4, 3) := by decide +kernel
theorem dX9_areTwo_20 : decode cX9_areTwo 20 = .ok (.iconst 0, 1) := by decide +kernel
theorem dX9_areTwo_21 : decode cX9_areTwo 21 = .ok (.ireturn, 1) := by decide +kernel
theorem dX9_both_0 : decode cX9_both 0 = .ok (.aload_n 0, 1) := by decide +kernel
theorem dX9_both_1 : decode cX9_both 1 = .ok (.iload_n 1, 1) := by decide +kernel
theorem dX9_both_2 : decode cX9_both 2 = .ok (.iload_n 2, 1) := by decide +kernel
theorem dX9_both_3 : decode cX9_both 3 = .ok (.invokevirtual 385, 3) := by decide +kernel
theorem dX9_both_6 : decode cX9_both 6 = .ok (.ifCond .eq 13, 3) := by decide +kernel
theorem dX9_both_9 : decode cX9_both 9 = .ok (.iload_n 3, 1) := by decide +kernel
theorem dX9_both_10 : decode cX9_both 10 = .ok (.i2l, 1) := by decide +kernel
theorem dX9_both_11 : decode cX9_both 11 = .ok (.lconst 0, 1) := by decide +kernel
theorem dX9_both_12 : decode cX9_both 12 = .ok (.lconst 1, 1) := by decide +kernel
theorem dX9_both_13 : decode cX9_both 13 = .ok (.invokestatic 83, 3) := by decide +kernel
theorem dX9_both_16 : decode cX9_both 16 = .ok (.ifCond .ne 6, 3) := by decide +kernel
theorem dX9_both_19 : decode cX9_both 19 = .ok (.bipush (-2), 2) := by decide +kernel
theorem dX9_both_21 : decode cX9_both 21 = .ok (.ireturn, 1) := by decide +kernel
theorem dX9_both_22 : decode cX9_both 22 = .ok (.aload_n 0, 1) := by decide +kernel
theorem dX9_both_23 : decode cX9_both 23 = .ok (.iload_n 1, 1) := by decide +kernel
theorem dX9_both_24 : decode cX9_both 24 = .ok (.iload_n 2, 1) := by decide +kernel
theorem dX9_both_25 : decode cX9_both 25 = .ok (.invokevirtual 388, 3) := by decide +kernel
theorem dX9_both_28 : decode cX9_both 28 = .ok (.iconst 0, 1) := by decide +kernel
theorem dX9_both_29 : decode cX9_both 29 = .ok (.istore 4, 2) := by decide +kernel
theorem dX9_both_31 : decode cX9_both 31 = .ok (.iconst 0, 1) := by decide +kernel
theorem dX9_both_32 : decode cX9_both 32 = .ok (.istore 5, 2) := by decide +kernel
theorem dX9_both_34 : decode cX9_both 34 = .ok (.iload 5, 2) := by decide +kernel
theorem dX9_both_36 : decode cX9_both 36 = .ok (.aload_n 0, 1) := by decide +kernel
theorem dX9_both_37 : decode cX9_both 37 = .ok (.getfield 382, 3) := by decide +kernel
theorem dX9_both_40 : decode cX9_both 40 = .ok (.if_icmp .ge 61, 3) := by decide +kernel
theorem dX9_both_43 : decode cX9_both 43 = .ok (.aload_n 0, 1) := by decide +kernel
theorem dX9_both_44 : decode cX9_both 44 = .ok (.aload_n 0, 1) := by decide +kernel
theorem dX9_both_45 : decode cX9_both 45 = .ok (.getfield 75, 3) := by decide +kernel
theorem dX9_both_48 : decode cX9_both 48 = .ok (.iload 5, 2) := by decide +kernel
theorem dX9_both_50 : decode cX9_both 50 = .ok (.laload, 1) := by decide +kernel
theorem dX9_both_51 : decode cX9_both 51 = .ok (.l2i, 1) := by decide +kernel
theorem dX9_both_52 : decode cX9_both 52 = .ok (.invokevirtual 328, 3) := by decide +kernel
theorem dX9_both_55 : decode cX9_both 55 = .ok (.istore 6, 2) := by decide +kernel
theorem dX9_both_57 : decode cX9_both 57 = .ok (.iload 4, 2) := by decide +kernel
theorem dX9_both_59 : decode cX9_both 59 = .ok (.iload 6, 2) := by decide +kernel
theorem dX9_both_61 : decode cX9_both 61 = .ok (.iconst (-1), 1) := by decide +kernel
theorem dX9_both_62 : decode cX9_both 62 = .ok (.if_icmp .eq 29, 3) := by decide +kernel
theorem dX9_both_65 : decode cX9_both 65 = .ok (.iload_n 3, 1) := by decide +kernel
theorem dX9_both_66 : decode cX9_both 66 = .ok (.ifCond .eq 21, 3) := by decide +kernel
theorem dX9_both_69 : decode cX9_both 69 = .ok (.aload_n 0, 1) := by decide +kernel
theorem dX9_both_70 : decode cX9_both 70 = .ok (.getfield 69, 3) := by decide +kernel
theorem dX9_both_73 : decode cX9_both 73 = .ok (.iload 6, 2) := by decide +kernel
theorem dX9_both_75 : decode cX9_both 75 = .ok (.laload, 1) := by decide +kernel
theorem dX9_both_76 : decode cX9_both 76 = .ok (.aload_n 0, 1) := by decide +kernel
theorem dX9_both_77 : decode cX9_both 77 = .ok (.getfield 78, 3) := by decide +kernel
theorem dX9_both_80 : decode cX9_both 80 = .ok (.iload 5, 2) := by decide +kernel
theorem dX9_both_82 : decode cX9_both 82 = .ok (.laload, 1) := by decide +kernel
theorem dX9_both_83 : decode cX9_both 83 = .ok (.lcmp, 1) := by decide +kernel
theorem dX9_both_84 : decode cX9_both 84 = .ok (.ifCond .ne 7, 3) := by decide +kernel
theorem dX9_both_87 : decode cX9_both 87 = .ok (.iconst 1, 1) := by decide +kernel
theorem dX9_both_88 : decode cX9_both 88 = .ok (.goto 4, 3) := by decide +kernel
theorem dX9_both_91 : decode cX9_both 91 = .ok (.iconst 0, 1) := by decide +kernel
theorem dX9_both_92 : decode cX9_both 92 = .ok (.iadd, 1) := by decide +kernel
theorem dX9_both_93 : decode cX9_both 93 = .ok (.istore 4, 2) := by decide +kernel
theorem dX9_both_95 : decode cX9_both 95 = .ok (.iinc 5 1, 3) := by decide +kernel
theorem dX9_both_98 : decode cX9_both 98 = .ok (.goto (-64), 3) := by decide +kernel
theorem dX9_both_101 : decode cX9_both 101 = .ok (.iload 4, 2) := by decide +kernel
theorem dX9_both_103 : decode cX9_both 103 = .ok (.ireturn, 1) := by decide +kernel
theorem dX9_differ_0 : decode cX9_differ 0 = .ok (.aload_n 0, 1) := by decide +kernel
theorem dX9_differ_1 : decode cX9_differ 1 = .ok (.iload_n 1, 1) := by decide +kernel
theorem dX9_differ_2 : decode cX9_differ 2 = .ok (.iload_n 2, 1) := by decide +kernel
theorem dX9_differ_3 : decode cX9_differ 3 = .ok (.invokevirtual 385, 3) := by decide +kernel
theorem dX9_differ_6 : decode cX9_differ 6 = .ok (.ifCond .ne 6, 3) := by decide +kernel
theorem dX9_differ_9 : decode cX9_differ 9 = .ok (.bipush (-2), 2) := by decide +kernel
theorem dX9_differ_11 : decode cX9_differ 11 = .ok (.ireturn, 1) := by decide +kernel
theorem dX9_differ_12 : decode cX9_differ 12 = .ok (.aload_n 0, 1) := by decide +kernel
theorem dX9_differ_13 : decode cX9_differ 13 = .ok (.iload_n 1, 1) := by decide +kernel
theorem dX9_differ_14 : decode cX9_differ 14 = .ok (.iload_n 2, 1) := by decide +kernel
theorem dX9_differ_15 : decode cX9_differ 15 = .ok (.invokevirtual 388, 3) := by decide +kernel
theorem dX9_differ_18 : decode cX9_differ 18 = .ok (.iconst 0, 1) := by decide +kernel
theorem dX9_differ_19 : decode cX9_differ 19 = .ok (.istore_n 3, 1) := by decide +kernel
theorem dX9_differ_20 : decode cX9_differ 20 = .ok (.iload_n 3, 1) := by decide +kernel
theorem dX9_differ_21 : decode cX9_differ 21 = .ok (.aload_n 0, 1) := by decide +kernel
theorem dX9_differ_22 : decode cX9_differ 22 = .ok (.getfield 248, 3) := by decide +kernel
theorem dX9_differ_25 : decode cX9_differ 25 = .ok (.if_icmp .ge 49, 3) := by decide +kernel
theorem dX9_differ_28 : decode cX9_differ 28 = .ok (.iload_n 3, 1) := by decide +kernel
theorem dX9_differ_29 : decode cX9_differ 29 = .ok (.aload_n 0, 1) := by decide +kernel
theorem dX9_differ_30 : decode cX9_differ 30 = .ok (.getfield 382, 3) := by decide +kernel
theorem dX9_differ_33 : decode cX9_differ 33 = .ok (.if_icmp .ge 41, 3) := by decide +kernel
theorem dX9_differ_36 : decode cX9_differ 36 = .ok (.aload_n 0, 1) := by decide +kernel
theorem dX9_differ_37 : decode cX9_differ 37 = .ok (.getfield 66, 3) := by decide +kernel
theorem dX9_differ_40 : decode cX9_differ 40 = .ok (.iload_n 3, 1) := by decide +kernel
theorem dX9_differ_41 : decode cX9_differ 41 = .ok (.laload, 1) := by decide +kernel
theorem dX9_differ_42 : decode cX9_differ 42 = .ok (.aload_n 0, 1) := by decide +kernel
theorem dX9_differ_43 : decode cX9_differ 43 = .ok (.getfield 75, 3) := by decide +kernel
theorem dX9_differ_46 : decode cX9_differ 46 = .ok (.iload_n 3, 1) := by decide +kernel
theorem dX9_differ_47 : decode cX9_differ 47 = .ok (.laload, 1) := by decide +kernel
theorem dX9_differ_48 : decode cX9_differ 48 = .ok (.lcmp, 1) := by decide +kernel
theorem dX9_differ_49 : decode cX9_differ 49 = .ok (.ifCond .ne 25, 3) := by decide +kernel
theorem dX9_differ_52 : decode cX9_differ 52 = .ok (.aload_n 0, 1) := by decide +kernel
theorem dX9_differ_53 : decode cX9_differ 53 = .ok (.getfield 69, 3) := by decide +kernel
theorem dX9_differ_56 : decode cX9_differ 56 = .ok (.iload_n 3, 1) := by decide +kernel
theorem dX9_differ_57 : decode cX9_differ 57 = .ok (.laload, 1) := by decide +kernel
theorem dX9_differ_58 : decode cX9_differ 58 = .ok (.aload_n 0, 1) := by decide +kernel
theorem dX9_differ_59 : decode cX9_differ 59 = .ok (.getfield 78, 3) := by decide +kernel
theorem dX9_differ_62 : decode cX9_differ 62 = .ok (.iload_n 3, 1) := by decide +kernel
theorem dX9_differ_63 : decode cX9_differ 63 = .ok (.laload, 1) := by decide +kernel
theorem dX9_differ_64 : decode cX9_differ 64 = .ok (.lcmp, 1) := by decide +kernel
theorem dX9_differ_65 : decode cX9_differ 65 = .ok (.ifCond .ne 9, 3) := by decide +kernel
theorem dX9_differ_68 : decode cX9_differ 68 = .ok (.iinc 3 1, 3) := by decide +kernel
theorem dX9_differ_71 : decode cX9_differ 71 = .ok (.goto (-51), 3) := by decide +kernel
theorem dX9_differ_74 : decode cX9_differ 74 = .ok (.iload_n 3, 1) := by decide +kernel
theorem dX9_differ_75 : decode cX9_differ 75 = .ok (.aload_n 0, 1) := by decide +kernel
theorem dX9_differ_76 : decode cX9_differ 76 = .ok (.getfield 248, 3) := by decide +kernel
theorem dX9_differ_79 : decode cX9_differ 79 = .ok (.if_icmp .eq 11, 3) := by decide +kernel
theorem dX9_differ_82 : decode cX9_differ 82 = .ok (.iload_n 3, 1) := by decide +kernel
theorem dX9_differ_83 : decode cX9_differ 83 = .ok (.aload_n 0, 1) := by decide +kernel
theorem dX9_differ_84 : decode cX9_differ 84 = .ok (.getfield 382, 3) := by decide +kernel
theorem dX9_differ_87 : decode cX9_differ 87 = .ok (.if_icmp .ne 41, 3) := by decide +kernel
theorem dX9_differ_90 : decode cX9_differ 90 = .ok (.iload_n 3, 1) := by decide +kernel
theorem dX9_differ_91 : decode cX9_differ 91 = .ok (.aload_n 0, 1) := by decide +kernel
theorem dX9_differ_92 : decode cX9_differ 92 = .ok (.getfield 248, 3) := by decide +kernel
theorem dX9_differ_95 : decode cX9_differ 95 = .ok (.if_icmp .ge 13, 3) := by decide +kernel
theorem dX9_differ_98 : decode cX9_differ 98 = .ok (.aload_n 0, 1) := by decide +kernel
theorem dX9_differ_99 : decode cX9_differ 99 = .ok (.getfield 66, 3) := by decide +kernel
theorem dX9_differ_102 : decode cX9_differ 102 = .ok (.iload_n 3, 1) := by decide +kernel
theorem dX9_differ_103 : decode cX9_differ 103 = .ok (.laload, 1) := by decide +kernel
theorem dX9_differ_104 : decode cX9_differ 104 = .ok (.l2i, 1) := by decide +kernel
theorem dX9_differ_105 : decode cX9_differ 105 = .ok (.goto 22, 3) := by decide +kernel
theorem dX9_differ_108 : decode cX9_differ 108 = .ok (.iload_n 3, 1) := by decide +kernel
theorem dX9_differ_109 : decode cX9_differ 109 = .ok (.aload_n 0, 1) := by decide +kernel
theorem dX9_differ_110 : decode cX9_differ 110 = .ok (.getfield 382, 3) := by decide +kernel
theorem dX9_differ_113 : decode cX9_differ 113 = .ok (.if_icmp .ge 13, 3) := by decide +kernel
theorem dX9_differ_116 : decode cX9_differ 116 = .ok (.aload_n 0, 1) := by decide +kernel
theorem dX9_differ_117 : decode cX9_differ 117 = .ok (.getfield 75, 3) := by decide +kernel
theorem dX9_differ_120 : decode cX9_differ 120 = .ok (.iload_n 3, 1) := by decide +kernel
theorem dX9_differ_121 : decode cX9_differ 121 = .ok (.laload, 1) := by decide +kernel
theorem dX9_differ_122 : decode cX9_differ 122 = .ok (.l2i, 1) := by decide +kernel
theorem dX9_differ_123 : decode cX9_differ 123 = .ok (.goto 4, 3) := by decide +kernel
theorem dX9_differ_126 : decode cX9_differ 126 = .ok (.iconst (-1), 1) := by decide +kernel
theorem dX9_differ_127 : decode cX9_differ 127 = .ok (.ireturn, 1) := by decide +kernel
theorem dX9_differ_128 : decode cX9_differ 128 = .ok (.aload_n 0, 1) := by decide +kernel
theorem dX9_differ_129 : decode cX9_differ 129 = .ok (.getfield 66, 3) := by decide +kernel
theorem dX9_differ_132 : decode cX9_differ 132 = .ok (.iload_n 3, 1) := by decide +kernel
theorem dX9_differ_133 : decode cX9_differ 133 = .ok (.laload, 1) := by decide +kernel
theorem dX9_differ_134 : decode cX9_differ 134 = .ok (.aload_n 0, 1) := by decide +kernel
theorem dX9_differ_135 : decode cX9_differ 135 = .ok (.getfield 75, 3) := by decide +kernel
theorem dX9_differ_138 : decode cX9_differ 138 = .ok (.iload_n 3, 1) := by decide +kernel
theorem dX9_differ_139 : decode cX9_differ 139 = .ok (.laload, 1) := by decide +kernel
theorem dX9_differ_140 : decode cX9_differ 140 = .ok (.invokestatic 391, 3) := by decide +kernel
theorem dX9_differ_143 : decode cX9_differ 143 = .ok (.l2i, 1) := by decide +kernel
theorem dX9_differ_144 : decode cX9_differ 144 = .ok (.ireturn, 1) := by decide +kernel
theorem dX9_join_0 : decode cX9_join 0 = .ok (.aload_n 0, 1) := by decide +kernel
theorem dX9_join_1 : decode cX9_join 1 = .ok (.iload_n 1, 1) := by decide +kernel
theorem dX9_join_2 : decode cX9_join 2 = .ok (.iload_n 2, 1) := by decide +kernel
theorem dX9_join_3 : decode cX9_join 3 = .ok (.invokevirtual 385, 3) := by decide +kernel
theorem dX9_join_6 : decode cX9_join 6 = .ok (.ifCond .eq 15, 3) := by decide +kernel
theorem dX9_join_9 : decode cX9_join 9 = .ok (.iload_n 3, 1) := by decide +kernel
theorem dX9_join_10 : decode cX9_join 10 = .ok (.i2l, 1) := by decide +kernel
theorem dX9_join_11 : decode cX9_join 11 = .ok (.lconst 0, 1) := by decide +kernel
theorem dX9_join_12 : decode cX9_join 12 = .ok (.ldc2_w 81, 3) := by decide +kernel
theorem dX9_join_15 : decode cX9_join 15 = .ok (.invokestatic 83, 3) := by decide +kernel
theorem dX9_join_18 : decode cX9_join 18 = .ok (.ifCond .ne 6, 3) := by decide +kernel
theorem dX9_join_21 : decode cX9_join 21 = .ok (.bipush (-2), 2) := by decide +kernel
theorem dX9_join_23 : decode cX9_join 23 = .ok (.ireturn, 1) := by decide +kernel
theorem dX9_join_24 : decode cX9_join 24 = .ok (.aload_n 0, 1) := by decide +kernel
theorem dX9_join_25 : decode cX9_join 25 = .ok (.iload_n 1, 1) := by decide +kernel
theorem dX9_join_26 : decode cX9_join 26 = .ok (.invokevirtual 294, 3) := by decide +kernel
theorem dX9_join_29 : decode cX9_join 29 = .ok (.ifCond .ne 11, 3) := by decide +kernel
theorem dX9_join_32 : decode cX9_join 32 = .ok (.aload_n 0, 1) := by decide +kernel
theorem dX9_join_33 : decode cX9_join 33 = .ok (.iload_n 2, 1) := by decide +kernel
theorem dX9_join_34 : decode cX9_join 34 = .ok (.invokevirtual 294, 3) := by decide +kernel
theorem dX9_join_37 : decode cX9_join 37 = .ok (.ifCond .eq 6, 3) := by decide +kernel
theorem dX9_join_40 : decode cX9_join 40 = .ok (.bipush (-6), 2) := by decide +kernel
theorem dX9_join_42 : decode cX9_join 42 = .ok (.ireturn, 1) := by decide +kernel
theorem dX9_join_43 : decode cX9_join 43 = .ok (.aload_n 0, 1) := by decide +kernel
theorem dX9_join_44 : decode cX9_join 44 = .ok (.iload_n 1, 1) := by decide +kernel
theorem dX9_join_45 : decode cX9_join 45 = .ok (.iload_n 2, 1) := by decide +kernel
theorem dX9_join_46 : decode cX9_join 46 = .ok (.invokevirtual 388, 3) := by decide +kernel
theorem dX9_join_49 : decode cX9_join 49 = .ok (.aload_n 0, 1) := by decide +kernel
theorem dX9_join_50 : decode cX9_join 50 = .ok (.getfield 248, 3) := by decide +kernel
theorem dX9_join_53 : decode cX9_join 53 = .ok (.istore 4, 2) := by decide +kernel
theorem dX9_join_55 : decode cX9_join 55 = .ok (.iload 4, 2) := by decide +kernel
theorem dX9_join_57 : decode cX9_join 57 = .ok (.istore 5, 2) := by decide +kernel
theorem dX9_join_59 : decode cX9_join 59 = .ok (.iconst 0, 1) := by decide +kernel
theorem dX9_join_60 : decode cX9_join 60 = .ok (.istore 6, 2) := by decide +kernel
theorem dX9_join_62 : decode cX9_join 62 = .ok (.iload 6, 2) := by decide +kernel
theorem dX9_join_64 : decode cX9_join 64 = .ok (.aload_n 0, 1) := by decide +kernel
theorem dX9_join_65 : decode cX9_join 65 = .ok (.getfield 382, 3) := by decide +kernel
theorem dX9_join_68 : decode cX9_join 68 = .ok (.if_icmp .ge 35, 3) := by decide +kernel
theorem dX9_join_71 : decode cX9_join 71 = .ok (.iload 5, 2) := by decide +kernel
theorem dX9_join_73 : decode cX9_join 73 = .ok (.aload_n 0, 1) := by decide +kernel
theorem dX9_join_74 : decode cX9_join 74 = .ok (.aload_n 0, 1) := by decide +kernel
theorem dX9_join_75 : decode cX9_join 75 = .ok (.getfield 75, 3) := by decide +kernel
theorem dX9_join_78 : decode cX9_join 78 = .ok (.iload 6, 2) := by decide +kernel
theorem dX9_join_80 : decode cX9_join 80 = .ok (.laload, 1) := by decide +kernel
theorem dX9_join_81 : decode cX9_join 81 = .ok (.l2i, 1) := by decide +kernel
theorem dX9_join_82 : decode cX9_join 82 = .ok (.invokevirtual 328, 3) := by decide +kernel
theorem dX9_join_85 : decode cX9_join 85 = .ok (.iconst (-1), 1) := by decide +kernel
theorem dX9_join_86 : decode cX9_join 86 = .ok (.if_icmp .ne 7, 3) := by decide +kernel
theorem dX9_join_89 : decode cX9_join 89 = .ok (.iconst 1, 1) := by decide +kernel
theorem dX9_join_90 : decode cX9_join 90 = .ok (.goto 4, 3) := by decide +kernel
theorem dX9_join_93 : decode cX9_join 93 = .ok (.iconst 0, 1) := by decide +kernel
theorem dX9_join_94 : decode cX9_join 94 = .ok (.iadd, 1) := by decide +kernel
theorem dX9_join_95 : decode cX9_join 95 = .ok (.istore 5, 2) := by decide +kernel
theorem dX9_join_97 : decode cX9_join 97 = .ok (.iinc 6 1, 3) := by decide +kernel
theorem dX9_join_100 : decode cX9_join 100 = .ok (.goto (-38), 3) := by decide +kernel
theorem dX9_join_103 : decode cX9_join 103 = .ok (.iload 5, 2) := by decide +kernel
theorem dX9_join_105 : decode cX9_join 105 = .ok (.sipush 12000, 3) := by decide +kernel
theorem dX9_join_108 : decode cX9_join 108 = .ok (.if_icmp .le 6, 3) := by decide +kernel
theorem dX9_join_111 : decode cX9_join 111 = .ok (.bipush (-4), 2) := by decide +kernel
theorem dX9_join_113 : decode cX9_join 113 = .ok (.ireturn, 1) := by decide +kernel
theorem dX9_join_114 : decode cX9_join 114 = .ok (.iload 5, 2) := by decide +kernel
theorem dX9_join_116 : decode cX9_join 116 = .ok (.istore 6, 2) := by decide +kernel
theorem dX9_join_118 : decode cX9_join 118 = .ok (.aload_n 0, 1) := by decide +kernel
theorem dX9_join_119 : decode cX9_join 119 = .ok (.getfield 382, 3) := by decide +kernel
theorem dX9_join_122 : decode cX9_join 122 = .ok (.istore 7, 2) := by decide +kernel
theorem dX9_join_124 : decode cX9_join 124 = .ok (.iload 7, 2) := by decide +kernel
theorem dX9_join_126 : decode cX9_join 126 = .ok (.ifCond .le 136, 3) := by decide +kernel
theorem dX9_join_129 : decode cX9_join 129 = .ok (.iload 4, 2) := by decide +kernel
theorem dX9_join_131 : decode cX9_join 131 = .ok (.ifCond .le 94, 3) := by decide +kernel
theorem dX9_join_134 : decode cX9_join 134 = .ok (.aload_n 0, 1) := by decide +kernel
theorem dX9_join_135 : decode cX9_join 135 = .ok (.getfield 66, 3) := by decide +kernel
theorem dX9_join_138 : decode cX9_join 138 = .ok (.iload 4, 2) := by decide +kernel
theorem dX9_join_140 : decode cX9_join 140 = .ok (.iconst 1, 1) := by decide +kernel
theorem dX9_join_141 : decode cX9_join 141 = .ok (.isub, 1) := by decide +kernel
theorem dX9_join_142 : decode cX9_join 142 = .ok (.laload, 1) := by decide +kernel
theorem dX9_join_143 : decode cX9_join 143 = .ok (.aload_n 0, 1) := by decide +kernel
theorem dX9_join_144 : decode cX9_join 144 = .ok (.getfield 75, 3) := by decide +kernel
theorem dX9_join_147 : decode cX9_join 147 = .ok (.iload 7, 2) := by decide +kernel
theorem dX9_join_149 : decode cX9_join 149 = .ok (.iconst 1, 1) := by decide +kernel
theorem dX9_join_150 : decode cX9_join 150 = .ok (.isub, 1) := by decide +kernel
theorem dX9_join_151 : decode cX9_join 151 = .ok (.laload, 1) := by decide +kernel
theorem dX9_join_152 : decode cX9_join 152 = .ok (.lcmp, 1) := by decide +kernel
theorem dX9_join_153 : decode cX9_join 153 = .ok (.ifCond .lt 72, 3) := by decide +kernel
theorem dX9_join_156 : decode cX9_join 156 = .ok (.iload 7, 2) := by decide +kernel
theorem dX9_join_158 : decode cX9_join 158 = .ok (.aload_n 0, 1) := by decide +kernel
theorem dX9_join_159 : decode cX9_join 159 = .ok (.getfield 66, 3) := by decide +kernel
theorem dX9_join_162 : decode cX9_join 162 = .ok (.iload 4, 2) := by decide +kernel
theorem dX9_join_164 : decode cX9_join 164 = .ok (.iconst 1, 1) := by decide +kernel
theorem dX9_join_165 : decode cX9_join 165 = .ok (.isub, 1) := by decide +kernel
theorem dX9_join_166 : decode cX9_join 166 = .ok (.laload, 1) := by decide +kernel
theorem dX9_join_167 : decode cX9_join 167 = .ok (.aload_n 0, 1) := by decide +kernel
theorem dX9_join_168 : decode cX9_join 168 = .ok (.getfield 75, 3) := by decide +kernel
theorem dX9_join_171 : decode cX9_join 171 = .ok (.iload 7, 2) := by decide +kernel
theorem dX9_join_173 : decode cX9_join 173 = .ok (.iconst 1, 1) := by decide +kernel
theorem dX9_join_174 : decode cX9_join 174 = .ok (.isub, 1) := by decide +kernel
theorem dX9_join_175 : decode cX9_join 175 = .ok (.laload, 1) := by decide +kernel
theorem dX9_join_176 : decode cX9_join 176 = .ok (.lcmp, 1) := by decide +kernel
theorem dX9_join_177 : decode cX9_join 177 = .ok (.ifCond .ne 7, 3) := by decide +kernel
theorem dX9_join_180 : decode cX9_join 180 = .ok (.iconst 1, 1) := by decide +kernel
theorem dX9_join_181 : decode cX9_join 181 = .ok (.goto 4, 3) := by decide +kernel
theorem dX9_join_184 : decode cX9_join 184 = .ok (.iconst 0, 1) := by decide +kernel
theorem dX9_join_185 : decode cX9_join 185 = .ok (.isub, 1) := by decide +kernel
theorem dX9_join_186 : decode cX9_join 186 = .ok (.istore 7, 2) := by decide +kernel
theorem dX9_join_188 : decode cX9_join 188 = .ok (.iinc 4 (-1), 3) := by decide +kernel
theorem dX9_join_191 : decode cX9_join 191 = .ok (.iinc 6 (-1), 3) := by decide +kernel
theorem dX9_join_194 : decode cX9_join 194 = .ok (.aload_n 0, 1) := by decide +kernel
theorem dX9_join_195 : decode cX9_join 195 = .ok (.getfield 66, 3) := by decide +kernel
theorem dX9_join_198 : decode cX9_join 198 = .ok (.iload 6, 2) := by decide +kernel
theorem dX9_join_200 : decode cX9_join 200 = .ok (.aload_n 0, 1) := by decide +kernel
theorem dX9_join_201 : decode cX9_join 201 = .ok (.getfield 66, 3) := by decide +kernel
theorem dX9_join_204 : decode cX9_join 204 = .ok (.iload 4, 2) := by decide +kernel
theorem dX9_join_206 : decode cX9_join 206 = .ok (.laload, 1) := by decide +kernel
theorem dX9_join_207 : decode cX9_join 207 = .ok (.lastore, 1) := by decide +kernel
theorem dX9_join_208 : decode cX9_join 208 = .ok (.aload_n 0, 1) := by decide +kernel
theorem dX9_join_209 : decode cX9_join 209 = .ok (.getfield 69, 3) := by decide +kernel
theorem dX9_join_212 : decode cX9_join 212 = .ok (.iload 6, 2) := by decide +kernel
theorem dX9_join_214 : decode cX9_join 214 = .ok (.aload_n 0, 1) := by decide +kernel
theorem dX9_join_215 : decode cX9_join 215 = .ok (.getfield 69, 3) := by decide +kernel
theorem dX9_join_218 : decode cX9_join 218 = .ok (.iload 4, 2) := by decide +kernel
theorem dX9_join_220 : decode cX9_join 220 = .ok (.laload, 1) := by decide +kernel
theorem dX9_join_221 : decode cX9_join 221 = .ok (.lastore, 1) := by decide +kernel
theorem dX9_join_222 : decode cX9_join 222 = .ok (.goto (-98), 3) := by decide +kernel
theorem dX9_join_225 : decode cX9_join 225 = .ok (.iinc 7 (-1), 3) := by decide +kernel
theorem dX9_join_228 : decode cX9_join 228 = .ok (.iinc 6 (-1), 3) := by decide +kernel
theorem dX9_join_231 : decode cX9_join 231 = .ok (.aload_n 0, 1) := by decide +kernel
theorem dX9_join_232 : decode cX9_join 232 = .ok (.getfield 66, 3) := by decide +kernel
theorem dX9_join_235 : decode cX9_join 235 = .ok (.iload 6, 2) := by decide +kernel
theorem dX9_join_237 : decode cX9_join 237 = .ok (.aload_n 0, 1) := by decide +kernel
theorem dX9_join_238 : decode cX9_join 238 = .ok (.getfield 75, 3) := by decide +kernel
theorem dX9_join_241 : decode cX9_join 241 = .ok (.iload 7, 2) := by decide +kernel
theorem dX9_join_243 : decode cX9_join 243 = .ok (.laload, 1) := by decide +kernel
theorem dX9_join_244 : decode cX9_join 244 = .ok (.lastore, 1) := by decide +kernel
theorem dX9_join_245 : decode cX9_join 245 = .ok (.aload_n 0, 1) := by decide +kernel
theorem dX9_join_246 : decode cX9_join 246 = .ok (.getfield 69, 3) := by decide +kernel
theorem dX9_join_249 : decode cX9_join 249 = .ok (.iload 6, 2) := by decide +kernel
theorem dX9_join_251 : decode cX9_join 251 = .ok (.aload_n 0, 1) := by decide +kernel
theorem dX9_join_252 : decode cX9_join 252 = .ok (.getfield 78, 3) := by decide +kernel
theorem dX9_join_255 : decode cX9_join 255 = .ok (.iload 7, 2) := by decide +kernel
theorem dX9_join_257 : decode cX9_join 257 = .ok (.laload, 1) := by decide +kernel
theorem dX9_join_258 : decode cX9_join 258 = .ok (.lastore, 1) := by decide +kernel
theorem dX9_join_259 : decode cX9_join 259 = .ok (.goto (-135), 3) := by decide +kernel
theorem dX9_join_262 : decode cX9_join 262 = .ok (.aload_n 0, 1) := by decide +kernel
theorem dX9_join_263 : decode cX9_join 263 = .ok (.iload 5, 2) := by decide +kernel
theorem dX9_join_265 : decode cX9_join 265 = .ok (.putfield 248, 3) := by decide +kernel
theorem dX9_join_268 : decode cX9_join 268 = .ok (.aload_n 0, 1) := by decide +kernel
theorem dX9_join_269 : decode cX9_join 269 = .ok (.iload_n 3, 1) := by decide +kernel
theorem dX9_join_270 : decode cX9_join 270 = .ok (.aload_n 0, 1) := by decide +kernel
theorem dX9_join_271 : decode cX9_join 271 = .ok (.getfield 7, 3) := by decide +kernel
theorem dX9_join_274 : decode cX9_join 274 = .ok (.iload_n 1, 1) := by decide +kernel
theorem dX9_join_275 : decode cX9_join 275 = .ok (.iaload, 1) := by decide +kernel
theorem dX9_join_276 : decode cX9_join 276 = .ok (.invokevirtual 300, 3) := by decide +kernel
theorem dX9_join_279 : decode cX9_join 279 = .ok (.ireturn, 1) := by decide +kernel
theorem dX9_copy_0 : decode cX9_copy 0 = .ok (.aload_n 0, 1) := by decide +kernel
theorem dX9_copy_1 : decode cX9_copy 1 = .ok (.iload_n 1, 1) := by decide +kernel
theorem dX9_copy_2 : decode cX9_copy 2 = .ok (.invokevirtual 87, 3) := by decide +kernel
theorem dX9_copy_5 : decode cX9_copy 5 = .ok (.ifCond .eq 15, 3) := by decide +kernel
theorem dX9_copy_8 : decode cX9_copy 8 = .ok (.iload_n 2, 1) := by decide +kernel
theorem dX9_copy_9 : decode cX9_copy 9 = .ok (.i2l, 1) := by decide +kernel
theorem dX9_copy_10 : decode cX9_copy 10 = .ok (.lconst 0, 1) := by decide +kernel
theorem dX9_copy_11 : decode cX9_copy 11 = .ok (.ldc2_w 81, 3) := by decide +kernel
theorem dX9_copy_14 : decode cX9_copy 14 = .ok (.invokestatic 83, 3) := by decide +kernel
theorem dX9_copy_17 : decode cX9_copy 17 = .ok (.ifCond .ne 6, 3) := by decide +kernel
theorem dX9_copy_20 : decode cX9_copy 20 = .ok (.bipush (-2), 2) := by decide +kernel
theorem dX9_copy_22 : decode cX9_copy 22 = .ok (.ireturn, 1) := by decide +kernel
theorem dX9_copy_23 : decode cX9_copy 23 = .ok (.aload_n 0, 1) := by decide +kernel
theorem dX9_copy_24 : decode cX9_copy 24 = .ok (.iload_n 1, 1) := by decide +kernel
theorem dX9_copy_25 : decode cX9_copy 25 = .ok (.iload_n 2, 1) := by decide +kernel
theorem dX9_copy_26 : decode cX9_copy 26 = .ok (.invokevirtual 275, 3) := by decide +kernel
theorem dX9_copy_29 : decode cX9_copy 29 = .ok (.iconst 0, 1) := by decide +kernel
theorem dX9_copy_30 : decode cX9_copy 30 = .ok (.ireturn, 1) := by decide +kernel
theorem dX9_best_0 : decode cX9_best 0 = .ok (.aload_n 0, 1) := by decide +kernel
theorem dX9_best_1 : decode cX9_best 1 = .ok (.iload_n 1, 1) := by decide +kernel
theorem dX9_best_2 : decode cX9_best 2 = .ok (.invokevirtual 87, 3) := by decide +kernel
theorem dX9_best_5 : decode cX9_best 5 = .ok (.ifCond .ne 6, 3) := by decide +kernel
theorem dX9_best_8 : decode cX9_best 8 = .ok (.bipush (-2), 2) := by decide +kernel
theorem dX9_best_10 : decode cX9_best 10 = .ok (.ireturn, 1) := by decide +kernel
theorem dX9_best_11 : decode cX9_best 11 = .ok (.aload_n 0, 1) := by decide +kernel
theorem dX9_best_12 : decode cX9_best 12 = .ok (.iload_n 1, 1) := by decide +kernel
theorem dX9_best_13 : decode cX9_best 13 = .ok (.invokevirtual 294, 3) := by decide +kernel
theorem dX9_best_16 : decode cX9_best 16 = .ok (.ifCond .eq 6, 3) := by decide +kernel
theorem dX9_best_19 : decode cX9_best 19 = .ok (.bipush (-6), 2) := by decide +kernel
theorem dX9_best_21 : decode cX9_best 21 = .ok (.ireturn, 1) := by decide +kernel
theorem dX9_best_22 : decode cX9_best 22 = .ok (.aload_n 0, 1) := by decide +kernel
theorem dX9_best_23 : decode cX9_best 23 = .ok (.iload_n 1, 1) := by decide +kernel
theorem dX9_best_24 : decode cX9_best 24 = .ok (.invokevirtual 297, 3) := by decide +kernel
theorem dX9_best_27 : decode cX9_best 27 = .ok (.iconst (-1), 1) := by decide +kernel
theorem dX9_best_28 : decode cX9_best 28 = .ok (.istore_n 2, 1) := by decide +kernel
theorem dX9_best_29 : decode cX9_best 29 = .ok (.iconst 0, 1) := by decide +kernel
theorem dX9_best_30 : decode cX9_best 30 = .ok (.istore_n 3, 1) := by decide +kernel
theorem dX9_best_31 : decode cX9_best 31 = .ok (.bipush 24, 2) := by decide +kernel
theorem dX9_best_33 : decode cX9_best 33 = .ok (.istore 4, 2) := by decide +kernel
theorem dX9_best_35 : decode cX9_best 35 = .ok (.iload 4, 2) := by decide +kernel
theorem dX9_best_37 : decode cX9_best 37 = .ok (.sipush 200, 3) := by decide +kernel
theorem dX9_best_40 : decode cX9_best 40 = .ok (.if_icmp .gt 41, 3) := by decide +kernel
theorem dX9_best_43 : decode cX9_best 43 = .ok (.aload_n 0, 1) := by decide +kernel
theorem dX9_best_44 : decode cX9_best 44 = .ok (.iload 4, 2) := by decide +kernel
theorem dX9_best_46 : decode cX9_best 46 = .ok (.invokevirtual 272, 3) := by decide +kernel
theorem dX9_best_49 : decode cX9_best 49 = .ok (.ifCond .eq 26, 3) := by decide +kernel
theorem dX9_best_52 : decode cX9_best 52 = .ok (.iload_n 2, 1) := by decide +kernel
theorem dX9_best_53 : decode cX9_best 53 = .ok (.iconst (-1), 1) := by decide +kernel
theorem dX9_best_54 : decode cX9_best 54 = .ok (.if_icmp .eq 12, 3) := by decide +kernel
theorem dX9_best_57 : decode cX9_best 57 = .ok (.aload_n 0, 1) := by decide +kernel
theorem dX9_best_58 : decode cX9_best 58 = .ok (.iconst 4, 1) := by decide +kernel
theorem dX9_best_59 : decode cX9_best 59 = .ok (.invokevirtual 303, 3) := by decide +kernel
theorem dX9_best_62 : decode cX9_best 62 = .ok (.iload_n 3, 1) := by decide +kernel
theorem dX9_best_63 : decode cX9_best 63 = .ok (.if_icmp .ge 12, 3) := by decide +kernel
theorem dX9_best_66 : decode cX9_best 66 = .ok (.iload 4, 2) := by decide +kernel
theorem dX9_best_68 : decode cX9_best 68 = .ok (.istore_n 2, 1) := by decide +kernel
theorem dX9_best_69 : decode cX9_best 69 = .ok (.aload_n 0, 1) := by decide +kernel
theorem dX9_best_70 : decode cX9_best 70 = .ok (.iconst 4, 1) := by decide +kernel
theorem dX9_best_71 : decode cX9_best 71 = .ok (.invokevirtual 303, 3) := by decide +kernel
theorem dX9_best_74 : decode cX9_best 74 = .ok (.istore_n 3, 1) := by decide +kernel
theorem dX9_best_75 : decode cX9_best 75 = .ok (.iinc 4 1, 3) := by decide +kernel
theorem dX9_best_78 : decode cX9_best 78 = .ok (.goto (-43), 3) := by decide +kernel
theorem dX9_best_81 : decode cX9_best 81 = .ok (.iload_n 2, 1) := by decide +kernel
theorem dX9_best_82 : decode cX9_best 82 = .ok (.ireturn, 1) := by decide +kernel
theorem dX9_thin_0 : decode cX9_thin 0 = .ok (.aload_n 0, 1) := by decide +kernel
theorem dX9_thin_1 : decode cX9_thin 1 = .ok (.iload_n 1, 1) := by decide +kernel
theorem dX9_thin_2 : decode cX9_thin 2 = .ok (.invokevirtual 87, 3) := by decide +kernel
theorem dX9_thin_5 : decode cX9_thin 5 = .ok (.ifCond .eq 15, 3) := by decide +kernel
theorem dX9_thin_8 : decode cX9_thin 8 = .ok (.iload_n 2, 1) := by decide +kernel
theorem dX9_thin_9 : decode cX9_thin 9 = .ok (.i2l, 1) := by decide +kernel
theorem dX9_thin_10 : decode cX9_thin 10 = .ok (.lconst 1, 1) := by decide +kernel
theorem dX9_thin_11 : decode cX9_thin 11 = .ok (.ldc2_w 394, 3) := by decide +kernel
theorem dX9_thin_14 : decode cX9_thin 14 = .ok (.invokestatic 83, 3) := by decide +kernel
theorem dX9_thin_17 : decode cX9_thin 17 = .ok (.ifCond .ne 6, 3) := by decide +kernel
theorem dX9_thin_20 : decode cX9_thin 20 = .ok (.bipush (-2), 2) := by decide +kernel
theorem dX9_thin_22 : decode cX9_thin 22 = .ok (.ireturn, 1) := by decide +kernel
theorem dX9_thin_23 : decode cX9_thin 23 = .ok (.aload_n 0, 1) := by decide +kernel
theorem dX9_thin_24 : decode cX9_thin 24 = .ok (.iload_n 1, 1) := by decide +kernel
theorem dX9_thin_25 : decode cX9_thin 25 = .ok (.invokevirtual 294, 3) := by decide +kernel
theorem dX9_thin_28 : decode cX9_thin 28 = .ok (.ifCond .eq 6, 3) := by decide +kernel
theorem dX9_thin_31 : decode cX9_thin 31 = .ok (.bipush (-6), 2) := by decide +kernel
theorem dX9_thin_33 : decode cX9_thin 33 = .ok (.ireturn, 1) := by decide +kernel
theorem dX9_thin_34 : decode cX9_thin 34 = .ok (.aload_n 0, 1) := by decide +kernel
theorem dX9_thin_35 : decode cX9_thin 35 = .ok (.iload_n 1, 1) := by decide +kernel
theorem dX9_thin_36 : decode cX9_thin 36 = .ok (.invokevirtual 297, 3) := by decide +kernel
theorem dX9_thin_39 : decode cX9_thin 39 = .ok (.aload_n 0, 1) := by decide +kernel
theorem dX9_thin_40 : decode cX9_thin 40 = .ok (.getfield 248, 3) := by decide +kernel
theorem dX9_thin_43 : decode cX9_thin 43 = .ok (.istore_n 3, 1) := by decide +kernel
theorem dX9_thin_44 : decode cX9_thin 44 = .ok (.iconst 0, 1) := by decide +kernel
theorem dX9_thin_45 : decode cX9_thin 45 = .ok (.istore 4, 2) := by decide +kernel
theorem dX9_thin_47 : decode cX9_thin 47 = .ok (.iconst 0, 1) := by decide +kernel
theorem dX9_thin_48 : decode cX9_thin 48 = .ok (.istore 5, 2) := by decide +kernel
theorem dX9_thin_50 : decode cX9_thin 50 = .ok (.iload 5, 2) := by decide +kernel
theorem dX9_thin_52 : decode cX9_thin 52 = .ok (.iload_n 3, 1) := by decide +kernel
theorem dX9_thin_53 : decode cX9_thin 53 = .ok (.if_icmp .ge 71, 3) := by decide +kernel
theorem dX9_thin_56 : decode cX9_thin 56 = .ok (.iload 4, 2) := by decide +kernel
theorem dX9_thin_58 : decode cX9_thin 58 = .ok (.ifCond .eq 29, 3) := by decide +kernel
theorem dX9_thin_61 : decode cX9_thin 61 = .ok (.aload_n 0, 1) := by decide +kernel
theorem dX9_thin_62 : decode cX9_thin 62 = .ok (.getfield 66, 3) := by decide +kernel
theorem dX9_thin_65 : decode cX9_thin 65 = .ok (.iload 5, 2) := by decide +kernel
theorem dX9_thin_67 : decode cX9_thin 67 = .ok (.laload, 1) := by decide +kernel
theorem dX9_thin_68 : decode cX9_thin 68 = .ok (.iload_n 2, 1) := by decide +kernel
theorem dX9_thin_69 : decode cX9_thin 69 = .ok (.i2l, 1) := by decide +kernel
theorem dX9_thin_70 : decode cX9_thin 70 = .ok (.ldiv, 1) := by decide +kernel
theorem dX9_thin_71 : decode cX9_thin 71 = .ok (.aload_n 0, 1) := by decide +kernel
theorem dX9_thin_72 : decode cX9_thin 72 = .ok (.getfield 66, 3) := by decide +kernel
theorem dX9_thin_75 : decode cX9_thin 75 = .ok (.iload 4, 2) := by decide +kernel
theorem dX9_thin_77 : decode cX9_thin 77 = .ok (.iconst 1, 1) := by decide +kernel
theorem dX9_thin_78 : decode cX9_thin 78 = .ok (.isub, 1) := by decide +kernel
theorem dX9_thin_79 : decode cX9_thin 79 = .ok (.laload, 1) := by decide +kernel
theorem dX9_thin_80 : decode cX9_thin 80 = .ok (.iload_n 2, 1) := by decide +kernel
theorem dX9_thin_81 : decode cX9_thin 81 = .ok (.i2l, 1) := by decide +kernel
theorem dX9_thin_82 : decode cX9_thin 82 = .ok (.ldiv, 1) := by decide +kernel
theorem dX9_thin_83 : decode cX9_thin 83 = .ok (.lcmp, 1) := by decide +kernel
theorem dX9_thin_84 : decode cX9_thin 84 = .ok (.ifCond .eq 34, 3) := by decide +kernel
theorem dX9_thin_87 : decode cX9_thin 87 = .ok (.aload_n 0, 1) := by decide +kernel
theorem dX9_thin_88 : decode cX9_thin 88 = .ok (.getfield 66, 3) := by decide +kernel
theorem dX9_thin_91 : decode cX9_thin 91 = .ok (.iload 4, 2) := by decide +kernel
theorem dX9_thin_93 : decode cX9_thin 93 = .ok (.aload_n 0, 1) := by decide +kernel
theorem dX9_thin_94 : decode cX9_thin 94 = .ok (.getfield 66, 3) := by decide +kernel
theorem dX9_thin_97 : decode cX9_thin 97 = .ok (.iload 5, 2) := by decide +kernel
theorem dX9_thin_99 : decode cX9_thin 99 = .ok (.laload, 1) := by decide +kernel
theorem dX9_thin_100 : decode cX9_thin 100 = .ok (.lastore, 1) := by decide +kernel
theorem dX9_thin_101 : decode cX9_thin 101 = .ok (.aload_n 0, 1) := by decide +kernel
theorem dX9_thin_102 : decode cX9_thin 102 = .ok (.getfield 69, 3) := by decide +kernel
theorem dX9_thin_105 : decode cX9_thin 105 = .ok (.iload 4, 2) := by decide +kernel
theorem dX9_thin_107 : decode cX9_thin 107 = .ok (.aload_n 0, 1) := by decide +kernel
theorem dX9_thin_108 : decode cX9_thin 108 = .ok (.getfield 69, 3) := by decide +kernel
theorem dX9_thin_111 : decode cX9_thin 111 = .ok (.iload 5, 2) := by decide +kernel
theorem dX9_thin_113 : decode cX9_thin 113 = .ok (.laload, 1) := by decide +kernel
theorem dX9_thin_114 : decode cX9_thin 114 = .ok (.lastore, 1) := by decide +kernel
theorem dX9_thin_115 : decode cX9_thin 115 = .ok (.iinc 4 1, 3) := by decide +kernel
theorem dX9_thin_118 : decode cX9_thin 118 = .ok (.iinc 5 1, 3) := by decide +kernel
theorem dX9_thin_121 : decode cX9_thin 121 = .ok (.goto (-71), 3) := by decide +kernel
theorem dX9_thin_124 : decode cX9_thin 124 = .ok (.aload_n 0, 1) := by decide +kernel
theorem dX9_thin_125 : decode cX9_thin 125 = .ok (.iload 4, 2) := by decide +kernel
theorem dX9_thin_127 : decode cX9_thin 127 = .ok (.putfield 248, 3) := by decide +kernel
theorem dX9_thin_130 : decode cX9_thin 130 = .ok (.aload_n 0, 1) := by decide +kernel
theorem dX9_thin_131 : decode cX9_thin 131 = .ok (.iload_n 1, 1) := by decide +kernel
theorem dX9_thin_132 : decode cX9_thin 132 = .ok (.aload_n 0, 1) := by decide +kernel
theorem dX9_thin_133 : decode cX9_thin 133 = .ok (.getfield 7, 3) := by decide +kernel
theorem dX9_thin_136 : decode cX9_thin 136 = .ok (.iload_n 1, 1) := by decide +kernel
theorem dX9_thin_137 : decode cX9_thin 137 = .ok (.iaload, 1) := by decide +kernel
theorem dX9_thin_138 : decode cX9_thin 138 = .ok (.invokevirtual 300, 3) := by decide +kernel
theorem dX9_thin_141 : decode cX9_thin 141 = .ok (.bipush (-4), 2) := by decide +kernel
theorem dX9_thin_143 : decode cX9_thin 143 = .ok (.if_icmp .ne 8, 3) := by decide +kernel
theorem dX9_thin_146 : decode cX9_thin 146 = .ok (.bipush (-4), 2) := by decide +kernel
theorem dX9_thin_148 : decode cX9_thin 148 = .ok (.goto 7, 3) := by decide +kernel
theorem dX9_thin_151 : decode cX9_thin 151 = .ok (.iload_n 3, 1) := by decide +kernel
theorem dX9_thin_152 : decode cX9_thin 152 = .ok (.iload 4, 2) := by decide +kernel
theorem dX9_thin_154 : decode cX9_thin 154 = .ok (.isub, 1) := by decide +kernel
theorem dX9_thin_155 : decode cX9_thin 155 = .ok (.ireturn, 1) := by decide +kernel
theorem dX9_cuts_0 : decode cX9_cuts 0 = .ok (.aload_n 0, 1) := by decide +kernel
theorem dX9_cuts_1 : decode cX9_cuts 1 = .ok (.iload_n 1, 1) := by decide +kernel
theorem dX9_cuts_2 : decode cX9_cuts 2 = .ok (.iload_n 2, 1) := by decide +kernel
theorem dX9_cuts_3 : decode cX9_cuts 3 = .ok (.iload_n 3, 1) := by decide +kernel
theorem dX9_cuts_4 : decode cX9_cuts 4 = .ok (.invokevirtual 343, 3) := by decide +kernel
theorem dX9_cuts_7 : decode cX9_cuts 7 = .ok (.ifCond .ne 6, 3) := by decide +kernel
theorem dX9_cuts_10 : decode cX9_cuts 10 = .ok (.bipush (-2), 2) := by decide +kernel
theorem dX9_cuts_12 : decode cX9_cuts 12 = .ok (.ireturn, 1) := by decide +kernel
theorem dX9_cuts_13 : decode cX9_cuts 13 = .ok (.aload_n 0, 1) := by decide +kernel
theorem dX9_cuts_14 : decode cX9_cuts 14 = .ok (.iload_n 1, 1) := by decide +kernel
theorem dX9_cuts_15 : decode cX9_cuts 15 = .ok (.invokevirtual 294, 3) := by decide +kernel
theorem dX9_cuts_18 : decode cX9_cuts 18 = .ok (.ifCond .eq 6, 3) := by decide +kernel
theorem dX9_cuts_21 : decode cX9_cuts 21 = .ok (.bipush (-6), 2) := by decide +kernel
theorem dX9_cuts_23 : decode cX9_cuts 23 = .ok (.ireturn, 1) := by decide +kernel
theorem dX9_cuts_24 : decode cX9_cuts 24 = .ok (.aload_n 0, 1) := by decide +kernel
theorem dX9_cuts_25 : decode cX9_cuts 25 = .ok (.iload_n 1, 1) := by decide +kernel
theorem dX9_cuts_26 : decode cX9_cuts 26 = .ok (.iload_n 2, 1) := by decide +kernel
theorem dX9_cuts_27 : decode cX9_cuts 27 = .ok (.iload_n 3, 1) := by decide +kernel
theorem dX9_cuts_28 : decode cX9_cuts 28 = .ok (.invokevirtual 351, 3) := by decide +kernel
theorem dX9_cuts_31 : decode cX9_cuts 31 = .ok (.aload_n 0, 1) := by decide +kernel
theorem dX9_cuts_32 : decode cX9_cuts 32 = .ok (.getfield 340, 3) := by decide +kernel
theorem dX9_cuts_35 : decode cX9_cuts 35 = .ok (.aload_n 0, 1) := by decide +kernel
theorem dX9_cuts_36 : decode cX9_cuts 36 = .ok (.getfield 337, 3) := by decide +kernel
theorem dX9_cuts_39 : decode cX9_cuts 39 = .ok (.isub, 1) := by decide +kernel
theorem dX9_cuts_40 : decode cX9_cuts 40 = .ok (.istore 4, 2) := by decide +kernel
theorem dX9_cuts_42 : decode cX9_cuts 42 = .ok (.aload_n 0, 1) := by decide +kernel
theorem dX9_cuts_43 : decode cX9_cuts 43 = .ok (.getfield 340, 3) := by decide +kernel
theorem dX9_cuts_46 : decode cX9_cuts 46 = .ok (.istore 5, 2) := by decide +kernel
theorem dX9_cuts_48 : decode cX9_cuts 48 = .ok (.iload 5, 2) := by decide +kernel
theorem dX9_cuts_50 : decode cX9_cuts 50 = .ok (.aload_n 0, 1) := by decide +kernel
theorem dX9_cuts_51 : decode cX9_cuts 51 = .ok (.getfield 248, 3) := by decide +kernel
theorem dX9_cuts_54 : decode cX9_cuts 54 = .ok (.if_icmp .ge 43, 3) := by decide +kernel
theorem dX9_cuts_57 : decode cX9_cuts 57 = .ok (.aload_n 0, 1) := by decide +kernel
theorem dX9_cuts_58 : decode cX9_cuts 58 = .ok (.getfield 66, 3) := by decide +kernel
theorem dX9_cuts_61 : decode cX9_cuts 61 = .ok (.iload 5, 2) := by decide +kernel
theorem dX9_cuts_63 : decode cX9_cuts 63 = .ok (.iload 4, 2) := by decide +kernel
theorem dX9_cuts_65 : decode cX9_cuts 65 = .ok (.isub, 1) := by decide +kernel
theorem dX9_cuts_66 : decode cX9_cuts 66 = .ok (.aload_n 0, 1) := by decide +kernel
theorem dX9_cuts_67 : decode cX9_cuts 67 = .ok (.getfield 66, 3) := by decide +kernel
theorem dX9_cuts_70 : decode cX9_cuts 70 = .ok (.iload 5, 2) := by decide +kernel
theorem dX9_cuts_72 : decode cX9_cuts 72 = .ok (.laload, 1) := by decide +kernel
theorem dX9_cuts_73 : decode cX9_cuts 73 = .ok (.lastore, 1) := by decide +kernel
theorem dX9_cuts_74 : decode cX9_cuts 74 = .ok (.aload_n 0, 1) := by decide +kernel
theorem dX9_cuts_75 : decode cX9_cuts 75 = .ok (.getfield 69, 3) := by decide +kernel
theorem dX9_cuts_78 : decode cX9_cuts 78 = .ok (.iload 5, 2) := by decide +kernel
theorem dX9_cuts_80 : decode cX9_cuts 80 = .ok (.iload 4, 2) := by decide +kernel
theorem dX9_cuts_82 : decode cX9_cuts 82 = .ok (.isub, 1) := by decide +kernel
theorem dX9_cuts_83 : decode cX9_cuts 83 = .ok (.aload_n 0, 1) := by decide +kernel
theorem dX9_cuts_84 : decode cX9_cuts 84 = .ok (.getfield 69, 3) := by decide +kernel
theorem dX9_cuts_87 : decode cX9_cuts 87 = .ok (.iload 5, 2) := by decide +kernel
theorem dX9_cuts_89 : decode cX9_cuts 89 = .ok (.laload, 1) := by decide +kernel
theorem dX9_cuts_90 : decode cX9_cuts 90 = .ok (.lastore, 1) := by decide +kernel
theorem dX9_cuts_91 : decode cX9_cuts 91 = .ok (.iinc 5 1, 3) := by decide +kernel
theorem dX9_cuts_94 : decode cX9_cuts 94 = .ok (.goto (-46), 3) := by decide +kernel
theorem dX9_cuts_97 : decode cX9_cuts 97 = .ok (.aload_n 0, 1) := by decide +kernel
theorem dX9_cuts_98 : decode cX9_cuts 98 = .ok (.dup, 1) := by decide +kernel
theorem dX9_cuts_99 : decode cX9_cuts 99 = .ok (.getfield 248, 3) := by decide +kernel
theorem dX9_cuts_102 : decode cX9_cuts 102 = .ok (.iload 4, 2) := by decide +kernel
theorem dX9_cuts_104 : decode cX9_cuts 104 = .ok (.isub, 1) := by decide +kernel
theorem dX9_cuts_105 : decode cX9_cuts 105 = .ok (.putfield 248, 3) := by decide +kernel
theorem dX9_cuts_108 : decode cX9_cuts 108 = .ok (.aload_n 0, 1) := by decide +kernel
theorem dX9_cuts_109 : decode cX9_cuts 109 = .ok (.iload_n 1, 1) := by decide +kernel
theorem dX9_cuts_110 : decode cX9_cuts 110 = .ok (.aload_n 0, 1) := by decide +kernel
theorem dX9_cuts_111 : decode cX9_cuts 111 = .ok (.getfield 7, 3) := by decide +kernel
theorem dX9_cuts_114 : decode cX9_cuts 114 = .ok (.iload_n 1, 1) := by decide +kernel
theorem dX9_cuts_115 : decode cX9_cuts 115 = .ok (.iaload, 1) := by decide +kernel
theorem dX9_cuts_116 : decode cX9_cuts 116 = .ok (.invokevirtual 300, 3) := by decide +kernel
theorem dX9_cuts_119 : decode cX9_cuts 119 = .ok (.bipush (-4), 2) := by decide +kernel
theorem dX9_cuts_121 : decode cX9_cuts 121 = .ok (.if_icmp .ne 8, 3) := by decide +kernel
theorem dX9_cuts_124 : decode cX9_cuts 124 = .ok (.bipush (-4), 2) := by decide +kernel
theorem dX9_cuts_126 : decode cX9_cuts 126 = .ok (.goto 5, 3) := by decide +kernel
theorem dX9_cuts_129 : decode cX9_cuts 129 = .ok (.iload 4, 2) := by decide +kernel
theorem dX9_cuts_131 : decode cX9_cuts 131 = .ok (.ireturn, 1) := by decide +kernel
theorem dX9_lessens_0 : decode cX9_lessens 0 = .ok (.iconst 0, 1) := by decide +kernel
theorem dX9_lessens_1 : decode cX9_lessens 1 = .ok (.istore_n 2, 1) := by decide +kernel
theorem dX9_lessens_2 : decode cX9_lessens 2 = .ok (.iconst 0, 1) := by decide +kernel
theorem dX9_lessens_3 : decode cX9_lessens 3 = .ok (.istore_n 3, 1) := by decide +kernel
theorem dX9_lessens_4 : decode cX9_lessens 4 = .ok (.iload_n 3, 1) := by decide +kernel
theorem dX9_lessens_5 : decode cX9_lessens 5 = .ok (.aload_n 0, 1) := by decide +kernel
theorem dX9_lessens_6 : decode cX9_lessens 6 = .ok (.getfield 248, 3) := by decide +kernel
theorem dX9_lessens_9 : decode cX9_lessens 9 = .ok (.if_icmp .ge 87, 3) := by decide +kernel
theorem dX9_lessens_12 : decode cX9_lessens 12 = .ok (.aload_n 0, 1) := by decide +kernel
theorem dX9_lessens_13 : decode cX9_lessens 13 = .ok (.getfield 69, 3) := by decide +kernel
theorem dX9_lessens_16 : decode cX9_lessens 16 = .ok (.iload_n 3, 1) := by decide +kernel
theorem dX9_lessens_17 : decode cX9_lessens 17 = .ok (.laload, 1) := by decide +kernel
theorem dX9_lessens_18 : decode cX9_lessens 18 = .ok (.ldc2_w 97, 3) := by decide +kernel
theorem dX9_lessens_21 : decode cX9_lessens 21 = .ok (.land, 1) := by decide +kernel
theorem dX9_lessens_22 : decode cX9_lessens 22 = .ok (.ldc2_w 97, 3) := by decide +kernel
theorem dX9_lessens_25 : decode cX9_lessens 25 = .ok (.lcmp, 1) := by decide +kernel
theorem dX9_lessens_26 : decode cX9_lessens 26 = .ok (.ifCond .eq 7, 3) := by decide +kernel
theorem dX9_lessens_29 : decode cX9_lessens 29 = .ok (.iconst 1, 1) := by decide +kernel
theorem dX9_lessens_30 : decode cX9_lessens 30 = .ok (.goto 4, 3) := by decide +kernel
theorem dX9_lessens_33 : decode cX9_lessens 33 = .ok (.iconst 0, 1) := by decide +kernel
theorem dX9_lessens_34 : decode cX9_lessens 34 = .ok (.istore 4, 2) := by decide +kernel
theorem dX9_lessens_36 : decode cX9_lessens 36 = .ok (.iload 4, 2) := by decide +kernel
theorem dX9_lessens_38 : decode cX9_lessens 38 = .ok (.ifCond .eq 16, 3) := by decide +kernel
theorem dX9_lessens_41 : decode cX9_lessens 41 = .ok (.aload_n 0, 1) := by decide +kernel
theorem dX9_lessens_42 : decode cX9_lessens 42 = .ok (.getfield 69, 3) := by decide +kernel
theorem dX9_lessens_45 : decode cX9_lessens 45 = .ok (.iload_n 3, 1) := by decide +kernel
theorem dX9_lessens_46 : decode cX9_lessens 46 = .ok (.laload, 1) := by decide +kernel
theorem dX9_lessens_47 : decode cX9_lessens 47 = .ok (.iload_n 1, 1) := by decide +kernel
theorem dX9_lessens_48 : decode cX9_lessens 48 = .ok (.lshr, 1) := by decide +kernel
theorem dX9_lessens_49 : decode cX9_lessens 49 = .ok (.iload_n 1, 1) := by decide +kernel
theorem dX9_lessens_50 : decode cX9_lessens 50 = .ok (.lshl, 1) := by decide +kernel
theorem dX9_lessens_51 : decode cX9_lessens 51 = .ok (.goto 9, 3) := by decide +kernel
theorem dX9_lessens_54 : decode cX9_lessens 54 = .ok (.aload_n 0, 1) := by decide +kernel
theorem dX9_lessens_55 : decode cX9_lessens 55 = .ok (.getfield 69, 3) := by decide +kernel
theorem dX9_lessens_58 : decode cX9_lessens 58 = .ok (.iload_n 3, 1) := by decide +kernel
theorem dX9_lessens_59 : decode cX9_lessens 59 = .ok (.laload, 1) := by decide +kernel
theorem dX9_lessens_60 : decode cX9_lessens 60 = .ok (.lstore 5, 2) := by decide +kernel
theorem dX9_lessens_62 : decode cX9_lessens 62 = .ok (.iload_n 2, 1) := by decide +kernel
theorem dX9_lessens_63 : decode cX9_lessens 63 = .ok (.lload 5, 2) := by decide +kernel
theorem dX9_lessens_65 : decode cX9_lessens 65 = .ok (.aload_n 0, 1) := by decide +kernel
theorem dX9_lessens_66 : decode cX9_lessens 66 = .ok (.getfield 69, 3) := by decide +kernel
theorem dX9_lessens_69 : decode cX9_lessens 69 = .ok (.iload_n 3, 1) := by decide +kernel
theorem dX9_lessens_70 : decode cX9_lessens 70 = .ok (.laload, 1) := by decide +kernel
theorem dX9_lessens_71 : decode cX9_lessens 71 = .ok (.lcmp, 1) := by decide +kernel
theorem dX9_lessens_72 : decode cX9_lessens 72 = .ok (.ifCond .ne 7, 3) := by decide +kernel
theorem dX9_lessens_75 : decode cX9_lessens 75 = .ok (.iconst 0, 1) := by decide +kernel
theorem dX9_lessens_76 : decode cX9_lessens 76 = .ok (.goto 4, 3) := by decide +kernel
theorem dX9_lessens_79 : decode cX9_lessens 79 = .ok (.iconst 1, 1) := by decide +kernel
theorem dX9_lessens_80 : decode cX9_lessens 80 = .ok (.iadd, 1) := by decide +kernel
theorem dX9_lessens_81 : decode cX9_lessens 81 = .ok (.istore_n 2, 1) := by decide +kernel
theorem dX9_lessens_82 : decode cX9_lessens 82 = .ok (.aload_n 0, 1) := by decide +kernel
theorem dX9_lessens_83 : decode cX9_lessens 83 = .ok (.getfield 69, 3) := by decide +kernel
theorem dX9_lessens_86 : decode cX9_lessens 86 = .ok (.iload_n 3, 1) := by decide +kernel
theorem dX9_lessens_87 : decode cX9_lessens 87 = .ok (.lload 5, 2) := by decide +kernel
theorem dX9_lessens_89 : decode cX9_lessens 89 = .ok (.lastore, 1) := by decide +kernel
theorem dX9_lessens_90 : decode cX9_lessens 90 = .ok (.iinc 3 1, 3) := by decide +kernel
theorem dX9_lessens_93 : decode cX9_lessens 93 = .ok (.goto (-89), 3) := by decide +kernel
theorem dX9_lessens_96 : decode cX9_lessens 96 = .ok (.iload_n 2, 1) := by decide +kernel
theorem dX9_lessens_97 : decode cX9_lessens 97 = .ok (.ireturn, 1) := by decide +kernel
theorem dX9_rounds_0 : decode cX9_rounds 0 = .ok (.aload_n 0, 1) := by decide +kernel
theorem dX9_rounds_1 : decode cX9_rounds 1 = .ok (.iload_n 1, 1) := by decide +kernel
theorem dX9_rounds_2 : decode cX9_rounds 2 = .ok (.invokevirtual 87, 3) := by decide +kernel
theorem dX9_rounds_5 : decode cX9_rounds 5 = .ok (.ifCond .eq 15, 3) := by decide +kernel
theorem dX9_rounds_8 : decode cX9_rounds 8 = .ok (.iload_n 2, 1) := by decide +kernel
theorem dX9_rounds_9 : decode cX9_rounds 9 = .ok (.i2l, 1) := by decide +kernel
theorem dX9_rounds_10 : decode cX9_rounds 10 = .ok (.lconst 1, 1) := by decide +kernel
theorem dX9_rounds_11 : decode cX9_rounds 11 = .ok (.ldc2_w 396, 3) := by decide +kernel
theorem dX9_rounds_14 : decode cX9_rounds 14 = .ok (.invokestatic 83, 3) := by decide +kernel
theorem dX9_rounds_17 : decode cX9_rounds 17 = .ok (.ifCond .ne 6, 3) := by decide +kernel
theorem dX9_rounds_20 : decode cX9_rounds 20 = .ok (.bipush (-2), 2) := by decide +kernel
theorem dX9_rounds_22 : decode cX9_rounds 22 = .ok (.ireturn, 1) := by decide +kernel
theorem dX9_rounds_23 : decode cX9_rounds 23 = .ok (.aload_n 0, 1) := by decide +kernel
theorem dX9_rounds_24 : decode cX9_rounds 24 = .ok (.iload_n 1, 1) := by decide +kernel
theorem dX9_rounds_25 : decode cX9_rounds 25 = .ok (.invokevirtual 294, 3) := by decide +kernel
theorem dX9_rounds_28 : decode cX9_rounds 28 = .ok (.ifCond .eq 6, 3) := by decide +kernel
theorem dX9_rounds_31 : decode cX9_rounds 31 = .ok (.bipush (-6), 2) := by decide +kernel
theorem dX9_rounds_33 : decode cX9_rounds 33 = .ok (.ireturn, 1) := by decide +kernel
theorem dX9_rounds_34 : decode cX9_rounds 34 = .ok (.aload_n 0, 1) := by decide +kernel
theorem dX9_rounds_35 : decode cX9_rounds 35 = .ok (.iload_n 1, 1) := by decide +kernel
theorem dX9_rounds_36 : decode cX9_rounds 36 = .ok (.invokevirtual 297, 3) := by decide +kernel
theorem dX9_rounds_39 : decode cX9_rounds 39 = .ok (.aload_n 0, 1) := by decide +kernel
theorem dX9_rounds_40 : decode cX9_rounds 40 = .ok (.iload_n 2, 1) := by decide +kernel
theorem dX9_rounds_41 : decode cX9_rounds 41 = .ok (.invokevirtual 398, 3) := by decide +kernel
theorem dX9_rounds_44 : decode cX9_rounds 44 = .ok (.istore_n 3, 1) := by decide +kernel
theorem dX9_rounds_45 : decode cX9_rounds 45 = .ok (.aload_n 0, 1) := by decide +kernel
theorem dX9_rounds_46 : decode cX9_rounds 46 = .ok (.iload_n 1, 1) := by decide +kernel
theorem dX9_rounds_47 : decode cX9_rounds 47 = .ok (.aload_n 0, 1) := by decide +kernel
theorem dX9_rounds_48 : decode cX9_rounds 48 = .ok (.getfield 7, 3) := by decide +kernel
theorem dX9_rounds_51 : decode cX9_rounds 51 = .ok (.iload_n 1, 1) := by decide +kernel
theorem dX9_rounds_52 : decode cX9_rounds 52 = .ok (.iaload, 1) := by decide +kernel
theorem dX9_rounds_53 : decode cX9_rounds 53 = .ok (.invokevirtual 300, 3) := by decide +kernel
theorem dX9_rounds_56 : decode cX9_rounds 56 = .ok (.bipush (-4), 2) := by decide +kernel
theorem dX9_rounds_58 : decode cX9_rounds 58 = .ok (.if_icmp .ne 8, 3) := by decide +kernel
theorem dX9_rounds_61 : decode cX9_rounds 61 = .ok (.bipush (-4), 2) := by decide +kernel
theorem dX9_rounds_63 : decode cX9_rounds 63 = .ok (.goto 4, 3) := by decide +kernel
theorem dX9_rounds_66 : decode cX9_rounds 66 = .ok (.iload_n 3, 1) := by decide +kernel
theorem dX9_rounds_67 : decode cX9_rounds 67 = .ok (.ireturn, 1) := by decide +kernel
theorem dX9_rounded_0 : decode cX9_rounded 0 = .ok (.aload_n 0, 1) := by decide +kernel
theorem dX9_rounded_1 : decode cX9_rounded 1 = .ok (.iload_n 1, 1) := by decide +kernel
theorem dX9_rounded_2 : decode cX9_rounded 2 = .ok (.invokevirtual 87, 3) := by decide +kernel
theorem dX9_rounded_5 : decode cX9_rounded 5 = .ok (.ifCond .eq 15, 3) := by decide +kernel
theorem dX9_rounded_8 : decode cX9_rounded 8 = .ok (.iload_n 2, 1) := by decide +kernel
theorem dX9_rounded_9 : decode cX9_rounded 9 = .ok (.i2l, 1) := by decide +kernel
theorem dX9_rounded_10 : decode cX9_rounded 10 = .ok (.lconst 1, 1) := by decide +kernel
theorem dX9_rounded_11 : decode cX9_rounded 11 = .ok (.ldc2_w 396, 3) := by decide +kernel
theorem dX9_rounded_14 : decode cX9_rounded 14 = .ok (.invokestatic 83, 3) := by decide +kernel
theorem dX9_rounded_17 : decode cX9_rounded 17 = .ok (.ifCond .ne 6, 3) := by decide +kernel
theorem dX9_rounded_20 : decode cX9_rounded 20 = .ok (.bipush (-2), 2) := by decide +kernel
theorem dX9_rounded_22 : decode cX9_rounded 22 = .ok (.ireturn, 1) := by decide +kernel
theorem dX9_rounded_23 : decode cX9_rounded 23 = .ok (.aload_n 0, 1) := by decide +kernel
theorem dX9_rounded_24 : decode cX9_rounded 24 = .ok (.iload_n 1, 1) := by decide +kernel
theorem dX9_rounded_25 : decode cX9_rounded 25 = .ok (.invokevirtual 294, 3) := by decide +kernel
theorem dX9_rounded_28 : decode cX9_rounded 28 = .ok (.ifCond .eq 6, 3) := by decide +kernel
theorem dX9_rounded_31 : decode cX9_rounded 31 = .ok (.bipush (-6), 2) := by decide +kernel
theorem dX9_rounded_33 : decode cX9_rounded 33 = .ok (.ireturn, 1) := by decide +kernel
theorem dX9_rounded_34 : decode cX9_rounded 34 = .ok (.aload_n 0, 1) := by decide +kernel
theorem dX9_rounded_35 : decode cX9_rounded 35 = .ok (.iload_n 1, 1) := by decide +kernel
theorem dX9_rounded_36 : decode cX9_rounded 36 = .ok (.invokevirtual 297, 3) := by decide +kernel
theorem dX9_rounded_39 : decode cX9_rounded 39 = .ok (.aload_n 0, 1) := by decide +kernel
theorem dX9_rounded_40 : decode cX9_rounded 40 = .ok (.iload_n 2, 1) := by decide +kernel
theorem dX9_rounded_41 : decode cX9_rounded 41 = .ok (.invokevirtual 398, 3) := by decide +kernel
theorem dX9_rounded_44 : decode cX9_rounded 44 = .ok (.pop, 1) := by decide +kernel
theorem dX9_rounded_45 : decode cX9_rounded 45 = .ok (.aload_n 0, 1) := by decide +kernel
theorem dX9_rounded_46 : decode cX9_rounded 46 = .ok (.aload_n 0, 1) := by decide +kernel
theorem dX9_rounded_47 : decode cX9_rounded 47 = .ok (.getfield 7, 3) := by decide +kernel
theorem dX9_rounded_50 : decode cX9_rounded 50 = .ok (.iload_n 1, 1) := by decide +kernel
theorem dX9_rounded_51 : decode cX9_rounded 51 = .ok (.iaload, 1) := by decide +kernel
theorem dX9_rounded_52 : decode cX9_rounded 52 = .ok (.invokevirtual 272, 3) := by decide +kernel
theorem dX9_rounded_55 : decode cX9_rounded 55 = .ok (.ifCond .eq 11, 3) := by decide +kernel
theorem dX9_rounded_58 : decode cX9_rounded 58 = .ok (.aload_n 0, 1) := by decide +kernel
theorem dX9_rounded_59 : decode cX9_rounded 59 = .ok (.iconst 4, 1) := by decide +kernel
theorem dX9_rounded_60 : decode cX9_rounded 60 = .ok (.invokevirtual 303, 3) := by decide +kernel
theorem dX9_rounded_63 : decode cX9_rounded 63 = .ok (.goto 5, 3) := by decide +kernel
theorem dX9_rounded_66 : decode cX9_rounded 66 = .ok (.bipush (-4), 2) := by decide +kernel
theorem dX9_rounded_68 : decode cX9_rounded 68 = .ok (.ireturn, 1) := by decide +kernel
theorem dX9_feed_0 : decode cX9_feed 0 = .ok (.aload_n 0, 1) := by decide +kernel
theorem dX9_feed_1 : decode cX9_feed 1 = .ok (.getfield 401, 3) := by decide +kernel
theorem dX9_feed_4 : decode cX9_feed 4 = .ok (.sipush 180, 3) := by decide +kernel
theorem dX9_feed_7 : decode cX9_feed 7 = .ok (.if_icmp .le 5, 3) := by decide +kernel
theorem dX9_feed_10 : decode cX9_feed 10 = .ok (.iconst (-1), 1) := by decide +kernel
theorem dX9_feed_11 : decode cX9_feed 11 = .ok (.ireturn, 1) := by decide +kernel
theorem dX9_feed_12 : decode cX9_feed 12 = .ok (.iconst 5, 1) := by decide +kernel
theorem dX9_feed_13 : decode cX9_feed 13 = .ok (.newarray .int, 2) := by decide +kernel
theorem dX9_feed_15 : decode cX9_feed 15 = .ok (.dup, 1) := by decide +kernel
theorem dX9_feed_16 : decode cX9_feed 16 = .ok (.iconst 0, 1) := by decide +kernel
theorem dX9_feed_17 : decode cX9_feed 17 = .ok (.iload_n 1, 1) := by decide +kernel
theorem dX9_feed_18 : decode cX9_feed 18 = .ok (.iastore, 1) := by decide +kernel
theorem dX9_feed_19 : decode cX9_feed 19 = .ok (.dup, 1) := by decide +kernel
theorem dX9_feed_20 : decode cX9_feed 20 = .ok (.iconst 1, 1) := by decide +kernel
theorem dX9_feed_21 : decode cX9_feed 21 = .ok (.iload_n 2, 1) := by decide +kernel
theorem dX9_feed_22 : decode cX9_feed 22 = .ok (.iastore, 1) := by decide +kernel
theorem dX9_feed_23 : decode cX9_feed 23 = .ok (.dup, 1) := by decide +kernel
theorem dX9_feed_24 : decode cX9_feed 24 = .ok (.iconst 2, 1) := by decide +kernel
theorem dX9_feed_25 : decode cX9_feed 25 = .ok (.iload_n 3, 1) := by decide +kernel
theorem dX9_feed_26 : decode cX9_feed 26 = .ok (.iastore, 1) := by decide +kernel
theorem dX9_feed_27 : decode cX9_feed 27 = .ok (.dup, 1) := by decide +kernel
theorem dX9_feed_28 : decode cX9_feed 28 = .ok (.iconst 3, 1) := by decide +kernel
theorem dX9_feed_29 : decode cX9_feed 29 = .ok (.iload 4, 2) := by decide +kernel
theorem dX9_feed_31 : decode cX9_feed 31 = .ok (.iastore, 1) := by decide +kernel
theorem dX9_feed_32 : decode cX9_feed 32 = .ok (.dup, 1) := by decide +kernel
theorem dX9_feed_33 : decode cX9_feed 33 = .ok (.iconst 4, 1) := by decide +kernel
theorem dX9_feed_34 : decode cX9_feed 34 = .ok (.iload 5, 2) := by decide +kernel
theorem dX9_feed_36 : decode cX9_feed 36 = .ok (.iastore, 1) := by decide +kernel
theorem dX9_feed_37 : decode cX9_feed 37 = .ok (.astore 6, 2) := by decide +kernel
theorem dX9_feed_39 : decode cX9_feed 39 = .ok (.iconst 0, 1) := by decide +kernel
theorem dX9_feed_40 : decode cX9_feed 40 = .ok (.istore 7, 2) := by decide +kernel
theorem dX9_feed_42 : decode cX9_feed 42 = .ok (.iload 7, 2) := by decide +kernel
theorem dX9_feed_44 : decode cX9_feed 44 = .ok (.bipush 20, 2) := by decide +kernel
theorem dX9_feed_46 : decode cX9_feed 46 = .ok (.if_icmp .ge 43, 3) := by decide +kernel
theorem dX9_feed_49 : decode cX9_feed 49 = .ok (.aload_n 0, 1) := by decide +kernel
theorem dX9_feed_50 : decode cX9_feed 50 = .ok (.getfield 48, 3) := by decide +kernel
theorem dX9_feed_53 : decode cX9_feed 53 = .ok (.aload_n 0, 1) := by decide +kernel
theorem dX9_feed_54 : decode cX9_feed 54 = .ok (.getfield 401, 3) := by decide +kernel
theorem dX9_feed_57 : decode cX9_feed 57 = .ok (.iload 7, 2) := by decide +kernel
theorem dX9_feed_59 : decode cX9_feed 59 = .ok (.iadd, 1) := by decide +kernel
theorem dX9_feed_60 : decode cX9_feed 60 = .ok (.aload 6, 2) := by decide +kernel
theorem dX9_feed_62 : decode cX9_feed 62 = .ok (.iload 7, 2) := by decide +kernel
theorem dX9_feed_64 : decode cX9_feed 64 = .ok (.iconst 4, 1) := by decide +kernel
theorem dX9_feed_65 : decode cX9_feed 65 = .ok (.idiv, 1) := by decide +kernel
theorem dX9_feed_66 : decode cX9_feed 66 = .ok (.iaload, 1) := by decide +kernel
theorem dX9_feed_67 : decode cX9_feed 67 = .ok (.bipush 24, 2) := by decide +kernel
theorem dX9_feed_69 : decode cX9_feed 69 = .ok (.bipush 8, 2) := by decide +kernel
theorem dX9_feed_71 : decode cX9_feed 71 = .ok (.iload 7, 2) := by decide +kernel
theorem dX9_feed_73 : decode cX9_feed 73 = .ok (.iconst 4, 1) := by decide +kernel
theorem dX9_feed_74 : decode cX9_feed 74 = .ok (.irem, 1) := by decide +kernel
theorem dX9_feed_75 : decode cX9_feed 75 = .ok (.imul, 1) := by decide +kernel
theorem dX9_feed_76 : decode cX9_feed 76 = .ok (.isub, 1) := by decide +kernel
theorem dX9_feed_77 : decode cX9_feed 77 = .ok (.iushr, 1) := by decide +kernel
theorem dX9_feed_78 : decode cX9_feed 78 = .ok (.sipush 255, 3) := by decide +kernel
theorem dX9_feed_81 : decode cX9_feed 81 = .ok (.iand, 1) := by decide +kernel
theorem dX9_feed_82 : decode cX9_feed 82 = .ok (.iastore, 1) := by decide +kernel
theorem dX9_feed_83 : decode cX9_feed 83 = .ok (.iinc 7 1, 3) := by decide +kernel
theorem dX9_feed_86 : decode cX9_feed 86 = .ok (.goto (-44), 3) := by decide +kernel
theorem dX9_feed_89 : decode cX9_feed 89 = .ok (.aload_n 0, 1) := by decide +kernel
theorem dX9_feed_90 : decode cX9_feed 90 = .ok (.dup, 1) := by decide +kernel
theorem dX9_feed_91 : decode cX9_feed 91 = .ok (.getfield 401, 3) := by decide +kernel
theorem dX9_feed_94 : decode cX9_feed 94 = .ok (.bipush 20, 2) := by decide +kernel
theorem dX9_feed_96 : decode cX9_feed 96 = .ok (.iadd, 1) := by decide +kernel
theorem dX9_feed_97 : decode cX9_feed 97 = .ok (.putfield 401, 3) := by decide +kernel
theorem dX9_feed_100 : decode cX9_feed 100 = .ok (.aload_n 0, 1) := by decide +kernel
theorem dX9_feed_101 : decode cX9_feed 101 = .ok (.getfield 401, 3) := by decide +kernel
theorem dX9_feed_104 : decode cX9_feed 104 = .ok (.ireturn, 1) := by decide +kernel
theorem dX9_end_0 : decode cX9_end 0 = .ok (.iload_n 1, 1) := by decide +kernel
theorem dX9_end_1 : decode cX9_end 1 = .ok (.i2l, 1) := by decide +kernel
theorem dX9_end_2 : decode cX9_end 2 = .ok (.lconst 0, 1) := by decide +kernel
theorem dX9_end_3 : decode cX9_end 3 = .ok (.aload_n 0, 1) := by decide +kernel
theorem dX9_end_4 : decode cX9_end 4 = .ok (.getfield 401, 3) := by decide +kernel
theorem dX9_end_7 : decode cX9_end 7 = .ok (.i2l, 1) := by decide +kernel
theorem dX9_end_8 : decode cX9_end 8 = .ok (.invokestatic 83, 3) := by decide +kernel
theorem dX9_end_11 : decode cX9_end 11 = .ok (.ifCond .ne 5, 3) := by decide +kernel
theorem dX9_end_14 : decode cX9_end 14 = .ok (.iconst (-1), 1) := by decide +kernel
theorem dX9_end_15 : decode cX9_end 15 = .ok (.ireturn, 1) := by decide +kernel
theorem dX9_end_16 : decode cX9_end 16 = .ok (.aload_n 0, 1) := by decide +kernel
theorem dX9_end_17 : decode cX9_end 17 = .ok (.iload_n 1, 1) := by decide +kernel
theorem dX9_end_18 : decode cX9_end 18 = .ok (.putfield 401, 3) := by decide +kernel
theorem dX9_end_21 : decode cX9_end 21 = .ok (.iload_n 1, 1) := by decide +kernel
theorem dX9_end_22 : decode cX9_end 22 = .ok (.ireturn, 1) := by decide +kernel
theorem dX9_taped_0 : decode cX9_taped 0 = .ok (.aload_n 0, 1) := by decide +kernel
theorem dX9_taped_1 : decode cX9_taped 1 = .ok (.getfield 401, 3) := by decide +kernel
theorem dX9_taped_4 : decode cX9_taped 4 = .ok (.ireturn, 1) := by decide +kernel
theorem dX9_takes_0 : decode cX9_takes 0 = .ok (.aload_n 0, 1) := by decide +kernel
theorem dX9_takes_1 : decode cX9_takes 1 = .ok (.iload_n 1, 1) := by decide +kernel
theorem dX9_takes_2 : decode cX9_takes 2 = .ok (.invokevirtual 87, 3) := by decide +kernel
theorem dX9_takes_5 : decode cX9_takes 5 = .ok (.ifCond .ne 6, 3) := by decide +kernel
theorem dX9_takes_8 : decode cX9_takes 8 = .ok (.bipush (-2), 2) := by decide +kernel
theorem dX9_takes_10 : decode cX9_takes 10 = .ok (.ireturn, 1) := by decide +kernel
theorem dX9_takes_11 : decode cX9_takes 11 = .ok (.bipush 64, 2) := by decide +kernel
theorem dX9_takes_13 : decode cX9_takes 13 = .ok (.istore_n 2, 1) := by decide +kernel
theorem dX9_takes_14 : decode cX9_takes 14 = .ok (.aload_n 0, 1) := by decide +kernel
theorem dX9_takes_15 : decode cX9_takes 15 = .ok (.getfield 401, 3) := by decide +kernel
theorem dX9_takes_18 : decode cX9_takes 18 = .ok (.istore_n 3, 1) := by decide +kernel
theorem dX9_takes_19 : decode cX9_takes 19 = .ok (.aload_n 0, 1) := by decide +kernel
theorem dX9_takes_20 : decode cX9_takes 20 = .ok (.iconst 0, 1) := by decide +kernel
theorem dX9_takes_21 : decode cX9_takes 21 = .ok (.putfield 401, 3) := by decide +kernel
theorem dX9_takes_24 : decode cX9_takes 24 = .ok (.iconst 0, 1) := by decide +kernel
theorem dX9_takes_25 : decode cX9_takes 25 = .ok (.istore 4, 2) := by decide +kernel
theorem dX9_takes_27 : decode cX9_takes 27 = .ok (.iload 4, 2) := by decide +kernel
theorem dX9_takes_29 : decode cX9_takes 29 = .ok (.iload_n 3, 1) := by decide +kernel
theorem dX9_takes_30 : decode cX9_takes 30 = .ok (.if_icmp .ge 29, 3) := by decide +kernel
theorem dX9_takes_33 : decode cX9_takes 33 = .ok (.aload_n 0, 1) := by decide +kernel
theorem dX9_takes_34 : decode cX9_takes 34 = .ok (.getfield 19, 3) := by decide +kernel
theorem dX9_takes_37 : decode cX9_takes 37 = .ok (.sipush 200, 3) := by decide +kernel
theorem dX9_takes_40 : decode cX9_takes 40 = .ok (.iload_n 2, 1) := by decide +kernel
theorem dX9_takes_41 : decode cX9_takes 41 = .ok (.imul, 1) := by decide +kernel
theorem dX9_takes_42 : decode cX9_takes 42 = .ok (.iload 4, 2) := by decide +kernel
theorem dX9_takes_44 : decode cX9_takes 44 = .ok (.iadd, 1) := by decide +kernel
theorem dX9_takes_45 : decode cX9_takes 45 = .ok (.aload_n 0, 1) := by decide +kernel
theorem dX9_takes_46 : decode cX9_takes 46 = .ok (.getfield 48, 3) := by decide +kernel
theorem dX9_takes_49 : decode cX9_takes 49 = .ok (.iload 4, 2) := by decide +kernel
theorem dX9_takes_51 : decode cX9_takes 51 = .ok (.iaload, 1) := by decide +kernel
theorem dX9_takes_52 : decode cX9_takes 52 = .ok (.iastore, 1) := by decide +kernel
theorem dX9_takes_53 : decode cX9_takes 53 = .ok (.iinc 4 1, 3) := by decide +kernel
theorem dX9_takes_56 : decode cX9_takes 56 = .ok (.goto (-29), 3) := by decide +kernel
theorem dX9_takes_59 : decode cX9_takes 59 = .ok (.aload_n 0, 1) := by decide +kernel
theorem dX9_takes_60 : decode cX9_takes 60 = .ok (.getfield 22, 3) := by decide +kernel
theorem dX9_takes_63 : decode cX9_takes 63 = .ok (.iload_n 2, 1) := by decide +kernel
theorem dX9_takes_64 : decode cX9_takes 64 = .ok (.iload_n 3, 1) := by decide +kernel
theorem dX9_takes_65 : decode cX9_takes 65 = .ok (.iastore, 1) := by decide +kernel
theorem dX9_takes_66 : decode cX9_takes 66 = .ok (.aload_n 0, 1) := by decide +kernel
theorem dX9_takes_67 : decode cX9_takes 67 = .ok (.getfield 28, 3) := by decide +kernel
theorem dX9_takes_70 : decode cX9_takes 70 = .ok (.iload_n 2, 1) := by decide +kernel
theorem dX9_takes_71 : decode cX9_takes 71 = .ok (.iconst 1, 1) := by decide +kernel
theorem dX9_takes_72 : decode cX9_takes 72 = .ok (.bastore, 1) := by decide +kernel
theorem dX9_takes_73 : decode cX9_takes 73 = .ok (.aload_n 0, 1) := by decide +kernel
theorem dX9_takes_74 : decode cX9_takes 74 = .ok (.iload_n 2, 1) := by decide +kernel
theorem dX9_takes_75 : decode cX9_takes 75 = .ok (.invokevirtual 239, 3) := by decide +kernel
theorem dX9_takes_78 : decode cX9_takes 78 = .ok (.aload_n 0, 1) := by decide +kernel
theorem dX9_takes_79 : decode cX9_takes 79 = .ok (.getfield 203, 3) := by decide +kernel
theorem dX9_takes_82 : decode cX9_takes 82 = .ok (.ifCond .le 11, 3) := by decide +kernel
theorem dX9_takes_85 : decode cX9_takes 85 = .ok (.bipush (-10), 2) := by decide +kernel
theorem dX9_takes_87 : decode cX9_takes 87 = .ok (.aload_n 0, 1) := by decide +kernel
theorem dX9_takes_88 : decode cX9_takes 88 = .ok (.getfield 203, 3) := by decide +kernel
theorem dX9_takes_91 : decode cX9_takes 91 = .ok (.isub, 1) := by decide +kernel
theorem dX9_takes_92 : decode cX9_takes 92 = .ok (.ireturn, 1) := by decide +kernel
theorem dX9_takes_93 : decode cX9_takes 93 = .ok (.iload_n 3, 1) := by decide +kernel
theorem dX9_takes_94 : decode cX9_takes 94 = .ok (.aload_n 0, 1) := by decide +kernel
theorem dX9_takes_95 : decode cX9_takes 95 = .ok (.getfield 7, 3) := by decide +kernel
theorem dX9_takes_98 : decode cX9_takes 98 = .ok (.iload_n 1, 1) := by decide +kernel
theorem dX9_takes_99 : decode cX9_takes 99 = .ok (.iaload, 1) := by decide +kernel
theorem dX9_takes_100 : decode cX9_takes 100 = .ok (.if_icmp .le 6, 3) := by decide +kernel
theorem dX9_takes_103 : decode cX9_takes 103 = .ok (.bipush (-3), 2) := by decide +kernel
theorem dX9_takes_105 : decode cX9_takes 105 = .ok (.ireturn, 1) := by decide +kernel
theorem dX9_takes_106 : decode cX9_takes 106 = .ok (.aload_n 0, 1) := by decide +kernel
theorem dX9_takes_107 : decode cX9_takes 107 = .ok (.iload_n 1, 1) := by decide +kernel
theorem dX9_takes_108 : decode cX9_takes 108 = .ok (.aload_n 0, 1) := by decide +kernel
theorem dX9_takes_109 : decode cX9_takes 109 = .ok (.getfield 51, 3) := by decide +kernel
theorem dX9_takes_112 : decode cX9_takes 112 = .ok (.iconst 0, 1) := by decide +kernel
theorem dX9_takes_113 : decode cX9_takes 113 = .ok (.laload, 1) := by decide +kernel
theorem dX9_takes_114 : decode cX9_takes 114 = .ok (.l2i, 1) := by decide +kernel
theorem dX9_takes_115 : decode cX9_takes 115 = .ok (.invokevirtual 281, 3) := by decide +kernel
theorem dX9_takes_118 : decode cX9_takes 118 = .ok (.ifCond .ne 6, 3) := by decide +kernel
theorem dX9_takes_121 : decode cX9_takes 121 = .ok (.bipush (-5), 2) := by decide +kernel
theorem dX9_takes_123 : decode cX9_takes 123 = .ok (.ireturn, 1) := by decide +kernel
theorem dX9_takes_124 : decode cX9_takes 124 = .ok (.aload_n 0, 1) := by decide +kernel
theorem dX9_takes_125 : decode cX9_takes 125 = .ok (.getfield 16, 3) := by decide +kernel
theorem dX9_takes_128 : decode cX9_takes 128 = .ok (.iload_n 1, 1) := by decide +kernel
theorem dX9_takes_129 : decode cX9_takes 129 = .ok (.iaload, 1) := by decide +kernel
theorem dX9_takes_130 : decode cX9_takes 130 = .ok (.bipush 16, 2) := by decide +kernel
theorem dX9_takes_132 : decode cX9_takes 132 = .ok (.if_icmp .ne 6, 3) := by decide +kernel
theorem dX9_takes_135 : decode cX9_takes 135 = .ok (.bipush (-4), 2) := by decide +kernel
theorem dX9_takes_137 : decode cX9_takes 137 = .ok (.ireturn, 1) := by decide +kernel
theorem dX9_takes_138 : decode cX9_takes 138 = .ok (.aload_n 0, 1) := by decide +kernel
theorem dX9_takes_139 : decode cX9_takes 139 = .ok (.getfield 32, 3) := by decide +kernel
theorem dX9_takes_142 : decode cX9_takes 142 = .ok (.iload_n 2, 1) := by decide +kernel
theorem dX9_takes_143 : decode cX9_takes 143 = .ok (.aload_n 0, 1) := by decide +kernel
theorem dX9_takes_144 : decode cX9_takes 144 = .ok (.getfield 51, 3) := by decide +kernel
theorem dX9_takes_147 : decode cX9_takes 147 = .ok (.iconst 0, 1) := by decide +kernel
theorem dX9_takes_148 : decode cX9_takes 148 = .ok (.laload, 1) := by decide +kernel
theorem dX9_takes_149 : decode cX9_takes 149 = .ok (.l2i, 1) := by decide +kernel
theorem dX9_takes_150 : decode cX9_takes 150 = .ok (.iastore, 1) := by decide +kernel
theorem dX9_takes_151 : decode cX9_takes 151 = .ok (.aload_n 0, 1) := by decide +kernel
theorem dX9_takes_152 : decode cX9_takes 152 = .ok (.getfield 35, 3) := by decide +kernel
theorem dX9_takes_155 : decode cX9_takes 155 = .ok (.iload_n 2, 1) := by decide +kernel
theorem dX9_takes_156 : decode cX9_takes 156 = .ok (.aload_n 0, 1) := by decide +kernel
theorem dX9_takes_157 : decode cX9_takes 157 = .ok (.getfield 149, 3) := by decide +kernel
theorem dX9_takes_160 : decode cX9_takes 160 = .ok (.l2i, 1) := by decide +kernel
theorem dX9_takes_161 : decode cX9_takes 161 = .ok (.iastore, 1) := by decide +kernel
theorem dX9_takes_162 : decode cX9_takes 162 = .ok (.aload_n 0, 1) := by decide +kernel
theorem dX9_takes_163 : decode cX9_takes 163 = .ok (.getfield 13, 3) := by decide +kernel
theorem dX9_takes_166 : decode cX9_takes 166 = .ok (.iload_n 1, 1) := by decide +kernel
theorem dX9_takes_167 : decode cX9_takes 167 = .ok (.aload_n 0, 1) := by decide +kernel
theorem dX9_takes_168 : decode cX9_takes 168 = .ok (.getfield 149, 3) := by decide +kernel
theorem dX9_takes_171 : decode cX9_takes 171 = .ok (.l2i, 1) := by decide +kernel
theorem dX9_takes_172 : decode cX9_takes 172 = .ok (.iastore, 1) := by decide +kernel
theorem dX9_takes_173 : decode cX9_takes 173 = .ok (.aload_n 0, 1) := by decide +kernel
theorem dX9_takes_174 : decode cX9_takes 174 = .ok (.getfield 16, 3) := by decide +kernel
theorem dX9_takes_177 : decode cX9_takes 177 = .ok (.iload_n 1, 1) := by decide +kernel
theorem dX9_takes_178 : decode cX9_takes 178 = .ok (.iaload, 1) := by decide +kernel
theorem dX9_takes_179 : decode cX9_takes 179 = .ok (.ifCond .le 30, 3) := by decide +kernel
theorem dX9_takes_182 : decode cX9_takes 182 = .ok (.aload_n 0, 1) := by decide +kernel
theorem dX9_takes_183 : decode cX9_takes 183 = .ok (.getfield 28, 3) := by decide +kernel
theorem dX9_takes_186 : decode cX9_takes 186 = .ok (.bipush 16, 2) := by decide +kernel
theorem dX9_takes_188 : decode cX9_takes 188 = .ok (.iload_n 1, 1) := by decide +kernel
theorem dX9_takes_189 : decode cX9_takes 189 = .ok (.imul, 1) := by decide +kernel
theorem dX9_takes_190 : decode cX9_takes 190 = .ok (.aload_n 0, 1) := by decide +kernel
theorem dX9_takes_191 : decode cX9_takes 191 = .ok (.getfield 16, 3) := by decide +kernel
theorem dX9_takes_194 : decode cX9_takes 194 = .ok (.iload_n 1, 1) := by decide +kernel
theorem dX9_takes_195 : decode cX9_takes 195 = .ok (.iaload, 1) := by decide +kernel
theorem dX9_takes_196 : decode cX9_takes 196 = .ok (.iadd, 1) := by decide +kernel
theorem dX9_takes_197 : decode cX9_takes 197 = .ok (.iconst 1, 1) := by decide +kernel
theorem dX9_takes_198 : decode cX9_takes 198 = .ok (.isub, 1) := by decide +kernel
theorem dX9_takes_199 : decode cX9_takes 199 = .ok (.baload, 1) := by decide +kernel
theorem dX9_takes_200 : decode cX9_takes 200 = .ok (.ifCond .ne 9, 3) := by decide +kernel
theorem dX9_takes_203 : decode cX9_takes 203 = .ok (.aload_n 0, 1) := by decide +kernel
theorem dX9_takes_204 : decode cX9_takes 204 = .ok (.iload_n 1, 1) := by decide +kernel
theorem dX9_takes_205 : decode cX9_takes 205 = .ok (.invokevirtual 404, 3) := by decide +kernel
theorem dX9_takes_208 : decode cX9_takes 208 = .ok (.pop, 1) := by decide +kernel
theorem dX9_takes_209 : decode cX9_takes 209 = .ok (.bipush 16, 2) := by decide +kernel
theorem dX9_takes_211 : decode cX9_takes 211 = .ok (.iload_n 1, 1) := by decide +kernel
theorem dX9_takes_212 : decode cX9_takes 212 = .ok (.imul, 1) := by decide +kernel
theorem dX9_takes_213 : decode cX9_takes 213 = .ok (.aload_n 0, 1) := by decide +kernel
theorem dX9_takes_214 : decode cX9_takes 214 = .ok (.getfield 16, 3) := by decide +kernel
theorem dX9_takes_217 : decode cX9_takes 217 = .ok (.iload_n 1, 1) := by decide +kernel
theorem dX9_takes_218 : decode cX9_takes 218 = .ok (.iaload, 1) := by decide +kernel
theorem dX9_takes_219 : decode cX9_takes 219 = .ok (.iadd, 1) := by decide +kernel
theorem dX9_takes_220 : decode cX9_takes 220 = .ok (.istore 4, 2) := by decide +kernel
theorem dX9_takes_222 : decode cX9_takes 222 = .ok (.iconst 0, 1) := by decide +kernel
theorem dX9_takes_223 : decode cX9_takes 223 = .ok (.istore 5, 2) := by decide +kernel
theorem dX9_takes_225 : decode cX9_takes 225 = .ok (.iload 5, 2) := by decide +kernel
theorem dX9_takes_227 : decode cX9_takes 227 = .ok (.iload_n 3, 1) := by decide +kernel
theorem dX9_takes_228 : decode cX9_takes 228 = .ok (.if_icmp .ge 30, 3) := by decide +kernel
theorem dX9_takes_231 : decode cX9_takes 231 = .ok (.aload_n 0, 1) := by decide +kernel
theorem dX9_takes_232 : decode cX9_takes 232 = .ok (.getfield 19, 3) := by decide +kernel
theorem dX9_takes_235 : decode cX9_takes 235 = .ok (.sipush 200, 3) := by decide +kernel
theorem dX9_takes_238 : decode cX9_takes 238 = .ok (.iload 4, 2) := by decide +kernel
theorem dX9_takes_240 : decode cX9_takes 240 = .ok (.imul, 1) := by decide +kernel
theorem dX9_takes_241 : decode cX9_takes 241 = .ok (.iload 5, 2) := by decide +kernel
theorem dX9_takes_243 : decode cX9_takes 243 = .ok (.iadd, 1) := by decide +kernel
theorem dX9_takes_244 : decode cX9_takes 244 = .ok (.aload_n 0, 1) := by decide +kernel
theorem dX9_takes_245 : decode cX9_takes 245 = .ok (.getfield 48, 3) := by decide +kernel
theorem dX9_takes_248 : decode cX9_takes 248 = .ok (.iload 5, 2) := by decide +kernel
theorem dX9_takes_250 : decode cX9_takes 250 = .ok (.iaload, 1) := by decide +kernel
theorem dX9_takes_251 : decode cX9_takes 251 = .ok (.iastore, 1) := by decide +kernel
theorem dX9_takes_252 : decode cX9_takes 252 = .ok (.iinc 5 1, 3) := by decide +kernel
theorem dX9_takes_255 : decode cX9_takes 255 = .ok (.goto (-30), 3) := by decide +kernel
theorem dX9_takes_258 : decode cX9_takes 258 = .ok (.aload_n 0, 1) := by decide +kernel
theorem dX9_takes_259 : decode cX9_takes 259 = .ok (.getfield 22, 3) := by decide +kernel
theorem dX9_takes_262 : decode cX9_takes 262 = .ok (.iload 4, 2) := by decide +kernel
theorem dX9_takes_264 : decode cX9_takes 264 = .ok (.iload_n 3, 1) := by decide +kernel
theorem dX9_takes_265 : decode cX9_takes 265 = .ok (.iastore, 1) := by decide +kernel
theorem dX9_takes_266 : decode cX9_takes 266 = .ok (.aload_n 0, 1) := by decide +kernel
theorem dX9_takes_267 : decode cX9_takes 267 = .ok (.getfield 28, 3) := by decide +kernel
theorem dX9_takes_270 : decode cX9_takes 270 = .ok (.iload 4, 2) := by decide +kernel
theorem dX9_takes_272 : decode cX9_takes 272 = .ok (.iconst 1, 1) := by decide +kernel
theorem dX9_takes_273 : decode cX9_takes 273 = .ok (.bastore, 1) := by decide +kernel
theorem dX9_takes_274 : decode cX9_takes 274 = .ok (.aload_n 0, 1) := by decide +kernel
theorem dX9_takes_275 : decode cX9_takes 275 = .ok (.getfield 32, 3) := by decide +kernel
theorem dX9_takes_278 : decode cX9_takes 278 = .ok (.iload 4, 2) := by decide +kernel
theorem dX9_takes_280 : decode cX9_takes 280 = .ok (.aload_n 0, 1) := by decide +kernel
theorem dX9_takes_281 : decode cX9_takes 281 = .ok (.getfield 32, 3) := by decide +kernel
theorem dX9_takes_284 : decode cX9_takes 284 = .ok (.iload_n 2, 1) := by decide +kernel
theorem dX9_takes_285 : decode cX9_takes 285 = .ok (.iaload, 1) := by decide +kernel
theorem dX9_takes_286 : decode cX9_takes 286 = .ok (.iastore, 1) := by decide +kernel
theorem dX9_takes_287 : decode cX9_takes 287 = .ok (.aload_n 0, 1) := by decide +kernel
theorem dX9_takes_288 : decode cX9_takes 288 = .ok (.getfield 35, 3) := by decide +kernel
theorem dX9_takes_291 : decode cX9_takes 291 = .ok (.iload 4, 2) := by decide +kernel
theorem dX9_takes_293 : decode cX9_takes 293 = .ok (.aload_n 0, 1) := by decide +kernel
theorem dX9_takes_294 : decode cX9_takes 294 = .ok (.getfield 35, 3) := by decide +kernel
theorem dX9_takes_297 : decode cX9_takes 297 = .ok (.iload_n 2, 1) := by decide +kernel
theorem dX9_takes_298 : decode cX9_takes 298 = .ok (.iaload, 1) := by decide +kernel
theorem dX9_takes_299 : decode cX9_takes 299 = .ok (.iastore, 1) := by decide +kernel
theorem dX9_takes_300 : decode cX9_takes 300 = .ok (.aload_n 0, 1) := by decide +kernel
theorem dX9_takes_301 : decode cX9_takes 301 = .ok (.getfield 16, 3) := by decide +kernel
theorem dX9_takes_304 : decode cX9_takes 304 = .ok (.iload_n 1, 1) := by decide +kernel
theorem dX9_takes_305 : decode cX9_takes 305 = .ok (.dup2, 1) := by decide +kernel
theorem dX9_takes_306 : decode cX9_takes 306 = .ok (.iaload, 1) := by decide +kernel
theorem dX9_takes_307 : decode cX9_takes 307 = .ok (.iconst 1, 1) := by decide +kernel
theorem dX9_takes_308 : decode cX9_takes 308 = .ok (.iadd, 1) := by decide +kernel
theorem dX9_takes_309 : decode cX9_takes 309 = .ok (.iastore, 1) := by decide +kernel
theorem dX9_takes_310 : decode cX9_takes 310 = .ok (.aload_n 0, 1) := by decide +kernel
theorem dX9_takes_311 : decode cX9_takes 311 = .ok (.getfield 16, 3) := by decide +kernel
theorem dX9_takes_314 : decode cX9_takes 314 = .ok (.iload_n 1, 1) := by decide +kernel
theorem dX9_takes_315 : decode cX9_takes 315 = .ok (.iaload, 1) := by decide +kernel
theorem dX9_takes_316 : decode cX9_takes 316 = .ok (.iconst 1, 1) := by decide +kernel
theorem dX9_takes_317 : decode cX9_takes 317 = .ok (.isub, 1) := by decide +kernel
theorem dX9_takes_318 : decode cX9_takes 318 = .ok (.ireturn, 1) := by decide +kernel
