theorem dX0_init_0 : decode cX0_init 0 = .ok (.aload_n 0, 1) := by decide +kernel
theorem dX0_init_1 : decode cX0_init 1 = .ok (.invokespecial 3, 3) := by decide +kernel
theorem dX0_init_4 : decode cX0_init 4 = .ok (.aload_n 0, 1) := by decide +kernel
theorem dX0_init_5 : decode cX0_init 5 = .ok (.sipush 200, 3) := by decide +kernel
theorem dX0_init_8 : decode cX0_init 8 = .ok (.newarray .int, 2) := by decide +kernel
theorem dX0_init_10 : decode cX0_init 10 = .ok (.putfield 9, 3) := by decide +kernel
theorem dX0_init_13 : decode cX0_init 13 = .ok (.aload_n 0, 1) := by decide +kernel
theorem dX0_init_14 : decode cX0_init 14 = .ok (.iconst (-1), 1) := by decide +kernel
theorem dX0_init_15 : decode cX0_init 15 = .ok (.putfield 15, 3) := by decide +kernel
theorem dX0_init_18 : decode cX0_init 18 = .ok (.return_, 1) := by decide +kernel
theorem dX0_openBytes_0 : decode cX0_openBytes 0 = .ok (.bipush 14, 2) := by decide +kernel
theorem dX0_openBytes_2 : decode cX0_openBytes 2 = .ok (.iload_n 0, 1) := by decide +kernel
theorem dX0_openBytes_3 : decode cX0_openBytes 3 = .ok (.bipush 7, 2) := by decide +kernel
theorem dX0_openBytes_5 : decode cX0_openBytes 5 = .ok (.iadd, 1) := by decide +kernel
theorem dX0_openBytes_6 : decode cX0_openBytes 6 = .ok (.bipush 8, 2) := by decide +kernel
theorem dX0_openBytes_8 : decode cX0_openBytes 8 = .ok (.idiv, 1) := by decide +kernel
theorem dX0_openBytes_9 : decode cX0_openBytes 9 = .ok (.iadd, 1) := by decide +kernel
theorem dX0_openBytes_10 : decode cX0_openBytes 10 = .ok (.ireturn, 1) := by decide +kernel
theorem dX0_sealedBytes_0 : decode cX0_sealedBytes 0 = .ok (.iload_n 0, 1) := by decide +kernel
theorem dX0_sealedBytes_1 : decode cX0_sealedBytes 1 = .ok (.invokestatic 19, 3) := by decide +kernel
theorem dX0_sealedBytes_4 : decode cX0_sealedBytes 4 = .ok (.iconst 1, 1) := by decide +kernel
theorem dX0_sealedBytes_5 : decode cX0_sealedBytes 5 = .ok (.iadd, 1) := by decide +kernel
theorem dX0_sealedBytes_6 : decode cX0_sealedBytes 6 = .ok (.ireturn, 1) := by decide +kernel
theorem dX0_begin_0 : decode cX0_begin 0 = .ok (.aload_n 0, 1) := by decide +kernel
theorem dX0_begin_1 : decode cX0_begin 1 = .ok (.iconst 0, 1) := by decide +kernel
theorem dX0_begin_2 : decode cX0_begin 2 = .ok (.putfield 23, 3) := by decide +kernel
theorem dX0_begin_5 : decode cX0_begin 5 = .ok (.aload_n 0, 1) := by decide +kernel
theorem dX0_begin_6 : decode cX0_begin 6 = .ok (.iload_n 1, 1) := by decide +kernel
theorem dX0_begin_7 : decode cX0_begin 7 = .ok (.invokevirtual 26, 3) := by decide +kernel
theorem dX0_begin_10 : decode cX0_begin 10 = .ok (.aload_n 0, 1) := by decide +kernel
theorem dX0_begin_11 : decode cX0_begin 11 = .ok (.lload_n 2, 1) := by decide +kernel
theorem dX0_begin_12 : decode cX0_begin 12 = .ok (.bipush 32, 2) := by decide +kernel
theorem dX0_begin_14 : decode cX0_begin 14 = .ok (.lushr, 1) := by decide +kernel
theorem dX0_begin_15 : decode cX0_begin 15 = .ok (.l2i, 1) := by decide +kernel
theorem dX0_begin_16 : decode cX0_begin 16 = .ok (.invokevirtual 26, 3) := by decide +kernel
theorem dX0_begin_19 : decode cX0_begin 19 = .ok (.aload_n 0, 1) := by decide +kernel
theorem dX0_begin_20 : decode cX0_begin 20 = .ok (.lload_n 2, 1) := by decide +kernel
theorem dX0_begin_21 : decode cX0_begin 21 = .ok (.l2i, 1) := by decide +kernel
theorem dX0_begin_22 : decode cX0_begin 22 = .ok (.invokevirtual 26, 3) := by decide +kernel
theorem dX0_begin_25 : decode cX0_begin 25 = .ok (.aload_n 0, 1) := by decide +kernel
theorem dX0_begin_26 : decode cX0_begin 26 = .ok (.getfield 9, 3) := by decide +kernel
theorem dX0_begin_29 : decode cX0_begin 29 = .ok (.bipush 12, 2) := by decide +kernel
theorem dX0_begin_31 : decode cX0_begin 31 = .ok (.iconst 0, 1) := by decide +kernel
theorem dX0_begin_32 : decode cX0_begin 32 = .ok (.iastore, 1) := by decide +kernel
theorem dX0_begin_33 : decode cX0_begin 33 = .ok (.aload_n 0, 1) := by decide +kernel
theorem dX0_begin_34 : decode cX0_begin 34 = .ok (.getfield 9, 3) := by decide +kernel
theorem dX0_begin_37 : decode cX0_begin 37 = .ok (.bipush 13, 2) := by decide +kernel
theorem dX0_begin_39 : decode cX0_begin 39 = .ok (.iconst 1, 1) := by decide +kernel
theorem dX0_begin_40 : decode cX0_begin 40 = .ok (.iastore, 1) := by decide +kernel
theorem dX0_begin_41 : decode cX0_begin 41 = .ok (.aload_n 0, 1) := by decide +kernel
theorem dX0_begin_42 : decode cX0_begin 42 = .ok (.bipush 14, 2) := by decide +kernel
theorem dX0_begin_44 : decode cX0_begin 44 = .ok (.putfield 23, 3) := by decide +kernel
theorem dX0_begin_47 : decode cX0_begin 47 = .ok (.aload_n 0, 1) := by decide +kernel
theorem dX0_begin_48 : decode cX0_begin 48 = .ok (.iconst 0, 1) := by decide +kernel
theorem dX0_begin_49 : decode cX0_begin 49 = .ok (.putfield 30, 3) := by decide +kernel
theorem dX0_begin_52 : decode cX0_begin 52 = .ok (.aload_n 0, 1) := by decide +kernel
theorem dX0_begin_53 : decode cX0_begin 53 = .ok (.iconst 1, 1) := by decide +kernel
theorem dX0_begin_54 : decode cX0_begin 54 = .ok (.putfield 33, 3) := by decide +kernel
theorem dX0_begin_57 : decode cX0_begin 57 = .ok (.aload_n 0, 1) := by decide +kernel
theorem dX0_begin_58 : decode cX0_begin 58 = .ok (.iload_n 1, 1) := by decide +kernel
theorem dX0_begin_59 : decode cX0_begin 59 = .ok (.putfield 36, 3) := by decide +kernel
theorem dX0_begin_62 : decode cX0_begin 62 = .ok (.aload_n 0, 1) := by decide +kernel
theorem dX0_begin_63 : decode cX0_begin 63 = .ok (.iload_n 1, 1) := by decide +kernel
theorem dX0_begin_64 : decode cX0_begin 64 = .ok (.putfield 39, 3) := by decide +kernel
theorem dX0_begin_67 : decode cX0_begin 67 = .ok (.aload_n 0, 1) := by decide +kernel
theorem dX0_begin_68 : decode cX0_begin 68 = .ok (.iconst 0, 1) := by decide +kernel
theorem dX0_begin_69 : decode cX0_begin 69 = .ok (.putfield 42, 3) := by decide +kernel
theorem dX0_begin_72 : decode cX0_begin 72 = .ok (.aload_n 0, 1) := by decide +kernel
theorem dX0_begin_73 : decode cX0_begin 73 = .ok (.iconst 0, 1) := by decide +kernel
theorem dX0_begin_74 : decode cX0_begin 74 = .ok (.putfield 46, 3) := by decide +kernel
theorem dX0_begin_77 : decode cX0_begin 77 = .ok (.aload_n 0, 1) := by decide +kernel
theorem dX0_begin_78 : decode cX0_begin 78 = .ok (.iconst (-1), 1) := by decide +kernel
theorem dX0_begin_79 : decode cX0_begin 79 = .ok (.putfield 15, 3) := by decide +kernel
theorem dX0_begin_82 : decode cX0_begin 82 = .ok (.return_, 1) := by decide +kernel
theorem dX0_append_0 : decode cX0_append 0 = .ok (.bipush 24, 2) := by decide +kernel
theorem dX0_append_2 : decode cX0_append 2 = .ok (.istore_n 2, 1) := by decide +kernel
theorem dX0_append_3 : decode cX0_append 3 = .ok (.iload_n 2, 1) := by decide +kernel
theorem dX0_append_4 : decode cX0_append 4 = .ok (.ifCond .lt 45, 3) := by decide +kernel
theorem dX0_append_7 : decode cX0_append 7 = .ok (.aload_n 0, 1) := by decide +kernel
theorem dX0_append_8 : decode cX0_append 8 = .ok (.getfield 23, 3) := by decide +kernel
theorem dX0_append_11 : decode cX0_append 11 = .ok (.sipush 200, 3) := by decide +kernel
theorem dX0_append_14 : decode cX0_append 14 = .ok (.if_icmp .ge 35, 3) := by decide +kernel
theorem dX0_append_17 : decode cX0_append 17 = .ok (.aload_n 0, 1) := by decide +kernel
theorem dX0_append_18 : decode cX0_append 18 = .ok (.getfield 9, 3) := by decide +kernel
theorem dX0_append_21 : decode cX0_append 21 = .ok (.aload_n 0, 1) := by decide +kernel
theorem dX0_append_22 : decode cX0_append 22 = .ok (.getfield 23, 3) := by decide +kernel
theorem dX0_append_25 : decode cX0_append 25 = .ok (.iload_n 1, 1) := by decide +kernel
theorem dX0_append_26 : decode cX0_append 26 = .ok (.iload_n 2, 1) := by decide +kernel
theorem dX0_append_27 : decode cX0_append 27 = .ok (.iushr, 1) := by decide +kernel
theorem dX0_append_28 : decode cX0_append 28 = .ok (.sipush 255, 3) := by decide +kernel
theorem dX0_append_31 : decode cX0_append 31 = .ok (.iand, 1) := by decide +kernel
theorem dX0_append_32 : decode cX0_append 32 = .ok (.iastore, 1) := by decide +kernel
theorem dX0_append_33 : decode cX0_append 33 = .ok (.aload_n 0, 1) := by decide +kernel
theorem dX0_append_34 : decode cX0_append 34 = .ok (.dup, 1) := by decide +kernel
theorem dX0_append_35 : decode cX0_append 35 = .ok (.getfield 23, 3) := by decide +kernel
theorem dX0_append_38 : decode cX0_append 38 = .ok (.iconst 1, 1) := by decide +kernel
theorem dX0_append_39 : decode cX0_append 39 = .ok (.iadd, 1) := by decide +kernel
theorem dX0_append_40 : decode cX0_append 40 = .ok (.putfield 23, 3) := by decide +kernel
theorem dX0_append_43 : decode cX0_append 43 = .ok (.iinc 2 (-8), 3) := by decide +kernel
theorem dX0_append_46 : decode cX0_append 46 = .ok (.goto (-43), 3) := by decide +kernel
theorem dX0_append_49 : decode cX0_append 49 = .ok (.return_, 1) := by decide +kernel
theorem dX0_write_0 : decode cX0_write 0 = .ok (.aload_n 0, 1) := by decide +kernel
theorem dX0_write_1 : decode cX0_write 1 = .ok (.getstatic 49, 3) := by decide +kernel
theorem dX0_write_4 : decode cX0_write 4 = .ok (.aload_n 1, 1) := by decide +kernel
theorem dX0_write_5 : decode cX0_write 5 = .ok (.getfield 52, 3) := by decide +kernel
theorem dX0_write_8 : decode cX0_write 8 = .ok (.iaload, 1) := by decide +kernel
theorem dX0_write_9 : decode cX0_write 9 = .ok (.i2l, 1) := by decide +kernel
theorem dX0_write_10 : decode cX0_write 10 = .ok (.getstatic 57, 3) := by decide +kernel
theorem dX0_write_13 : decode cX0_write 13 = .ok (.aload_n 1, 1) := by decide +kernel
theorem dX0_write_14 : decode cX0_write 14 = .ok (.getfield 52, 3) := by decide +kernel
theorem dX0_write_17 : decode cX0_write 17 = .ok (.iaload, 1) := by decide +kernel
theorem dX0_write_18 : decode cX0_write 18 = .ok (.invokevirtual 60, 3) := by decide +kernel
theorem dX0_write_21 : decode cX0_write 21 = .ok (.aload_n 0, 1) := by decide +kernel
theorem dX0_write_22 : decode cX0_write 22 = .ok (.aload_n 1, 1) := by decide +kernel
theorem dX0_write_23 : decode cX0_write 23 = .ok (.getfield 64, 3) := by decide +kernel
theorem dX0_write_26 : decode cX0_write 26 = .ok (.i2l, 1) := by decide +kernel
theorem dX0_write_27 : decode cX0_write 27 = .ok (.getstatic 67, 3) := by decide +kernel
theorem dX0_write_30 : decode cX0_write 30 = .ok (.aload_n 1, 1) := by decide +kernel
theorem dX0_write_31 : decode cX0_write 31 = .ok (.getfield 52, 3) := by decide +kernel
theorem dX0_write_34 : decode cX0_write 34 = .ok (.iaload, 1) := by decide +kernel
theorem dX0_write_35 : decode cX0_write 35 = .ok (.invokevirtual 60, 3) := by decide +kernel
theorem dX0_write_38 : decode cX0_write 38 = .ok (.aload_n 1, 1) := by decide +kernel
theorem dX0_write_39 : decode cX0_write 39 = .ok (.getfield 70, 3) := by decide +kernel
theorem dX0_write_42 : decode cX0_write 42 = .ok (.iconst 5, 1) := by decide +kernel
theorem dX0_write_43 : decode cX0_write 43 = .ok (.if_icmp .ne 12, 3) := by decide +kernel
theorem dX0_write_46 : decode cX0_write 46 = .ok (.aload_n 0, 1) := by decide +kernel
theorem dX0_write_47 : decode cX0_write 47 = .ok (.lconst 0, 1) := by decide +kernel
theorem dX0_write_48 : decode cX0_write 48 = .ok (.iconst 1, 1) := by decide +kernel
theorem dX0_write_49 : decode cX0_write 49 = .ok (.invokevirtual 60, 3) := by decide +kernel
theorem dX0_write_52 : decode cX0_write 52 = .ok (.goto 103, 3) := by decide +kernel
theorem dX0_write_55 : decode cX0_write 55 = .ok (.aload_n 1, 1) := by decide +kernel
theorem dX0_write_56 : decode cX0_write 56 = .ok (.getfield 70, 3) := by decide +kernel
theorem dX0_write_59 : decode cX0_write 59 = .ok (.bipush 6, 2) := by decide +kernel
theorem dX0_write_61 : decode cX0_write 61 = .ok (.if_icmp .ne 39, 3) := by decide +kernel
theorem dX0_write_64 : decode cX0_write 64 = .ok (.aload_n 0, 1) := by decide +kernel
theorem dX0_write_65 : decode cX0_write 65 = .ok (.ldc2_w 73, 3) := by decide +kernel
theorem dX0_write_68 : decode cX0_write 68 = .ok (.iconst 2, 1) := by decide +kernel
theorem dX0_write_69 : decode cX0_write 69 = .ok (.invokevirtual 60, 3) := by decide +kernel
theorem dX0_write_72 : decode cX0_write 72 = .ok (.aload_n 0, 1) := by decide +kernel
theorem dX0_write_73 : decode cX0_write 73 = .ok (.aload_n 1, 1) := by decide +kernel
theorem dX0_write_74 : decode cX0_write 74 = .ok (.getfield 75, 3) := by decide +kernel
theorem dX0_write_77 : decode cX0_write 77 = .ok (.aload_n 1, 1) := by decide +kernel
theorem dX0_write_78 : decode cX0_write 78 = .ok (.getfield 79, 3) := by decide +kernel
theorem dX0_write_81 : decode cX0_write 81 = .ok (.lushr, 1) := by decide +kernel
theorem dX0_write_82 : decode cX0_write 82 = .ok (.bipush 64, 2) := by decide +kernel
theorem dX0_write_84 : decode cX0_write 84 = .ok (.aload_n 1, 1) := by decide +kernel
theorem dX0_write_85 : decode cX0_write 85 = .ok (.getfield 82, 3) := by decide +kernel
theorem dX0_write_88 : decode cX0_write 88 = .ok (.isub, 1) := by decide +kernel
theorem dX0_write_89 : decode cX0_write 89 = .ok (.aload_n 1, 1) := by decide +kernel
theorem dX0_write_90 : decode cX0_write 90 = .ok (.getfield 79, 3) := by decide +kernel
theorem dX0_write_93 : decode cX0_write 93 = .ok (.isub, 1) := by decide +kernel
theorem dX0_write_94 : decode cX0_write 94 = .ok (.invokevirtual 60, 3) := by decide +kernel
theorem dX0_write_97 : decode cX0_write 97 = .ok (.goto 58, 3) := by decide +kernel
theorem dX0_write_100 : decode cX0_write 100 = .ok (.bipush 64, 2) := by decide +kernel
theorem dX0_write_102 : decode cX0_write 102 = .ok (.aload_n 1, 1) := by decide +kernel
theorem dX0_write_103 : decode cX0_write 103 = .ok (.getfield 85, 3) := by decide +kernel
theorem dX0_write_106 : decode cX0_write 106 = .ok (.isub, 1) := by decide +kernel
theorem dX0_write_107 : decode cX0_write 107 = .ok (.aload_n 1, 1) := by decide +kernel
theorem dX0_write_108 : decode cX0_write 108 = .ok (.getfield 88, 3) := by decide +kernel
theorem dX0_write_111 : decode cX0_write 111 = .ok (.isub, 1) := by decide +kernel
theorem dX0_write_112 : decode cX0_write 112 = .ok (.istore_n 2, 1) := by decide +kernel
theorem dX0_write_113 : decode cX0_write 113 = .ok (.aload_n 0, 1) := by decide +kernel
theorem dX0_write_114 : decode cX0_write 114 = .ok (.ldc2_w 91, 3) := by decide +kernel
theorem dX0_write_117 : decode cX0_write 117 = .ok (.iconst 2, 1) := by decide +kernel
theorem dX0_write_118 : decode cX0_write 118 = .ok (.invokevirtual 60, 3) := by decide +kernel
theorem dX0_write_121 : decode cX0_write 121 = .ok (.aload_n 0, 1) := by decide +kernel
theorem dX0_write_122 : decode cX0_write 122 = .ok (.aload_n 1, 1) := by decide +kernel
theorem dX0_write_123 : decode cX0_write 123 = .ok (.getfield 85, 3) := by decide +kernel
theorem dX0_write_126 : decode cX0_write 126 = .ok (.i2l, 1) := by decide +kernel
theorem dX0_write_127 : decode cX0_write 127 = .ok (.iconst 5, 1) := by decide +kernel
theorem dX0_write_128 : decode cX0_write 128 = .ok (.invokevirtual 60, 3) := by decide +kernel
theorem dX0_write_131 : decode cX0_write 131 = .ok (.aload_n 0, 1) := by decide +kernel
theorem dX0_write_132 : decode cX0_write 132 = .ok (.iload_n 2, 1) := by decide +kernel
theorem dX0_write_133 : decode cX0_write 133 = .ok (.iconst 1, 1) := by decide +kernel
theorem dX0_write_134 : decode cX0_write 134 = .ok (.isub, 1) := by decide +kernel
theorem dX0_write_135 : decode cX0_write 135 = .ok (.i2l, 1) := by decide +kernel
theorem dX0_write_136 : decode cX0_write 136 = .ok (.bipush 6, 2) := by decide +kernel
theorem dX0_write_138 : decode cX0_write 138 = .ok (.invokevirtual 60, 3) := by decide +kernel
theorem dX0_write_141 : decode cX0_write 141 = .ok (.aload_n 0, 1) := by decide +kernel
theorem dX0_write_142 : decode cX0_write 142 = .ok (.aload_n 1, 1) := by decide +kernel
theorem dX0_write_143 : decode cX0_write 143 = .ok (.getfield 75, 3) := by decide +kernel
theorem dX0_write_146 : decode cX0_write 146 = .ok (.aload_n 1, 1) := by decide +kernel
theorem dX0_write_147 : decode cX0_write 147 = .ok (.getfield 88, 3) := by decide +kernel
theorem dX0_write_150 : decode cX0_write 150 = .ok (.lushr, 1) := by decide +kernel
theorem dX0_write_151 : decode cX0_write 151 = .ok (.iload_n 2, 1) := by decide +kernel
theorem dX0_write_152 : decode cX0_write 152 = .ok (.invokevirtual 60, 3) := by decide +kernel
theorem dX0_write_155 : decode cX0_write 155 = .ok (.aload_n 0, 1) := by decide +kernel
theorem dX0_write_156 : decode cX0_write 156 = .ok (.dup, 1) := by decide +kernel
theorem dX0_write_157 : decode cX0_write 157 = .ok (.getfield 33, 3) := by decide +kernel
theorem dX0_write_160 : decode cX0_write 160 = .ok (.iconst 1, 1) := by decide +kernel
theorem dX0_write_161 : decode cX0_write 161 = .ok (.iadd, 1) := by decide +kernel
theorem dX0_write_162 : decode cX0_write 162 = .ok (.putfield 33, 3) := by decide +kernel
theorem dX0_write_165 : decode cX0_write 165 = .ok (.aload_n 0, 1) := by decide +kernel
theorem dX0_write_166 : decode cX0_write 166 = .ok (.getfield 9, 3) := by decide +kernel
theorem dX0_write_169 : decode cX0_write 169 = .ok (.bipush 12, 2) := by decide +kernel
theorem dX0_write_171 : decode cX0_write 171 = .ok (.aload_n 0, 1) := by decide +kernel
theorem dX0_write_172 : decode cX0_write 172 = .ok (.getfield 33, 3) := by decide +kernel
theorem dX0_write_175 : decode cX0_write 175 = .ok (.bipush 8, 2) := by decide +kernel
theorem dX0_write_177 : decode cX0_write 177 = .ok (.ishr, 1) := by decide +kernel
theorem dX0_write_178 : decode cX0_write 178 = .ok (.iastore, 1) := by decide +kernel
theorem dX0_write_179 : decode cX0_write 179 = .ok (.aload_n 0, 1) := by decide +kernel
theorem dX0_write_180 : decode cX0_write 180 = .ok (.getfield 9, 3) := by decide +kernel
theorem dX0_write_183 : decode cX0_write 183 = .ok (.bipush 13, 2) := by decide +kernel
theorem dX0_write_185 : decode cX0_write 185 = .ok (.aload_n 0, 1) := by decide +kernel
theorem dX0_write_186 : decode cX0_write 186 = .ok (.getfield 33, 3) := by decide +kernel
theorem dX0_write_189 : decode cX0_write 189 = .ok (.sipush 255, 3) := by decide +kernel
theorem dX0_write_192 : decode cX0_write 192 = .ok (.iand, 1) := by decide +kernel
theorem dX0_write_193 : decode cX0_write 193 = .ok (.iastore, 1) := by decide +kernel
theorem dX0_write_194 : decode cX0_write 194 = .ok (.aload_n 0, 1) := by decide +kernel
theorem dX0_write_195 : decode cX0_write 195 = .ok (.aload_n 1, 1) := by decide +kernel
theorem dX0_write_196 : decode cX0_write 196 = .ok (.getfield 93, 3) := by decide +kernel
theorem dX0_write_199 : decode cX0_write 199 = .ok (.putfield 39, 3) := by decide +kernel
theorem dX0_write_202 : decode cX0_write 202 = .ok (.aload_n 0, 1) := by decide +kernel
theorem dX0_write_203 : decode cX0_write 203 = .ok (.aload_n 0, 1) := by decide +kernel
theorem dX0_write_204 : decode cX0_write 204 = .ok (.getfield 30, 3) := by decide +kernel
theorem dX0_write_207 : decode cX0_write 207 = .ok (.invokestatic 19, 3) := by decide +kernel
theorem dX0_write_210 : decode cX0_write 210 = .ok (.putfield 23, 3) := by decide +kernel
theorem dX0_write_213 : decode cX0_write 213 = .ok (.return_, 1) := by decide +kernel
theorem dX0_writeBits_0 : decode cX0_writeBits 0 = .ok (.iload_n 3, 1) := by decide +kernel
theorem dX0_writeBits_1 : decode cX0_writeBits 1 = .ok (.istore 4, 2) := by decide +kernel
theorem dX0_writeBits_3 : decode cX0_writeBits 3 = .ok (.iload 4, 2) := by decide +kernel
theorem dX0_writeBits_5 : decode cX0_writeBits 5 = .ok (.ifCond .le 127, 3) := by decide +kernel
theorem dX0_writeBits_8 : decode cX0_writeBits 8 = .ok (.bipush 14, 2) := by decide +kernel
theorem dX0_writeBits_10 : decode cX0_writeBits 10 = .ok (.aload_n 0, 1) := by decide +kernel
theorem dX0_writeBits_11 : decode cX0_writeBits 11 = .ok (.getfield 30, 3) := by decide +kernel
theorem dX0_writeBits_14 : decode cX0_writeBits 14 = .ok (.iconst 3, 1) := by decide +kernel
theorem dX0_writeBits_15 : decode cX0_writeBits 15 = .ok (.ishr, 1) := by decide +kernel
theorem dX0_writeBits_16 : decode cX0_writeBits 16 = .ok (.iadd, 1) := by decide +kernel
theorem dX0_writeBits_17 : decode cX0_writeBits 17 = .ok (.istore 5, 2) := by decide +kernel
theorem dX0_writeBits_19 : decode cX0_writeBits 19 = .ok (.bipush 8, 2) := by decide +kernel
theorem dX0_writeBits_21 : decode cX0_writeBits 21 = .ok (.aload_n 0, 1) := by decide +kernel
theorem dX0_writeBits_22 : decode cX0_writeBits 22 = .ok (.getfield 30, 3) := by decide +kernel
theorem dX0_writeBits_25 : decode cX0_writeBits 25 = .ok (.bipush 7, 2) := by decide +kernel
theorem dX0_writeBits_27 : decode cX0_writeBits 27 = .ok (.iand, 1) := by decide +kernel
theorem dX0_writeBits_28 : decode cX0_writeBits 28 = .ok (.isub, 1) := by decide +kernel
theorem dX0_writeBits_29 : decode cX0_writeBits 29 = .ok (.istore 6, 2) := by decide +kernel
theorem dX0_writeBits_31 : decode cX0_writeBits 31 = .ok (.iload 6, 2) := by decide +kernel
theorem dX0_writeBits_33 : decode cX0_writeBits 33 = .ok (.iload 4, 2) := by decide +kernel
theorem dX0_writeBits_35 : decode cX0_writeBits 35 = .ok (.if_icmp .ge 8, 3) := by decide +kernel
theorem dX0_writeBits_38 : decode cX0_writeBits 38 = .ok (.iload 6, 2) := by decide +kernel
theorem dX0_writeBits_40 : decode cX0_writeBits 40 = .ok (.goto 5, 3) := by decide +kernel
theorem dX0_writeBits_43 : decode cX0_writeBits 43 = .ok (.iload 4, 2) := by decide +kernel
theorem dX0_writeBits_45 : decode cX0_writeBits 45 = .ok (.istore 7, 2) := by decide +kernel
theorem dX0_writeBits_47 : decode cX0_writeBits 47 = .ok (.iload 5, 2) := by decide +kernel
theorem dX0_writeBits_49 : decode cX0_writeBits 49 = .ok (.sipush 200, 3) := by decide +kernel
theorem dX0_writeBits_52 : decode cX0_writeBits 52 = .ok (.if_icmp .lt 4, 3) := by decide +kernel
theorem dX0_writeBits_55 : decode cX0_writeBits 55 = .ok (.return_, 1) := by decide +kernel
theorem dX0_writeBits_56 : decode cX0_writeBits 56 = .ok (.lload_n 1, 1) := by decide +kernel
theorem dX0_writeBits_57 : decode cX0_writeBits 57 = .ok (.iload 4, 2) := by decide +kernel
theorem dX0_writeBits_59 : decode cX0_writeBits 59 = .ok (.iload 7, 2) := by decide +kernel
theorem dX0_writeBits_61 : decode cX0_writeBits 61 = .ok (.isub, 1) := by decide +kernel
theorem dX0_writeBits_62 : decode cX0_writeBits 62 = .ok (.lushr, 1) := by decide +kernel
theorem dX0_writeBits_63 : decode cX0_writeBits 63 = .ok (.l2i, 1) := by decide +kernel
theorem dX0_writeBits_64 : decode cX0_writeBits 64 = .ok (.iconst 1, 1) := by decide +kernel
theorem dX0_writeBits_65 : decode cX0_writeBits 65 = .ok (.iload 7, 2) := by decide +kernel
theorem dX0_writeBits_67 : decode cX0_writeBits 67 = .ok (.ishl, 1) := by decide +kernel
theorem dX0_writeBits_68 : decode cX0_writeBits 68 = .ok (.iconst 1, 1) := by decide +kernel
theorem dX0_writeBits_69 : decode cX0_writeBits 69 = .ok (.isub, 1) := by decide +kernel
theorem dX0_writeBits_70 : decode cX0_writeBits 70 = .ok (.iand, 1) := by decide +kernel
theorem dX0_writeBits_71 : decode cX0_writeBits 71 = .ok (.istore 8, 2) := by decide +kernel
theorem dX0_writeBits_73 : decode cX0_writeBits 73 = .ok (.iload 6, 2) := by decide +kernel
theorem dX0_writeBits_75 : decode cX0_writeBits 75 = .ok (.bipush 8, 2) := by decide +kernel
theorem dX0_writeBits_77 : decode cX0_writeBits 77 = .ok (.if_icmp .ne 7, 3) := by decide +kernel
theorem dX0_writeBits_80 : decode cX0_writeBits 80 = .ok (.iconst 0, 1) := by decide +kernel
theorem dX0_writeBits_81 : decode cX0_writeBits 81 = .ok (.goto 10, 3) := by decide +kernel
theorem dX0_writeBits_84 : decode cX0_writeBits 84 = .ok (.aload_n 0, 1) := by decide +kernel
theorem dX0_writeBits_85 : decode cX0_writeBits 85 = .ok (.getfield 9, 3) := by decide +kernel
theorem dX0_writeBits_88 : decode cX0_writeBits 88 = .ok (.iload 5, 2) := by decide +kernel
theorem dX0_writeBits_90 : decode cX0_writeBits 90 = .ok (.iaload, 1) := by decide +kernel
theorem dX0_writeBits_91 : decode cX0_writeBits 91 = .ok (.istore 9, 2) := by decide +kernel
theorem dX0_writeBits_93 : decode cX0_writeBits 93 = .ok (.aload_n 0, 1) := by decide +kernel
theorem dX0_writeBits_94 : decode cX0_writeBits 94 = .ok (.getfield 9, 3) := by decide +kernel
theorem dX0_writeBits_97 : decode cX0_writeBits 97 = .ok (.iload 5, 2) := by decide +kernel
theorem dX0_writeBits_99 : decode cX0_writeBits 99 = .ok (.iload 9, 2) := by decide +kernel
theorem dX0_writeBits_101 : decode cX0_writeBits 101 = .ok (.iload 8, 2) := by decide +kernel
theorem dX0_writeBits_103 : decode cX0_writeBits 103 = .ok (.iload 6, 2) := by decide +kernel
theorem dX0_writeBits_105 : decode cX0_writeBits 105 = .ok (.iload 7, 2) := by decide +kernel
theorem dX0_writeBits_107 : decode cX0_writeBits 107 = .ok (.isub, 1) := by decide +kernel
theorem dX0_writeBits_108 : decode cX0_writeBits 108 = .ok (.ishl, 1) := by decide +kernel
theorem dX0_writeBits_109 : decode cX0_writeBits 109 = .ok (.ior, 1) := by decide +kernel
theorem dX0_writeBits_110 : decode cX0_writeBits 110 = .ok (.iastore, 1) := by decide +kernel
theorem dX0_writeBits_111 : decode cX0_writeBits 111 = .ok (.aload_n 0, 1) := by decide +kernel
theorem dX0_writeBits_112 : decode cX0_writeBits 112 = .ok (.dup, 1) := by decide +kernel
theorem dX0_writeBits_113 : decode cX0_writeBits 113 = .ok (.getfield 30, 3) := by decide +kernel
theorem dX0_writeBits_116 : decode cX0_writeBits 116 = .ok (.iload 7, 2) := by decide +kernel
theorem dX0_writeBits_118 : decode cX0_writeBits 118 = .ok (.iadd, 1) := by decide +kernel
theorem dX0_writeBits_119 : decode cX0_writeBits 119 = .ok (.putfield 30, 3) := by decide +kernel
theorem dX0_writeBits_122 : decode cX0_writeBits 122 = .ok (.iload 4, 2) := by decide +kernel
theorem dX0_writeBits_124 : decode cX0_writeBits 124 = .ok (.iload 7, 2) := by decide +kernel
theorem dX0_writeBits_126 : decode cX0_writeBits 126 = .ok (.isub, 1) := by decide +kernel
theorem dX0_writeBits_127 : decode cX0_writeBits 127 = .ok (.istore 4, 2) := by decide +kernel
theorem dX0_writeBits_129 : decode cX0_writeBits 129 = .ok (.goto (-126), 3) := by decide +kernel
theorem dX0_writeBits_132 : decode cX0_writeBits 132 = .ok (.return_, 1) := by decide +kernel
theorem dX0_close_0 : decode cX0_close 0 = .ok (.aload_n 0, 1) := by decide +kernel
theorem dX0_close_1 : decode cX0_close 1 = .ok (.getfield 23, 3) := by decide +kernel
theorem dX0_close_4 : decode cX0_close 4 = .ok (.sipush 200, 3) := by decide +kernel
theorem dX0_close_7 : decode cX0_close 7 = .ok (.if_icmp .ge 30, 3) := by decide +kernel
theorem dX0_close_10 : decode cX0_close 10 = .ok (.aload_n 0, 1) := by decide +kernel
theorem dX0_close_11 : decode cX0_close 11 = .ok (.getfield 9, 3) := by decide +kernel
theorem dX0_close_14 : decode cX0_close 14 = .ok (.aload_n 0, 1) := by decide +kernel
theorem dX0_close_15 : decode cX0_close 15 = .ok (.getfield 23, 3) := by decide +kernel
theorem dX0_close_18 : decode cX0_close 18 = .ok (.aload_n 0, 1) := by decide +kernel
theorem dX0_close_19 : decode cX0_close 19 = .ok (.aload_n 0, 1) := by decide +kernel
theorem dX0_close_20 : decode cX0_close 20 = .ok (.getfield 23, 3) := by decide +kernel
theorem dX0_close_23 : decode cX0_close 23 = .ok (.invokevirtual 96, 3) := by decide +kernel
theorem dX0_close_26 : decode cX0_close 26 = .ok (.iastore, 1) := by decide +kernel
theorem dX0_close_27 : decode cX0_close 27 = .ok (.aload_n 0, 1) := by decide +kernel
theorem dX0_close_28 : decode cX0_close 28 = .ok (.dup, 1) := by decide +kernel
theorem dX0_close_29 : decode cX0_close 29 = .ok (.getfield 23, 3) := by decide +kernel
theorem dX0_close_32 : decode cX0_close 32 = .ok (.iconst 1, 1) := by decide +kernel
theorem dX0_close_33 : decode cX0_close 33 = .ok (.iadd, 1) := by decide +kernel
theorem dX0_close_34 : decode cX0_close 34 = .ok (.putfield 23, 3) := by decide +kernel
theorem dX0_close_37 : decode cX0_close 37 = .ok (.aload_n 0, 1) := by decide +kernel
theorem dX0_close_38 : decode cX0_close 38 = .ok (.iconst 1, 1) := by decide +kernel
theorem dX0_close_39 : decode cX0_close 39 = .ok (.putfield 42, 3) := by decide +kernel
theorem dX0_close_42 : decode cX0_close 42 = .ok (.return_, 1) := by decide +kernel
theorem dX0_checkOf_0 : decode cX0_checkOf 0 = .ok (.bipush 7, 2) := by decide +kernel
theorem dX0_checkOf_2 : decode cX0_checkOf 2 = .ok (.istore_n 2, 1) := by decide +kernel
theorem dX0_checkOf_3 : decode cX0_checkOf 3 = .ok (.iconst 0, 1) := by decide +kernel
theorem dX0_checkOf_4 : decode cX0_checkOf 4 = .ok (.istore_n 3, 1) := by decide +kernel
theorem dX0_checkOf_5 : decode cX0_checkOf 5 = .ok (.iload_n 3, 1) := by decide +kernel
theorem dX0_checkOf_6 : decode cX0_checkOf 6 = .ok (.iload_n 1, 1) := by decide +kernel
theorem dX0_checkOf_7 : decode cX0_checkOf 7 = .ok (.if_icmp .ge 25, 3) := by decide +kernel
theorem dX0_checkOf_10 : decode cX0_checkOf 10 = .ok (.iload_n 2, 1) := by decide +kernel
theorem dX0_checkOf_11 : decode cX0_checkOf 11 = .ok (.bipush 31, 2) := by decide +kernel
theorem dX0_checkOf_13 : decode cX0_checkOf 13 = .ok (.imul, 1) := by decide +kernel
theorem dX0_checkOf_14 : decode cX0_checkOf 14 = .ok (.aload_n 0, 1) := by decide +kernel
theorem dX0_checkOf_15 : decode cX0_checkOf 15 = .ok (.getfield 9, 3) := by decide +kernel
theorem dX0_checkOf_18 : decode cX0_checkOf 18 = .ok (.iload_n 3, 1) := by decide +kernel
theorem dX0_checkOf_19 : decode cX0_checkOf 19 = .ok (.iaload, 1) := by decide +kernel
theorem dX0_checkOf_20 : decode cX0_checkOf 20 = .ok (.iadd, 1) := by decide +kernel
theorem dX0_checkOf_21 : decode cX0_checkOf 21 = .ok (.sipush 251, 3) := by decide +kernel
theorem dX0_checkOf_24 : decode cX0_checkOf 24 = .ok (.irem, 1) := by decide +kernel
theorem dX0_checkOf_25 : decode cX0_checkOf 25 = .ok (.istore_n 2, 1) := by decide +kernel
theorem dX0_checkOf_26 : decode cX0_checkOf 26 = .ok (.iinc 3 1, 3) := by decide +kernel
theorem dX0_checkOf_29 : decode cX0_checkOf 29 = .ok (.goto (-24), 3) := by decide +kernel
theorem dX0_checkOf_32 : decode cX0_checkOf 32 = .ok (.iload_n 2, 1) := by decide +kernel
theorem dX0_checkOf_33 : decode cX0_checkOf 33 = .ok (.ireturn, 1) := by decide +kernel
theorem dX0_settle_0 : decode cX0_settle 0 = .ok (.aload_n 0, 1) := by decide +kernel
theorem dX0_settle_1 : decode cX0_settle 1 = .ok (.iload_n 1, 1) := by decide +kernel
theorem dX0_settle_2 : decode cX0_settle 2 = .ok (.putfield 46, 3) := by decide +kernel
theorem dX0_settle_5 : decode cX0_settle 5 = .ok (.aload_n 0, 1) := by decide +kernel
theorem dX0_settle_6 : decode cX0_settle 6 = .ok (.aload_n 2, 1) := by decide +kernel
theorem dX0_settle_7 : decode cX0_settle 7 = .ok (.getfield 99, 3) := by decide +kernel
theorem dX0_settle_10 : decode cX0_settle 10 = .ok (.putfield 15, 3) := by decide +kernel
theorem dX0_settle_13 : decode cX0_settle 13 = .ok (.iload_n 1, 1) := by decide +kernel
theorem dX0_settle_14 : decode cX0_settle 14 = .ok (.ifCond .ne 19, 3) := by decide +kernel
theorem dX0_settle_17 : decode cX0_settle 17 = .ok (.aload_n 0, 1) := by decide +kernel
theorem dX0_settle_18 : decode cX0_settle 18 = .ok (.aload_n 2, 1) := by decide +kernel
theorem dX0_settle_19 : decode cX0_settle 19 = .ok (.getfield 102, 3) := by decide +kernel
theorem dX0_settle_22 : decode cX0_settle 22 = .ok (.putfield 33, 3) := by decide +kernel
theorem dX0_settle_25 : decode cX0_settle 25 = .ok (.aload_n 0, 1) := by decide +kernel
theorem dX0_settle_26 : decode cX0_settle 26 = .ok (.aload_n 2, 1) := by decide +kernel
theorem dX0_settle_27 : decode cX0_settle 27 = .ok (.getfield 103, 3) := by decide +kernel
theorem dX0_settle_30 : decode cX0_settle 30 = .ok (.putfield 30, 3) := by decide +kernel
theorem dX0_settle_33 : decode cX0_settle 33 = .ok (.return_, 1) := by decide +kernel
theorem dX0_touches_0 : decode cX0_touches 0 = .ok (.aload_n 0, 1) := by decide +kernel
theorem dX0_touches_1 : decode cX0_touches 1 = .ok (.getfield 46, 3) := by decide +kernel
theorem dX0_touches_4 : decode cX0_touches 4 = .ok (.ifCond .ne 23, 3) := by decide +kernel
theorem dX0_touches_7 : decode cX0_touches 7 = .ok (.aload_n 0, 1) := by decide +kernel
theorem dX0_touches_8 : decode cX0_touches 8 = .ok (.getfield 36, 3) := by decide +kernel
theorem dX0_touches_11 : decode cX0_touches 11 = .ok (.iload_n 2, 1) := by decide +kernel
theorem dX0_touches_12 : decode cX0_touches 12 = .ok (.if_icmp .gt 15, 3) := by decide +kernel
theorem dX0_touches_15 : decode cX0_touches 15 = .ok (.aload_n 0, 1) := by decide +kernel
theorem dX0_touches_16 : decode cX0_touches 16 = .ok (.getfield 39, 3) := by decide +kernel
theorem dX0_touches_19 : decode cX0_touches 19 = .ok (.iload_n 1, 1) := by decide +kernel
theorem dX0_touches_20 : decode cX0_touches 20 = .ok (.if_icmp .lt 7, 3) := by decide +kernel
theorem dX0_touches_23 : decode cX0_touches 23 = .ok (.iconst 1, 1) := by decide +kernel
theorem dX0_touches_24 : decode cX0_touches 24 = .ok (.goto 4, 3) := by decide +kernel
theorem dX0_touches_27 : decode cX0_touches 27 = .ok (.iconst 0, 1) := by decide +kernel
theorem dX0_touches_28 : decode cX0_touches 28 = .ok (.ireturn, 1) := by decide +kernel
theorem dX0_become_0 : decode cX0_become 0 = .ok (.aload_n 1, 1) := by decide +kernel
theorem dX0_become_1 : decode cX0_become 1 = .ok (.getfield 9, 3) := by decide +kernel
theorem dX0_become_4 : decode cX0_become 4 = .ok (.iconst 0, 1) := by decide +kernel
theorem dX0_become_5 : decode cX0_become 5 = .ok (.aload_n 0, 1) := by decide +kernel
theorem dX0_become_6 : decode cX0_become 6 = .ok (.getfield 9, 3) := by decide +kernel
theorem dX0_become_9 : decode cX0_become 9 = .ok (.iconst 0, 1) := by decide +kernel
theorem dX0_become_10 : decode cX0_become 10 = .ok (.aload_n 1, 1) := by decide +kernel
theorem dX0_become_11 : decode cX0_become 11 = .ok (.getfield 23, 3) := by decide +kernel
theorem dX0_become_14 : decode cX0_become 14 = .ok (.invokestatic 104, 3) := by decide +kernel
theorem dX0_become_17 : decode cX0_become 17 = .ok (.aload_n 0, 1) := by decide +kernel
theorem dX0_become_18 : decode cX0_become 18 = .ok (.aload_n 1, 1) := by decide +kernel
theorem dX0_become_19 : decode cX0_become 19 = .ok (.getfield 23, 3) := by decide +kernel
theorem dX0_become_22 : decode cX0_become 22 = .ok (.putfield 23, 3) := by decide +kernel
theorem dX0_become_25 : decode cX0_become 25 = .ok (.aload_n 0, 1) := by decide +kernel
theorem dX0_become_26 : decode cX0_become 26 = .ok (.aload_n 1, 1) := by decide +kernel
theorem dX0_become_27 : decode cX0_become 27 = .ok (.getfield 30, 3) := by decide +kernel
theorem dX0_become_30 : decode cX0_become 30 = .ok (.putfield 30, 3) := by decide +kernel
theorem dX0_become_33 : decode cX0_become 33 = .ok (.aload_n 0, 1) := by decide +kernel
theorem dX0_become_34 : decode cX0_become 34 = .ok (.aload_n 1, 1) := by decide +kernel
theorem dX0_become_35 : decode cX0_become 35 = .ok (.getfield 33, 3) := by decide +kernel
theorem dX0_become_38 : decode cX0_become 38 = .ok (.putfield 33, 3) := by decide +kernel
theorem dX0_become_41 : decode cX0_become 41 = .ok (.aload_n 0, 1) := by decide +kernel
theorem dX0_become_42 : decode cX0_become 42 = .ok (.aload_n 1, 1) := by decide +kernel
theorem dX0_become_43 : decode cX0_become 43 = .ok (.getfield 36, 3) := by decide +kernel
theorem dX0_become_46 : decode cX0_become 46 = .ok (.putfield 36, 3) := by decide +kernel
theorem dX0_become_49 : decode cX0_become 49 = .ok (.aload_n 0, 1) := by decide +kernel
theorem dX0_become_50 : decode cX0_become 50 = .ok (.aload_n 1, 1) := by decide +kernel
theorem dX0_become_51 : decode cX0_become 51 = .ok (.getfield 39, 3) := by decide +kernel
theorem dX0_become_54 : decode cX0_become 54 = .ok (.putfield 39, 3) := by decide +kernel
theorem dX0_become_57 : decode cX0_become 57 = .ok (.aload_n 0, 1) := by decide +kernel
theorem dX0_become_58 : decode cX0_become 58 = .ok (.aload_n 1, 1) := by decide +kernel
theorem dX0_become_59 : decode cX0_become 59 = .ok (.getfield 42, 3) := by decide +kernel
theorem dX0_become_62 : decode cX0_become 62 = .ok (.putfield 42, 3) := by decide +kernel
theorem dX0_become_65 : decode cX0_become 65 = .ok (.aload_n 0, 1) := by decide +kernel
theorem dX0_become_66 : decode cX0_become 66 = .ok (.aload_n 1, 1) := by decide +kernel
theorem dX0_become_67 : decode cX0_become 67 = .ok (.getfield 46, 3) := by decide +kernel
theorem dX0_become_70 : decode cX0_become 70 = .ok (.putfield 46, 3) := by decide +kernel
theorem dX0_become_73 : decode cX0_become 73 = .ok (.aload_n 0, 1) := by decide +kernel
theorem dX0_become_74 : decode cX0_become 74 = .ok (.aload_n 1, 1) := by decide +kernel
theorem dX0_become_75 : decode cX0_become 75 = .ok (.getfield 15, 3) := by decide +kernel
theorem dX0_become_78 : decode cX0_become 78 = .ok (.putfield 15, 3) := by decide +kernel
theorem dX0_become_81 : decode cX0_become 81 = .ok (.return_, 1) := by decide +kernel
theorem dX1_init_0 : decode cX1_init 0 = .ok (.aload_n 0, 1) := by decide +kernel
theorem dX1_init_1 : decode cX1_init 1 = .ok (.invokespecial 3, 3) := by decide +kernel
theorem dX1_init_4 : decode cX1_init 4 = .ok (.aload_n 0, 1) := by decide +kernel
theorem dX1_init_5 : decode cX1_init 5 = .ok (.iconst (-1), 1) := by decide +kernel
theorem dX1_init_6 : decode cX1_init 6 = .ok (.putfield 9, 3) := by decide +kernel
theorem dX1_init_9 : decode cX1_init 9 = .ok (.return_, 1) := by decide +kernel
theorem dX1_begin_0 : decode cX1_begin 0 = .ok (.aload_n 0, 1) := by decide +kernel
theorem dX1_begin_1 : decode cX1_begin 1 = .ok (.iload_n 1, 1) := by decide +kernel
theorem dX1_begin_2 : decode cX1_begin 2 = .ok (.putfield 15, 3) := by decide +kernel
theorem dX1_begin_5 : decode cX1_begin 5 = .ok (.aload_n 0, 1) := by decide +kernel
theorem dX1_begin_6 : decode cX1_begin 6 = .ok (.lload_n 2, 1) := by decide +kernel
theorem dX1_begin_7 : decode cX1_begin 7 = .ok (.putfield 18, 3) := by decide +kernel
theorem dX1_begin_10 : decode cX1_begin 10 = .ok (.aload_n 0, 1) := by decide +kernel
theorem dX1_begin_11 : decode cX1_begin 11 = .ok (.iconst 0, 1) := by decide +kernel
theorem dX1_begin_12 : decode cX1_begin 12 = .ok (.putfield 22, 3) := by decide +kernel
theorem dX1_begin_15 : decode cX1_begin 15 = .ok (.aload_n 0, 1) := by decide +kernel
theorem dX1_begin_16 : decode cX1_begin 16 = .ok (.iconst (-1), 1) := by decide +kernel
theorem dX1_begin_17 : decode cX1_begin 17 = .ok (.putfield 9, 3) := by decide +kernel
theorem dX1_begin_20 : decode cX1_begin 20 = .ok (.aload_n 0, 1) := by decide +kernel
theorem dX1_begin_21 : decode cX1_begin 21 = .ok (.iconst 0, 1) := by decide +kernel
theorem dX1_begin_22 : decode cX1_begin 22 = .ok (.putfield 25, 3) := by decide +kernel
theorem dX1_begin_25 : decode cX1_begin 25 = .ok (.return_, 1) := by decide +kernel
theorem dX1_weigh_0 : decode cX1_weigh 0 = .ok (.aload_n 0, 1) := by decide +kernel
theorem dX1_weigh_1 : decode cX1_weigh 1 = .ok (.iload_n 1, 1) := by decide +kernel
theorem dX1_weigh_2 : decode cX1_weigh 2 = .ok (.putfield 28, 3) := by decide +kernel
theorem dX1_weigh_5 : decode cX1_weigh 5 = .ok (.aload_n 0, 1) := by decide +kernel
theorem dX1_weigh_6 : decode cX1_weigh 6 = .ok (.lload_n 2, 1) := by decide +kernel
theorem dX1_weigh_7 : decode cX1_weigh 7 = .ok (.putfield 31, 3) := by decide +kernel
theorem dX1_weigh_10 : decode cX1_weigh 10 = .ok (.aload_n 0, 1) := by decide +kernel
theorem dX1_weigh_11 : decode cX1_weigh 11 = .ok (.iload_n 1, 1) := by decide +kernel
theorem dX1_weigh_12 : decode cX1_weigh 12 = .ok (.aload_n 0, 1) := by decide +kernel
theorem dX1_weigh_13 : decode cX1_weigh 13 = .ok (.getfield 15, 3) := by decide +kernel
theorem dX1_weigh_16 : decode cX1_weigh 16 = .ok (.isub, 1) := by decide +kernel
theorem dX1_weigh_17 : decode cX1_weigh 17 = .ok (.aload_n 0, 1) := by decide +kernel
theorem dX1_weigh_18 : decode cX1_weigh 18 = .ok (.getfield 22, 3) := by decide +kernel
theorem dX1_weigh_21 : decode cX1_weigh 21 = .ok (.isub, 1) := by decide +kernel
theorem dX1_weigh_22 : decode cX1_weigh 22 = .ok (.putfield 34, 3) := by decide +kernel
theorem dX1_weigh_25 : decode cX1_weigh 25 = .ok (.aload_n 0, 1) := by decide +kernel
theorem dX1_weigh_26 : decode cX1_weigh 26 = .ok (.aload_n 0, 1) := by decide +kernel
theorem dX1_weigh_27 : decode cX1_weigh 27 = .ok (.getfield 34, 3) := by decide +kernel
theorem dX1_weigh_30 : decode cX1_weigh 30 = .ok (.invokestatic 37, 3) := by decide +kernel
theorem dX1_weigh_33 : decode cX1_weigh 33 = .ok (.putfield 41, 3) := by decide +kernel
theorem dX1_weigh_36 : decode cX1_weigh 36 = .ok (.aload_n 0, 1) := by decide +kernel
theorem dX1_weigh_37 : decode cX1_weigh 37 = .ok (.aload_n 0, 1) := by decide +kernel
theorem dX1_weigh_38 : decode cX1_weigh 38 = .ok (.getfield 18, 3) := by decide +kernel
theorem dX1_weigh_41 : decode cX1_weigh 41 = .ok (.lload_n 2, 1) := by decide +kernel
theorem dX1_weigh_42 : decode cX1_weigh 42 = .ok (.lxor, 1) := by decide +kernel
theorem dX1_weigh_43 : decode cX1_weigh 43 = .ok (.putfield 44, 3) := by decide +kernel
theorem dX1_weigh_46 : decode cX1_weigh 46 = .ok (.aload_n 0, 1) := by decide +kernel
theorem dX1_weigh_47 : decode cX1_weigh 47 = .ok (.getfield 44, 3) := by decide +kernel
theorem dX1_weigh_50 : decode cX1_weigh 50 = .ok (.invokestatic 47, 3) := by decide +kernel
theorem dX1_weigh_53 : decode cX1_weigh 53 = .ok (.istore 4, 2) := by decide +kernel
theorem dX1_weigh_55 : decode cX1_weigh 55 = .ok (.aload_n 0, 1) := by decide +kernel
theorem dX1_weigh_56 : decode cX1_weigh 56 = .ok (.getfield 44, 3) := by decide +kernel
theorem dX1_weigh_59 : decode cX1_weigh 59 = .ok (.invokestatic 53, 3) := by decide +kernel
theorem dX1_weigh_62 : decode cX1_weigh 62 = .ok (.istore 5, 2) := by decide +kernel
theorem dX1_weigh_64 : decode cX1_weigh 64 = .ok (.aload_n 0, 1) := by decide +kernel
theorem dX1_weigh_65 : decode cX1_weigh 65 = .ok (.iload 4, 2) := by decide +kernel
theorem dX1_weigh_67 : decode cX1_weigh 67 = .ok (.bipush 31, 2) := by decide +kernel
theorem dX1_weigh_69 : decode cX1_weigh 69 = .ok (.invokestatic 56, 3) := by decide +kernel
theorem dX1_weigh_72 : decode cX1_weigh 72 = .ok (.putfield 62, 3) := by decide +kernel
theorem dX1_weigh_75 : decode cX1_weigh 75 = .ok (.aload_n 0, 1) := by decide +kernel
theorem dX1_weigh_76 : decode cX1_weigh 76 = .ok (.iload 5, 2) := by decide +kernel
theorem dX1_weigh_78 : decode cX1_weigh 78 = .ok (.putfield 65, 3) := by decide +kernel
theorem dX1_weigh_81 : decode cX1_weigh 81 = .ok (.aload_n 0, 1) := by decide +kernel
theorem dX1_weigh_82 : decode cX1_weigh 82 = .ok (.getstatic 68, 3) := by decide +kernel
theorem dX1_weigh_85 : decode cX1_weigh 85 = .ok (.aload_n 0, 1) := by decide +kernel
theorem dX1_weigh_86 : decode cX1_weigh 86 = .ok (.getfield 41, 3) := by decide +kernel
theorem dX1_weigh_89 : decode cX1_weigh 89 = .ok (.iaload, 1) := by decide +kernel
theorem dX1_weigh_90 : decode cX1_weigh 90 = .ok (.getstatic 72, 3) := by decide +kernel
theorem dX1_weigh_93 : decode cX1_weigh 93 = .ok (.aload_n 0, 1) := by decide +kernel
theorem dX1_weigh_94 : decode cX1_weigh 94 = .ok (.getfield 41, 3) := by decide +kernel
theorem dX1_weigh_97 : decode cX1_weigh 97 = .ok (.iaload, 1) := by decide +kernel
theorem dX1_weigh_98 : decode cX1_weigh 98 = .ok (.iadd, 1) := by decide +kernel
theorem dX1_weigh_99 : decode cX1_weigh 99 = .ok (.putfield 75, 3) := by decide +kernel
theorem dX1_weigh_102 : decode cX1_weigh 102 = .ok (.aload_n 0, 1) := by decide +kernel
theorem dX1_weigh_103 : decode cX1_weigh 103 = .ok (.getfield 44, 3) := by decide +kernel
theorem dX1_weigh_106 : decode cX1_weigh 106 = .ok (.lconst 0, 1) := by decide +kernel
theorem dX1_weigh_107 : decode cX1_weigh 107 = .ok (.lcmp, 1) := by decide +kernel
theorem dX1_weigh_108 : decode cX1_weigh 108 = .ok (.ifCond .ne 21, 3) := by decide +kernel
theorem dX1_weigh_111 : decode cX1_weigh 111 = .ok (.aload_n 0, 1) := by decide +kernel
theorem dX1_weigh_112 : decode cX1_weigh 112 = .ok (.iconst 5, 1) := by decide +kernel
theorem dX1_weigh_113 : decode cX1_weigh 113 = .ok (.putfield 78, 3) := by decide +kernel
theorem dX1_weigh_116 : decode cX1_weigh 116 = .ok (.aload_n 0, 1) := by decide +kernel
theorem dX1_weigh_117 : decode cX1_weigh 117 = .ok (.dup, 1) := by decide +kernel
theorem dX1_weigh_118 : decode cX1_weigh 118 = .ok (.getfield 75, 3) := by decide +kernel
theorem dX1_weigh_121 : decode cX1_weigh 121 = .ok (.iconst 1, 1) := by decide +kernel
theorem dX1_weigh_122 : decode cX1_weigh 122 = .ok (.iadd, 1) := by decide +kernel
theorem dX1_weigh_123 : decode cX1_weigh 123 = .ok (.putfield 75, 3) := by decide +kernel
theorem dX1_weigh_126 : decode cX1_weigh 126 = .ok (.goto 71, 3) := by decide +kernel
theorem dX1_weigh_129 : decode cX1_weigh 129 = .ok (.aload_n 0, 1) := by decide +kernel
theorem dX1_weigh_130 : decode cX1_weigh 130 = .ok (.iload 4, 2) := by decide +kernel
theorem dX1_weigh_132 : decode cX1_weigh 132 = .ok (.iload 5, 2) := by decide +kernel
theorem dX1_weigh_134 : decode cX1_weigh 134 = .ok (.invokevirtual 81, 3) := by decide +kernel
theorem dX1_weigh_137 : decode cX1_weigh 137 = .ok (.ifCond .eq 33, 3) := by decide +kernel
theorem dX1_weigh_140 : decode cX1_weigh 140 = .ok (.aload_n 0, 1) := by decide +kernel
theorem dX1_weigh_141 : decode cX1_weigh 141 = .ok (.bipush 6, 2) := by decide +kernel
theorem dX1_weigh_143 : decode cX1_weigh 143 = .ok (.putfield 78, 3) := by decide +kernel
theorem dX1_weigh_146 : decode cX1_weigh 146 = .ok (.aload_n 0, 1) := by decide +kernel
theorem dX1_weigh_147 : decode cX1_weigh 147 = .ok (.dup, 1) := by decide +kernel
theorem dX1_weigh_148 : decode cX1_weigh 148 = .ok (.getfield 75, 3) := by decide +kernel
theorem dX1_weigh_151 : decode cX1_weigh 151 = .ok (.bipush 66, 2) := by decide +kernel
theorem dX1_weigh_153 : decode cX1_weigh 153 = .ok (.aload_n 0, 1) := by decide +kernel
theorem dX1_weigh_154 : decode cX1_weigh 154 = .ok (.getfield 9, 3) := by decide +kernel
theorem dX1_weigh_157 : decode cX1_weigh 157 = .ok (.isub, 1) := by decide +kernel
theorem dX1_weigh_158 : decode cX1_weigh 158 = .ok (.aload_n 0, 1) := by decide +kernel
theorem dX1_weigh_159 : decode cX1_weigh 159 = .ok (.getfield 25, 3) := by decide +kernel
theorem dX1_weigh_162 : decode cX1_weigh 162 = .ok (.isub, 1) := by decide +kernel
theorem dX1_weigh_163 : decode cX1_weigh 163 = .ok (.iadd, 1) := by decide +kernel
theorem dX1_weigh_164 : decode cX1_weigh 164 = .ok (.putfield 75, 3) := by decide +kernel
theorem dX1_weigh_167 : decode cX1_weigh 167 = .ok (.goto 30, 3) := by decide +kernel
theorem dX1_weigh_170 : decode cX1_weigh 170 = .ok (.aload_n 0, 1) := by decide +kernel
theorem dX1_weigh_171 : decode cX1_weigh 171 = .ok (.bipush 7, 2) := by decide +kernel
theorem dX1_weigh_173 : decode cX1_weigh 173 = .ok (.putfield 78, 3) := by decide +kernel
theorem dX1_weigh_176 : decode cX1_weigh 176 = .ok (.aload_n 0, 1) := by decide +kernel
theorem dX1_weigh_177 : decode cX1_weigh 177 = .ok (.dup, 1) := by decide +kernel
theorem dX1_weigh_178 : decode cX1_weigh 178 = .ok (.getfield 75, 3) := by decide +kernel
theorem dX1_weigh_181 : decode cX1_weigh 181 = .ok (.bipush 77, 2) := by decide +kernel
theorem dX1_weigh_183 : decode cX1_weigh 183 = .ok (.aload_n 0, 1) := by decide +kernel
theorem dX1_weigh_184 : decode cX1_weigh 184 = .ok (.getfield 62, 3) := by decide +kernel
theorem dX1_weigh_187 : decode cX1_weigh 187 = .ok (.isub, 1) := by decide +kernel
theorem dX1_weigh_188 : decode cX1_weigh 188 = .ok (.aload_n 0, 1) := by decide +kernel
theorem dX1_weigh_189 : decode cX1_weigh 189 = .ok (.getfield 65, 3) := by decide +kernel
theorem dX1_weigh_192 : decode cX1_weigh 192 = .ok (.isub, 1) := by decide +kernel
theorem dX1_weigh_193 : decode cX1_weigh 193 = .ok (.iadd, 1) := by decide +kernel
theorem dX1_weigh_194 : decode cX1_weigh 194 = .ok (.putfield 75, 3) := by decide +kernel
theorem dX1_weigh_197 : decode cX1_weigh 197 = .ok (.return_, 1) := by decide +kernel
theorem dX1_isInWindow_0 : decode cX1_isInWindow 0 = .ok (.aload_n 0, 1) := by decide +kernel
theorem dX1_isInWindow_1 : decode cX1_isInWindow 1 = .ok (.getfield 9, 3) := by decide +kernel
theorem dX1_isInWindow_4 : decode cX1_isInWindow 4 = .ok (.iconst (-1), 1) := by decide +kernel
theorem dX1_isInWindow_5 : decode cX1_isInWindow 5 = .ok (.if_icmp .eq 41, 3) := by decide +kernel
theorem dX1_isInWindow_8 : decode cX1_isInWindow 8 = .ok (.iload_n 1, 1) := by decide +kernel
theorem dX1_isInWindow_9 : decode cX1_isInWindow 9 = .ok (.aload_n 0, 1) := by decide +kernel
theorem dX1_isInWindow_10 : decode cX1_isInWindow 10 = .ok (.getfield 9, 3) := by decide +kernel
theorem dX1_isInWindow_13 : decode cX1_isInWindow 13 = .ok (.if_icmp .lt 33, 3) := by decide +kernel
theorem dX1_isInWindow_16 : decode cX1_isInWindow 16 = .ok (.iload_n 2, 1) := by decide +kernel
theorem dX1_isInWindow_17 : decode cX1_isInWindow 17 = .ok (.aload_n 0, 1) := by decide +kernel
theorem dX1_isInWindow_18 : decode cX1_isInWindow 18 = .ok (.getfield 25, 3) := by decide +kernel
theorem dX1_isInWindow_21 : decode cX1_isInWindow 21 = .ok (.if_icmp .lt 25, 3) := by decide +kernel
theorem dX1_isInWindow_24 : decode cX1_isInWindow 24 = .ok (.iload_n 1, 1) := by decide +kernel
theorem dX1_isInWindow_25 : decode cX1_isInWindow 25 = .ok (.iload_n 2, 1) := by decide +kernel
theorem dX1_isInWindow_26 : decode cX1_isInWindow 26 = .ok (.iadd, 1) := by decide +kernel
theorem dX1_isInWindow_27 : decode cX1_isInWindow 27 = .ok (.aload_n 0, 1) := by decide +kernel
theorem dX1_isInWindow_28 : decode cX1_isInWindow 28 = .ok (.getfield 9, 3) := by decide +kernel
theorem dX1_isInWindow_31 : decode cX1_isInWindow 31 = .ok (.isub, 1) := by decide +kernel
theorem dX1_isInWindow_32 : decode cX1_isInWindow 32 = .ok (.aload_n 0, 1) := by decide +kernel
theorem dX1_isInWindow_33 : decode cX1_isInWindow 33 = .ok (.getfield 25, 3) := by decide +kernel
theorem dX1_isInWindow_36 : decode cX1_isInWindow 36 = .ok (.isub, 1) := by decide +kernel
theorem dX1_isInWindow_37 : decode cX1_isInWindow 37 = .ok (.bipush 11, 2) := by decide +kernel
theorem dX1_isInWindow_39 : decode cX1_isInWindow 39 = .ok (.if_icmp .gt 7, 3) := by decide +kernel
theorem dX1_isInWindow_42 : decode cX1_isInWindow 42 = .ok (.iconst 1, 1) := by decide +kernel
theorem dX1_isInWindow_43 : decode cX1_isInWindow 43 = .ok (.goto 4, 3) := by decide +kernel
theorem dX1_isInWindow_46 : decode cX1_isInWindow 46 = .ok (.iconst 0, 1) := by decide +kernel
theorem dX1_isInWindow_47 : decode cX1_isInWindow 47 = .ok (.ireturn, 1) := by decide +kernel
theorem dX1_kindOf_0 : decode cX1_kindOf 0 = .ok (.iload_n 0, 1) := by decide +kernel
theorem dX1_kindOf_1 : decode cX1_kindOf 1 = .ok (.ifCond .ne 5, 3) := by decide +kernel
theorem dX1_kindOf_4 : decode cX1_kindOf 4 = .ok (.iconst 0, 1) := by decide +kernel
theorem dX1_kindOf_5 : decode cX1_kindOf 5 = .ok (.ireturn, 1) := by decide +kernel
theorem dX1_kindOf_6 : decode cX1_kindOf 6 = .ok (.iload_n 0, 1) := by decide +kernel
theorem dX1_kindOf_7 : decode cX1_kindOf 7 = .ok (.bipush (-63), 2) := by decide +kernel
theorem dX1_kindOf_9 : decode cX1_kindOf 9 = .ok (.if_icmp .lt 11, 3) := by decide +kernel
theorem dX1_kindOf_12 : decode cX1_kindOf 12 = .ok (.iload_n 0, 1) := by decide +kernel
theorem dX1_kindOf_13 : decode cX1_kindOf 13 = .ok (.bipush 64, 2) := by decide +kernel
theorem dX1_kindOf_15 : decode cX1_kindOf 15 = .ok (.if_icmp .gt 5, 3) := by decide +kernel
theorem dX1_kindOf_18 : decode cX1_kindOf 18 = .ok (.iconst 1, 1) := by decide +kernel
theorem dX1_kindOf_19 : decode cX1_kindOf 19 = .ok (.ireturn, 1) := by decide +kernel
theorem dX1_kindOf_20 : decode cX1_kindOf 20 = .ok (.iload_n 0, 1) := by decide +kernel
theorem dX1_kindOf_21 : decode cX1_kindOf 21 = .ok (.sipush (-255), 3) := by decide +kernel
theorem dX1_kindOf_24 : decode cX1_kindOf 24 = .ok (.if_icmp .lt 12, 3) := by decide +kernel
theorem dX1_kindOf_27 : decode cX1_kindOf 27 = .ok (.iload_n 0, 1) := by decide +kernel
theorem dX1_kindOf_28 : decode cX1_kindOf 28 = .ok (.sipush 256, 3) := by decide +kernel
theorem dX1_kindOf_31 : decode cX1_kindOf 31 = .ok (.if_icmp .gt 5, 3) := by decide +kernel
theorem dX1_kindOf_34 : decode cX1_kindOf 34 = .ok (.iconst 2, 1) := by decide +kernel
theorem dX1_kindOf_35 : decode cX1_kindOf 35 = .ok (.ireturn, 1) := by decide +kernel
theorem dX1_kindOf_36 : decode cX1_kindOf 36 = .ok (.iload_n 0, 1) := by decide +kernel
theorem dX1_kindOf_37 : decode cX1_kindOf 37 = .ok (.sipush (-2047), 3) := by decide +kernel
theorem dX1_kindOf_40 : decode cX1_kindOf 40 = .ok (.if_icmp .lt 14, 3) := by decide +kernel
theorem dX1_kindOf_43 : decode cX1_kindOf 43 = .ok (.iload_n 0, 1) := by decide +kernel
theorem dX1_kindOf_44 : decode cX1_kindOf 44 = .ok (.sipush 2048, 3) := by decide +kernel
theorem dX1_kindOf_47 : decode cX1_kindOf 47 = .ok (.if_icmp .gt 7, 3) := by decide +kernel
theorem dX1_kindOf_50 : decode cX1_kindOf 50 = .ok (.iconst 3, 1) := by decide +kernel
theorem dX1_kindOf_51 : decode cX1_kindOf 51 = .ok (.goto 4, 3) := by decide +kernel
theorem dX1_kindOf_54 : decode cX1_kindOf 54 = .ok (.iconst 4, 1) := by decide +kernel
theorem dX1_kindOf_55 : decode cX1_kindOf 55 = .ok (.ireturn, 1) := by decide +kernel
theorem dX1_step_0 : decode cX1_step 0 = .ok (.aload_n 0, 1) := by decide +kernel
theorem dX1_step_1 : decode cX1_step 1 = .ok (.aload_n 0, 1) := by decide +kernel
theorem dX1_step_2 : decode cX1_step 2 = .ok (.getfield 28, 3) := by decide +kernel
theorem dX1_step_5 : decode cX1_step 5 = .ok (.aload_n 0, 1) := by decide +kernel
theorem dX1_step_6 : decode cX1_step 6 = .ok (.getfield 15, 3) := by decide +kernel
theorem dX1_step_9 : decode cX1_step 9 = .ok (.isub, 1) := by decide +kernel
theorem dX1_step_10 : decode cX1_step 10 = .ok (.putfield 22, 3) := by decide +kernel
theorem dX1_step_13 : decode cX1_step 13 = .ok (.aload_n 0, 1) := by decide +kernel
theorem dX1_step_14 : decode cX1_step 14 = .ok (.aload_n 0, 1) := by decide +kernel
theorem dX1_step_15 : decode cX1_step 15 = .ok (.getfield 28, 3) := by decide +kernel
theorem dX1_step_18 : decode cX1_step 18 = .ok (.putfield 15, 3) := by decide +kernel
theorem dX1_step_21 : decode cX1_step 21 = .ok (.aload_n 0, 1) := by decide +kernel
theorem dX1_step_22 : decode cX1_step 22 = .ok (.aload_n 0, 1) := by decide +kernel
theorem dX1_step_23 : decode cX1_step 23 = .ok (.getfield 31, 3) := by decide +kernel
theorem dX1_step_26 : decode cX1_step 26 = .ok (.putfield 18, 3) := by decide +kernel
theorem dX1_step_29 : decode cX1_step 29 = .ok (.aload_n 0, 1) := by decide +kernel
theorem dX1_step_30 : decode cX1_step 30 = .ok (.getfield 78, 3) := by decide +kernel
theorem dX1_step_33 : decode cX1_step 33 = .ok (.bipush 7, 2) := by decide +kernel
theorem dX1_step_35 : decode cX1_step 35 = .ok (.if_icmp .ne 19, 3) := by decide +kernel
theorem dX1_step_38 : decode cX1_step 38 = .ok (.aload_n 0, 1) := by decide +kernel
theorem dX1_step_39 : decode cX1_step 39 = .ok (.aload_n 0, 1) := by decide +kernel
theorem dX1_step_40 : decode cX1_step 40 = .ok (.getfield 62, 3) := by decide +kernel
theorem dX1_step_43 : decode cX1_step 43 = .ok (.putfield 9, 3) := by decide +kernel
theorem dX1_step_46 : decode cX1_step 46 = .ok (.aload_n 0, 1) := by decide +kernel
theorem dX1_step_47 : decode cX1_step 47 = .ok (.aload_n 0, 1) := by decide +kernel
theorem dX1_step_48 : decode cX1_step 48 = .ok (.getfield 65, 3) := by decide +kernel
theorem dX1_step_51 : decode cX1_step 51 = .ok (.putfield 25, 3) := by decide +kernel
theorem dX1_step_54 : decode cX1_step 54 = .ok (.return_, 1) := by decide +kernel
theorem dX1_bytesBy_0 : decode cX1_bytesBy 0 = .ok (.iconst 0, 1) := by decide +kernel
theorem dX1_bytesBy_1 : decode cX1_bytesBy 1 = .ok (.istore_n 3, 1) := by decide +kernel
theorem dX1_bytesBy_2 : decode cX1_bytesBy 2 = .ok (.iconst 0, 1) := by decide +kernel
theorem dX1_bytesBy_3 : decode cX1_bytesBy 3 = .ok (.istore 4, 2) := by decide +kernel
theorem dX1_bytesBy_5 : decode cX1_bytesBy 5 = .ok (.iconst 0, 1) := by decide +kernel
theorem dX1_bytesBy_6 : decode cX1_bytesBy 6 = .ok (.istore 5, 2) := by decide +kernel
theorem dX1_bytesBy_8 : decode cX1_bytesBy 8 = .ok (.iconst 0, 1) := by decide +kernel
theorem dX1_bytesBy_9 : decode cX1_bytesBy 9 = .ok (.istore 6, 2) := by decide +kernel
theorem dX1_bytesBy_11 : decode cX1_bytesBy 11 = .ok (.iload 6, 2) := by decide +kernel
theorem dX1_bytesBy_13 : decode cX1_bytesBy 13 = .ok (.aload_n 1, 1) := by decide +kernel
theorem dX1_bytesBy_14 : decode cX1_bytesBy 14 = .ok (.getfield 85, 3) := by decide +kernel
theorem dX1_bytesBy_17 : decode cX1_bytesBy 17 = .ok (.if_icmp .ge 104, 3) := by decide +kernel
theorem dX1_bytesBy_20 : decode cX1_bytesBy 20 = .ok (.iload_n 3, 1) := by decide +kernel
theorem dX1_bytesBy_21 : decode cX1_bytesBy 21 = .ok (.ifCond .le 61, 3) := by decide +kernel
theorem dX1_bytesBy_24 : decode cX1_bytesBy 24 = .ok (.aload_n 0, 1) := by decide +kernel
theorem dX1_bytesBy_25 : decode cX1_bytesBy 25 = .ok (.aload_n 1, 1) := by decide +kernel
theorem dX1_bytesBy_26 : decode cX1_bytesBy 26 = .ok (.getfield 90, 3) := by decide +kernel
theorem dX1_bytesBy_29 : decode cX1_bytesBy 29 = .ok (.iload 6, 2) := by decide +kernel
theorem dX1_bytesBy_31 : decode cX1_bytesBy 31 = .ok (.iaload, 1) := by decide +kernel
theorem dX1_bytesBy_32 : decode cX1_bytesBy 32 = .ok (.aload_n 1, 1) := by decide +kernel
theorem dX1_bytesBy_33 : decode cX1_bytesBy 33 = .ok (.getfield 93, 3) := by decide +kernel
theorem dX1_bytesBy_36 : decode cX1_bytesBy 36 = .ok (.iload 6, 2) := by decide +kernel
theorem dX1_bytesBy_38 : decode cX1_bytesBy 38 = .ok (.laload, 1) := by decide +kernel
theorem dX1_bytesBy_39 : decode cX1_bytesBy 39 = .ok (.invokevirtual 97, 3) := by decide +kernel
theorem dX1_bytesBy_42 : decode cX1_bytesBy 42 = .ok (.iload 4, 2) := by decide +kernel
theorem dX1_bytesBy_44 : decode cX1_bytesBy 44 = .ok (.aload_n 0, 1) := by decide +kernel
theorem dX1_bytesBy_45 : decode cX1_bytesBy 45 = .ok (.getfield 75, 3) := by decide +kernel
theorem dX1_bytesBy_48 : decode cX1_bytesBy 48 = .ok (.iadd, 1) := by decide +kernel
theorem dX1_bytesBy_49 : decode cX1_bytesBy 49 = .ok (.invokestatic 101, 3) := by decide +kernel
theorem dX1_bytesBy_52 : decode cX1_bytesBy 52 = .ok (.iload_n 2, 1) := by decide +kernel
theorem dX1_bytesBy_53 : decode cX1_bytesBy 53 = .ok (.if_icmp .gt 19, 3) := by decide +kernel
theorem dX1_bytesBy_56 : decode cX1_bytesBy 56 = .ok (.iload 4, 2) := by decide +kernel
theorem dX1_bytesBy_58 : decode cX1_bytesBy 58 = .ok (.aload_n 0, 1) := by decide +kernel
theorem dX1_bytesBy_59 : decode cX1_bytesBy 59 = .ok (.getfield 75, 3) := by decide +kernel
theorem dX1_bytesBy_62 : decode cX1_bytesBy 62 = .ok (.iadd, 1) := by decide +kernel
theorem dX1_bytesBy_63 : decode cX1_bytesBy 63 = .ok (.istore 4, 2) := by decide +kernel
theorem dX1_bytesBy_65 : decode cX1_bytesBy 65 = .ok (.aload_n 0, 1) := by decide +kernel
theorem dX1_bytesBy_66 : decode cX1_bytesBy 66 = .ok (.invokevirtual 106, 3) := by decide +kernel
theorem dX1_bytesBy_69 : decode cX1_bytesBy 69 = .ok (.goto 46, 3) := by decide +kernel
theorem dX1_bytesBy_72 : decode cX1_bytesBy 72 = .ok (.iload 5, 2) := by decide +kernel
theorem dX1_bytesBy_74 : decode cX1_bytesBy 74 = .ok (.iload 4, 2) := by decide +kernel
theorem dX1_bytesBy_76 : decode cX1_bytesBy 76 = .ok (.invokestatic 101, 3) := by decide +kernel
theorem dX1_bytesBy_79 : decode cX1_bytesBy 79 = .ok (.iadd, 1) := by decide +kernel
theorem dX1_bytesBy_80 : decode cX1_bytesBy 80 = .ok (.istore 5, 2) := by decide +kernel
theorem dX1_bytesBy_82 : decode cX1_bytesBy 82 = .ok (.iload_n 3, 1) := by decide +kernel
theorem dX1_bytesBy_83 : decode cX1_bytesBy 83 = .ok (.bipush 16, 2) := by decide +kernel
theorem dX1_bytesBy_85 : decode cX1_bytesBy 85 = .ok (.if_icmp .lt 6, 3) := by decide +kernel
theorem dX1_bytesBy_88 : decode cX1_bytesBy 88 = .ok (.bipush (-4), 2) := by decide +kernel
theorem dX1_bytesBy_90 : decode cX1_bytesBy 90 = .ok (.ireturn, 1) := by decide +kernel
theorem dX1_bytesBy_91 : decode cX1_bytesBy 91 = .ok (.iinc 3 1, 3) := by decide +kernel
theorem dX1_bytesBy_94 : decode cX1_bytesBy 94 = .ok (.iconst 0, 1) := by decide +kernel
theorem dX1_bytesBy_95 : decode cX1_bytesBy 95 = .ok (.istore 4, 2) := by decide +kernel
theorem dX1_bytesBy_97 : decode cX1_bytesBy 97 = .ok (.aload_n 0, 1) := by decide +kernel
theorem dX1_bytesBy_98 : decode cX1_bytesBy 98 = .ok (.aload_n 1, 1) := by decide +kernel
theorem dX1_bytesBy_99 : decode cX1_bytesBy 99 = .ok (.getfield 90, 3) := by decide +kernel
theorem dX1_bytesBy_102 : decode cX1_bytesBy 102 = .ok (.iload 6, 2) := by decide +kernel
theorem dX1_bytesBy_104 : decode cX1_bytesBy 104 = .ok (.iaload, 1) := by decide +kernel
theorem dX1_bytesBy_105 : decode cX1_bytesBy 105 = .ok (.aload_n 1, 1) := by decide +kernel
theorem dX1_bytesBy_106 : decode cX1_bytesBy 106 = .ok (.getfield 93, 3) := by decide +kernel
theorem dX1_bytesBy_109 : decode cX1_bytesBy 109 = .ok (.iload 6, 2) := by decide +kernel
theorem dX1_bytesBy_111 : decode cX1_bytesBy 111 = .ok (.laload, 1) := by decide +kernel
theorem dX1_bytesBy_112 : decode cX1_bytesBy 112 = .ok (.invokevirtual 109, 3) := by decide +kernel
theorem dX1_bytesBy_115 : decode cX1_bytesBy 115 = .ok (.iinc 6 1, 3) := by decide +kernel
theorem dX1_bytesBy_118 : decode cX1_bytesBy 118 = .ok (.goto (-107), 3) := by decide +kernel
theorem dX1_bytesBy_121 : decode cX1_bytesBy 121 = .ok (.iload_n 3, 1) := by decide +kernel
theorem dX1_bytesBy_122 : decode cX1_bytesBy 122 = .ok (.ifCond .le 14, 3) := by decide +kernel
theorem dX1_bytesBy_125 : decode cX1_bytesBy 125 = .ok (.iload 5, 2) := by decide +kernel
theorem dX1_bytesBy_127 : decode cX1_bytesBy 127 = .ok (.iload 4, 2) := by decide +kernel
theorem dX1_bytesBy_129 : decode cX1_bytesBy 129 = .ok (.invokestatic 112, 3) := by decide +kernel
theorem dX1_bytesBy_132 : decode cX1_bytesBy 132 = .ok (.iadd, 1) := by decide +kernel
theorem dX1_bytesBy_133 : decode cX1_bytesBy 133 = .ok (.goto 4, 3) := by decide +kernel
theorem dX1_bytesBy_136 : decode cX1_bytesBy 136 = .ok (.iconst 0, 1) := by decide +kernel
theorem dX1_bytesBy_137 : decode cX1_bytesBy 137 = .ok (.ireturn, 1) := by decide +kernel
theorem dX1_become_0 : decode cX1_become 0 = .ok (.aload_n 0, 1) := by decide +kernel
theorem dX1_become_1 : decode cX1_become 1 = .ok (.aload_n 1, 1) := by decide +kernel
theorem dX1_become_2 : decode cX1_become 2 = .ok (.getfield 15, 3) := by decide +kernel
theorem dX1_become_5 : decode cX1_become 5 = .ok (.putfield 15, 3) := by decide +kernel
theorem dX1_become_8 : decode cX1_become 8 = .ok (.aload_n 0, 1) := by decide +kernel
theorem dX1_become_9 : decode cX1_become 9 = .ok (.aload_n 1, 1) := by decide +kernel
theorem dX1_become_10 : decode cX1_become 10 = .ok (.getfield 22, 3) := by decide +kernel
theorem dX1_become_13 : decode cX1_become 13 = .ok (.putfield 22, 3) := by decide +kernel
theorem dX1_become_16 : decode cX1_become 16 = .ok (.aload_n 0, 1) := by decide +kernel
theorem dX1_become_17 : decode cX1_become 17 = .ok (.aload_n 1, 1) := by decide +kernel
theorem dX1_become_18 : decode cX1_become 18 = .ok (.getfield 18, 3) := by decide +kernel
theorem dX1_become_21 : decode cX1_become 21 = .ok (.putfield 18, 3) := by decide +kernel
theorem dX1_become_24 : decode cX1_become 24 = .ok (.aload_n 0, 1) := by decide +kernel
theorem dX1_become_25 : decode cX1_become 25 = .ok (.aload_n 1, 1) := by decide +kernel
theorem dX1_become_26 : decode cX1_become 26 = .ok (.getfield 9, 3) := by decide +kernel
theorem dX1_become_29 : decode cX1_become 29 = .ok (.putfield 9, 3) := by decide +kernel
theorem dX1_become_32 : decode cX1_become 32 = .ok (.aload_n 0, 1) := by decide +kernel
theorem dX1_become_33 : decode cX1_become 33 = .ok (.aload_n 1, 1) := by decide +kernel
theorem dX1_become_34 : decode cX1_become 34 = .ok (.getfield 25, 3) := by decide +kernel
theorem dX1_become_37 : decode cX1_become 37 = .ok (.putfield 25, 3) := by decide +kernel
theorem dX1_become_40 : decode cX1_become 40 = .ok (.return_, 1) := by decide +kernel
theorem dX2_init_0 : decode cX2_init 0 = .ok (.aload_n 0, 1) := by decide +kernel
theorem dX2_init_1 : decode cX2_init 1 = .ok (.invokespecial 1, 3) := by decide +kernel
theorem dX2_init_4 : decode cX2_init 4 = .ok (.aload_n 0, 1) := by decide +kernel
theorem dX2_init_5 : decode cX2_init 5 = .ok (.aload_n 1, 1) := by decide +kernel
theorem dX2_init_6 : decode cX2_init 6 = .ok (.putfield 7, 3) := by decide +kernel
theorem dX2_init_9 : decode cX2_init 9 = .ok (.return_, 1) := by decide +kernel
theorem dX2_seek_0 : decode cX2_seek 0 = .ok (.aload_n 0, 1) := by decide +kernel
theorem dX2_seek_1 : decode cX2_seek 1 = .ok (.iconst 0, 1) := by decide +kernel
theorem dX2_seek_2 : decode cX2_seek 2 = .ok (.putfield 13, 3) := by decide +kernel
theorem dX2_seek_5 : decode cX2_seek 5 = .ok (.aload_n 0, 1) := by decide +kernel
theorem dX2_seek_6 : decode cX2_seek 6 = .ok (.iload_n 2, 1) := by decide +kernel
theorem dX2_seek_7 : decode cX2_seek 7 = .ok (.putfield 17, 3) := by decide +kernel
theorem dX2_seek_10 : decode cX2_seek 10 = .ok (.aload_n 1, 1) := by decide +kernel
theorem dX2_seek_11 : decode cX2_seek 11 = .ok (.getfield 20, 3) := by decide +kernel
theorem dX2_seek_14 : decode cX2_seek 14 = .ok (.ifCond .eq 10, 3) := by decide +kernel
theorem dX2_seek_17 : decode cX2_seek 17 = .ok (.aload_n 1, 1) := by decide +kernel
theorem dX2_seek_18 : decode cX2_seek 18 = .ok (.getfield 26, 3) := by decide +kernel
theorem dX2_seek_21 : decode cX2_seek 21 = .ok (.ifCond .ne 5, 3) := by decide +kernel
theorem dX2_seek_24 : decode cX2_seek 24 = .ok (.iconst 0, 1) := by decide +kernel
theorem dX2_seek_25 : decode cX2_seek 25 = .ok (.ireturn, 1) := by decide +kernel
theorem dX2_seek_26 : decode cX2_seek 26 = .ok (.aload_n 1, 1) := by decide +kernel
theorem dX2_seek_27 : decode cX2_seek 27 = .ok (.getfield 29, 3) := by decide +kernel
theorem dX2_seek_30 : decode cX2_seek 30 = .ok (.iconst 1, 1) := by decide +kernel
theorem dX2_seek_31 : decode cX2_seek 31 = .ok (.isub, 1) := by decide +kernel
theorem dX2_seek_32 : decode cX2_seek 32 = .ok (.istore_n 3, 1) := by decide +kernel
theorem dX2_seek_33 : decode cX2_seek 33 = .ok (.aload_n 1, 1) := by decide +kernel
theorem dX2_seek_34 : decode cX2_seek 34 = .ok (.iload_n 3, 1) := by decide +kernel
theorem dX2_seek_35 : decode cX2_seek 35 = .ok (.invokevirtual 32, 3) := by decide +kernel
theorem dX2_seek_38 : decode cX2_seek 38 = .ok (.istore 4, 2) := by decide +kernel
theorem dX2_seek_40 : decode cX2_seek 40 = .ok (.aload_n 1, 1) := by decide +kernel
theorem dX2_seek_41 : decode cX2_seek 41 = .ok (.getfield 36, 3) := by decide +kernel
theorem dX2_seek_44 : decode cX2_seek 44 = .ok (.iload_n 3, 1) := by decide +kernel
theorem dX2_seek_45 : decode cX2_seek 45 = .ok (.iaload, 1) := by decide +kernel
theorem dX2_seek_46 : decode cX2_seek 46 = .ok (.iload 4, 2) := by decide +kernel
theorem dX2_seek_48 : decode cX2_seek 48 = .ok (.isub, 1) := by decide +kernel
theorem dX2_seek_49 : decode cX2_seek 49 = .ok (.istore 5, 2) := by decide +kernel
theorem dX2_seek_51 : decode cX2_seek 51 = .ok (.iconst 1, 1) := by decide +kernel
theorem dX2_seek_52 : decode cX2_seek 52 = .ok (.istore 6, 2) := by decide +kernel
theorem dX2_seek_54 : decode cX2_seek 54 = .ok (.iconst 1, 1) := by decide +kernel
theorem dX2_seek_55 : decode cX2_seek 55 = .ok (.istore 7, 2) := by decide +kernel
theorem dX2_seek_57 : decode cX2_seek 57 = .ok (.iload 7, 2) := by decide +kernel
theorem dX2_seek_59 : decode cX2_seek 59 = .ok (.iload_n 3, 1) := by decide +kernel
theorem dX2_seek_60 : decode cX2_seek 60 = .ok (.if_icmp .ge 20, 3) := by decide +kernel
theorem dX2_seek_63 : decode cX2_seek 63 = .ok (.iload 6, 2) := by decide +kernel
theorem dX2_seek_65 : decode cX2_seek 65 = .ok (.bipush 81, 2) := by decide +kernel
theorem dX2_seek_67 : decode cX2_seek 67 = .ok (.imul, 1) := by decide +kernel
theorem dX2_seek_68 : decode cX2_seek 68 = .ok (.sipush 251, 3) := by decide +kernel
theorem dX2_seek_71 : decode cX2_seek 71 = .ok (.irem, 1) := by decide +kernel
theorem dX2_seek_72 : decode cX2_seek 72 = .ok (.istore 6, 2) := by decide +kernel
theorem dX2_seek_74 : decode cX2_seek 74 = .ok (.iinc 7 1, 3) := by decide +kernel
theorem dX2_seek_77 : decode cX2_seek 77 = .ok (.goto (-20), 3) := by decide +kernel
theorem dX2_seek_80 : decode cX2_seek 80 = .ok (.iconst 0, 1) := by decide +kernel
theorem dX2_seek_81 : decode cX2_seek 81 = .ok (.istore 7, 2) := by decide +kernel
theorem dX2_seek_83 : decode cX2_seek 83 = .ok (.iload 7, 2) := by decide +kernel
theorem dX2_seek_85 : decode cX2_seek 85 = .ok (.iload_n 3, 1) := by decide +kernel
theorem dX2_seek_86 : decode cX2_seek 86 = .ok (.if_icmp .ge 75, 3) := by decide +kernel
theorem dX2_seek_89 : decode cX2_seek 89 = .ok (.aload_n 1, 1) := by decide +kernel
theorem dX2_seek_90 : decode cX2_seek 90 = .ok (.getfield 36, 3) := by decide +kernel
theorem dX2_seek_93 : decode cX2_seek 93 = .ok (.iload_n 3, 1) := by decide +kernel
theorem dX2_seek_94 : decode cX2_seek 94 = .ok (.iaload, 1) := by decide +kernel
theorem dX2_seek_95 : decode cX2_seek 95 = .ok (.sipush 251, 3) := by decide +kernel
theorem dX2_seek_98 : decode cX2_seek 98 = .ok (.if_icmp .ge 63, 3) := by decide +kernel
theorem dX2_seek_101 : decode cX2_seek 101 = .ok (.aload_n 1, 1) := by decide +kernel
theorem dX2_seek_102 : decode cX2_seek 102 = .ok (.getfield 36, 3) := by decide +kernel
theorem dX2_seek_105 : decode cX2_seek 105 = .ok (.iload 7, 2) := by decide +kernel
theorem dX2_seek_107 : decode cX2_seek 107 = .ok (.iaload, 1) := by decide +kernel
theorem dX2_seek_108 : decode cX2_seek 108 = .ok (.iload 5, 2) := by decide +kernel
theorem dX2_seek_110 : decode cX2_seek 110 = .ok (.iload 6, 2) := by decide +kernel
theorem dX2_seek_112 : decode cX2_seek 112 = .ok (.imul, 1) := by decide +kernel
theorem dX2_seek_113 : decode cX2_seek 113 = .ok (.iadd, 1) := by decide +kernel
theorem dX2_seek_114 : decode cX2_seek 114 = .ok (.sipush 251, 3) := by decide +kernel
theorem dX2_seek_117 : decode cX2_seek 117 = .ok (.invokestatic 40, 3) := by decide +kernel
theorem dX2_seek_120 : decode cX2_seek 120 = .ok (.istore 8, 2) := by decide +kernel
theorem dX2_seek_122 : decode cX2_seek 122 = .ok (.aload_n 0, 1) := by decide +kernel
theorem dX2_seek_123 : decode cX2_seek 123 = .ok (.aload_n 1, 1) := by decide +kernel
theorem dX2_seek_124 : decode cX2_seek 124 = .ok (.iload 7, 2) := by decide +kernel
theorem dX2_seek_126 : decode cX2_seek 126 = .ok (.iload 8, 2) := by decide +kernel
theorem dX2_seek_128 : decode cX2_seek 128 = .ok (.invokevirtual 46, 3) := by decide +kernel
theorem dX2_seek_131 : decode cX2_seek 131 = .ok (.aload_n 0, 1) := by decide +kernel
theorem dX2_seek_132 : decode cX2_seek 132 = .ok (.aload_n 1, 1) := by decide +kernel
theorem dX2_seek_133 : decode cX2_seek 133 = .ok (.iload 7, 2) := by decide +kernel
theorem dX2_seek_135 : decode cX2_seek 135 = .ok (.iload 8, 2) := by decide +kernel
theorem dX2_seek_137 : decode cX2_seek 137 = .ok (.sipush 251, 3) := by decide +kernel
theorem dX2_seek_140 : decode cX2_seek 140 = .ok (.iadd, 1) := by decide +kernel
theorem dX2_seek_141 : decode cX2_seek 141 = .ok (.invokevirtual 46, 3) := by decide +kernel
theorem dX2_seek_144 : decode cX2_seek 144 = .ok (.iload 6, 2) := by decide +kernel
theorem dX2_seek_146 : decode cX2_seek 146 = .ok (.bipush 31, 2) := by decide +kernel
theorem dX2_seek_148 : decode cX2_seek 148 = .ok (.imul, 1) := by decide +kernel
theorem dX2_seek_149 : decode cX2_seek 149 = .ok (.sipush 251, 3) := by decide +kernel
theorem dX2_seek_152 : decode cX2_seek 152 = .ok (.irem, 1) := by decide +kernel
theorem dX2_seek_153 : decode cX2_seek 153 = .ok (.istore 6, 2) := by decide +kernel
theorem dX2_seek_155 : decode cX2_seek 155 = .ok (.iinc 7 1, 3) := by decide +kernel
theorem dX2_seek_158 : decode cX2_seek 158 = .ok (.goto (-75), 3) := by decide +kernel
theorem dX2_seek_161 : decode cX2_seek 161 = .ok (.aload_n 0, 1) := by decide +kernel
theorem dX2_seek_162 : decode cX2_seek 162 = .ok (.aload_n 1, 1) := by decide +kernel
theorem dX2_seek_163 : decode cX2_seek 163 = .ok (.iload_n 3, 1) := by decide +kernel
theorem dX2_seek_164 : decode cX2_seek 164 = .ok (.iload 4, 2) := by decide +kernel
theorem dX2_seek_166 : decode cX2_seek 166 = .ok (.invokevirtual 46, 3) := by decide +kernel
theorem dX2_seek_169 : decode cX2_seek 169 = .ok (.aload_n 0, 1) := by decide +kernel
theorem dX2_seek_170 : decode cX2_seek 170 = .ok (.getfield 13, 3) := by decide +kernel
theorem dX2_seek_173 : decode cX2_seek 173 = .ok (.ireturn, 1) := by decide +kernel
theorem dX2_tryChange_0 : decode cX2_tryChange 0 = .ok (.aload_n 1, 1) := by decide +kernel
theorem dX2_tryChange_1 : decode cX2_tryChange 1 = .ok (.getfield 36, 3) := by decide +kernel
theorem dX2_tryChange_4 : decode cX2_tryChange 4 = .ok (.iload_n 2, 1) := by decide +kernel
theorem dX2_tryChange_5 : decode cX2_tryChange 5 = .ok (.iaload, 1) := by decide +kernel
theorem dX2_tryChange_6 : decode cX2_tryChange 6 = .ok (.istore 4, 2) := by decide +kernel
theorem dX2_tryChange_8 : decode cX2_tryChange 8 = .ok (.iload_n 3, 1) := by decide +kernel
theorem dX2_tryChange_9 : decode cX2_tryChange 9 = .ok (.sipush 255, 3) := by decide +kernel
theorem dX2_tryChange_12 : decode cX2_tryChange 12 = .ok (.if_icmp .gt 9, 3) := by decide +kernel
theorem dX2_tryChange_15 : decode cX2_tryChange 15 = .ok (.iload_n 3, 1) := by decide +kernel
theorem dX2_tryChange_16 : decode cX2_tryChange 16 = .ok (.iload 4, 2) := by decide +kernel
theorem dX2_tryChange_18 : decode cX2_tryChange 18 = .ok (.if_icmp .ne 4, 3) := by decide +kernel
theorem dX2_tryChange_21 : decode cX2_tryChange 21 = .ok (.return_, 1) := by decide +kernel
theorem dX2_tryChange_22 : decode cX2_tryChange 22 = .ok (.aload_n 1, 1) := by decide +kernel
theorem dX2_tryChange_23 : decode cX2_tryChange 23 = .ok (.getfield 36, 3) := by decide +kernel
theorem dX2_tryChange_26 : decode cX2_tryChange 26 = .ok (.iload_n 2, 1) := by decide +kernel
theorem dX2_tryChange_27 : decode cX2_tryChange 27 = .ok (.iload_n 3, 1) := by decide +kernel
theorem dX2_tryChange_28 : decode cX2_tryChange 28 = .ok (.iastore, 1) := by decide +kernel
theorem dX2_tryChange_29 : decode cX2_tryChange 29 = .ok (.aload_n 0, 1) := by decide +kernel
theorem dX2_tryChange_30 : decode cX2_tryChange 30 = .ok (.getfield 7, 3) := by decide +kernel
theorem dX2_tryChange_33 : decode cX2_tryChange 33 = .ok (.aload_n 1, 1) := by decide +kernel
theorem dX2_tryChange_34 : decode cX2_tryChange 34 = .ok (.iconst 1, 1) := by decide +kernel
theorem dX2_tryChange_35 : decode cX2_tryChange 35 = .ok (.invokevirtual 50, 3) := by decide +kernel
theorem dX2_tryChange_38 : decode cX2_tryChange 38 = .ok (.ifCond .ne 34, 3) := by decide +kernel
theorem dX2_tryChange_41 : decode cX2_tryChange 41 = .ok (.aload_n 0, 1) := by decide +kernel
theorem dX2_tryChange_42 : decode cX2_tryChange 42 = .ok (.getfield 13, 3) := by decide +kernel
theorem dX2_tryChange_45 : decode cX2_tryChange 45 = .ok (.aload_n 0, 1) := by decide +kernel
theorem dX2_tryChange_46 : decode cX2_tryChange 46 = .ok (.getfield 17, 3) := by decide +kernel
theorem dX2_tryChange_49 : decode cX2_tryChange 49 = .ok (.if_icmp .ne 13, 3) := by decide +kernel
theorem dX2_tryChange_52 : decode cX2_tryChange 52 = .ok (.aload_n 0, 1) := by decide +kernel
theorem dX2_tryChange_53 : decode cX2_tryChange 53 = .ok (.iload_n 2, 1) := by decide +kernel
theorem dX2_tryChange_54 : decode cX2_tryChange 54 = .ok (.putfield 56, 3) := by decide +kernel
theorem dX2_tryChange_57 : decode cX2_tryChange 57 = .ok (.aload_n 0, 1) := by decide +kernel
theorem dX2_tryChange_58 : decode cX2_tryChange 58 = .ok (.iload_n 3, 1) := by decide +kernel
theorem dX2_tryChange_59 : decode cX2_tryChange 59 = .ok (.putfield 59, 3) := by decide +kernel
theorem dX2_tryChange_62 : decode cX2_tryChange 62 = .ok (.aload_n 0, 1) := by decide +kernel
theorem dX2_tryChange_63 : decode cX2_tryChange 63 = .ok (.dup, 1) := by decide +kernel
theorem dX2_tryChange_64 : decode cX2_tryChange 64 = .ok (.getfield 13, 3) := by decide +kernel
theorem dX2_tryChange_67 : decode cX2_tryChange 67 = .ok (.iconst 1, 1) := by decide +kernel
theorem dX2_tryChange_68 : decode cX2_tryChange 68 = .ok (.iadd, 1) := by decide +kernel
theorem dX2_tryChange_69 : decode cX2_tryChange 69 = .ok (.putfield 13, 3) := by decide +kernel
theorem dX2_tryChange_72 : decode cX2_tryChange 72 = .ok (.aload_n 1, 1) := by decide +kernel
theorem dX2_tryChange_73 : decode cX2_tryChange 73 = .ok (.getfield 36, 3) := by decide +kernel
theorem dX2_tryChange_76 : decode cX2_tryChange 76 = .ok (.iload_n 2, 1) := by decide +kernel
theorem dX2_tryChange_77 : decode cX2_tryChange 77 = .ok (.iload 4, 2) := by decide +kernel
theorem dX2_tryChange_79 : decode cX2_tryChange 79 = .ok (.iastore, 1) := by decide +kernel
theorem dX2_tryChange_80 : decode cX2_tryChange 80 = .ok (.return_, 1) := by decide +kernel
theorem dX3_isNumber_0 : decode cX3_isNumber 0 = .ok (.lload_n 0, 1) := by decide +kernel
theorem dX3_isNumber_1 : decode cX3_isNumber 1 = .ok (.ldc2_w 11, 3) := by decide +kernel
theorem dX3_isNumber_4 : decode cX3_isNumber 4 = .ok (.land, 1) := by decide +kernel
theorem dX3_isNumber_5 : decode cX3_isNumber 5 = .ok (.ldc2_w 13, 3) := by decide +kernel
theorem dX3_isNumber_8 : decode cX3_isNumber 8 = .ok (.lcmp, 1) := by decide +kernel
theorem dX3_isNumber_9 : decode cX3_isNumber 9 = .ok (.ifCond .gt 7, 3) := by decide +kernel
theorem dX3_isNumber_12 : decode cX3_isNumber 12 = .ok (.iconst 1, 1) := by decide +kernel
theorem dX3_isNumber_13 : decode cX3_isNumber 13 = .ok (.goto 4, 3) := by decide +kernel
theorem dX3_isNumber_16 : decode cX3_isNumber 16 = .ok (.iconst 0, 1) := by decide +kernel
theorem dX3_isNumber_17 : decode cX3_isNumber 17 = .ok (.ireturn, 1) := by decide +kernel
theorem dX3_isInfinite_0 : decode cX3_isInfinite 0 = .ok (.lload_n 0, 1) := by decide +kernel
theorem dX3_isInfinite_1 : decode cX3_isInfinite 1 = .ok (.ldc2_w 11, 3) := by decide +kernel
theorem dX3_isInfinite_4 : decode cX3_isInfinite 4 = .ok (.land, 1) := by decide +kernel
theorem dX3_isInfinite_5 : decode cX3_isInfinite 5 = .ok (.ldc2_w 13, 3) := by decide +kernel
theorem dX3_isInfinite_8 : decode cX3_isInfinite 8 = .ok (.lcmp, 1) := by decide +kernel
theorem dX3_isInfinite_9 : decode cX3_isInfinite 9 = .ok (.ifCond .ne 7, 3) := by decide +kernel
theorem dX3_isInfinite_12 : decode cX3_isInfinite 12 = .ok (.iconst 1, 1) := by decide +kernel
theorem dX3_isInfinite_13 : decode cX3_isInfinite 13 = .ok (.goto 4, 3) := by decide +kernel
theorem dX3_isInfinite_16 : decode cX3_isInfinite 16 = .ok (.iconst 0, 1) := by decide +kernel
theorem dX3_isInfinite_17 : decode cX3_isInfinite 17 = .ok (.ireturn, 1) := by decide +kernel
theorem dX3_isFinite_0 : decode cX3_isFinite 0 = .ok (.lload_n 0, 1) := by decide +kernel
theorem dX3_isFinite_1 : decode cX3_isFinite 1 = .ok (.ldc2_w 11, 3) := by decide +kernel
theorem dX3_isFinite_4 : decode cX3_isFinite 4 = .ok (.land, 1) := by decide +kernel
theorem dX3_isFinite_5 : decode cX3_isFinite 5 = .ok (.ldc2_w 13, 3) := by decide +kernel
theorem dX3_isFinite_8 : decode cX3_isFinite 8 = .ok (.lcmp, 1) := by decide +kernel
theorem dX3_isFinite_9 : decode cX3_isFinite 9 = .ok (.ifCond .ge 7, 3) := by decide +kernel
theorem dX3_isFinite_12 : decode cX3_isFinite 12 = .ok (.iconst 1, 1) := by decide +kernel
theorem dX3_isFinite_13 : decode cX3_isFinite 13 = .ok (.goto 4, 3) := by decide +kernel
theorem dX3_isFinite_16 : decode cX3_isFinite 16 = .ok (.iconst 0, 1) := by decide +kernel
theorem dX3_isFinite_17 : decode cX3_isFinite 17 = .ok (.ireturn, 1) := by decide +kernel
theorem dX3_order_0 : decode cX3_order 0 = .ok (.lload_n 0, 1) := by decide +kernel
theorem dX3_order_1 : decode cX3_order 1 = .ok (.lconst 0, 1) := by decide +kernel
theorem dX3_order_2 : decode cX3_order 2 = .ok (.lcmp, 1) := by decide +kernel
theorem dX3_order_3 : decode cX3_order 3 = .ok (.ifCond .lt 7, 3) := by decide +kernel
theorem dX3_order_6 : decode cX3_order 6 = .ok (.lload_n 0, 1) := by decide +kernel
theorem dX3_order_7 : decode cX3_order 7 = .ok (.goto 9, 3) := by decide +kernel
theorem dX3_order_10 : decode cX3_order 10 = .ok (.lload_n 0, 1) := by decide +kernel
theorem dX3_order_11 : decode cX3_order 11 = .ok (.ldc2_w 11, 3) := by decide +kernel
theorem dX3_order_14 : decode cX3_order 14 = .ok (.land, 1) := by decide +kernel
theorem dX3_order_15 : decode cX3_order 15 = .ok (.lneg, 1) := by decide +kernel
theorem dX3_order_16 : decode cX3_order 16 = .ok (.lreturn, 1) := by decide +kernel
theorem dX3_exponent_0 : decode cX3_exponent 0 = .ok (.iconst 1, 1) := by decide +kernel
theorem dX3_exponent_1 : decode cX3_exponent 1 = .ok (.lload_n 0, 1) := by decide +kernel
theorem dX3_exponent_2 : decode cX3_exponent 2 = .ok (.ldc2_w 11, 3) := by decide +kernel
theorem dX3_exponent_5 : decode cX3_exponent 5 = .ok (.land, 1) := by decide +kernel
theorem dX3_exponent_6 : decode cX3_exponent 6 = .ok (.bipush 52, 2) := by decide +kernel
theorem dX3_exponent_8 : decode cX3_exponent 8 = .ok (.lushr, 1) := by decide +kernel
theorem dX3_exponent_9 : decode cX3_exponent 9 = .ok (.l2i, 1) := by decide +kernel
theorem dX3_exponent_10 : decode cX3_exponent 10 = .ok (.invokestatic 15, 3) := by decide +kernel
theorem dX3_exponent_13 : decode cX3_exponent 13 = .ok (.ireturn, 1) := by decide +kernel
theorem dX3_fraction_0 : decode cX3_fraction 0 = .ok (.lload_n 0, 1) := by decide +kernel
theorem dX3_fraction_1 : decode cX3_fraction 1 = .ok (.ldc2_w 21, 3) := by decide +kernel
theorem dX3_fraction_4 : decode cX3_fraction 4 = .ok (.land, 1) := by decide +kernel
theorem dX3_fraction_5 : decode cX3_fraction 5 = .ok (.lstore_n 2, 1) := by decide +kernel
theorem dX3_fraction_6 : decode cX3_fraction 6 = .ok (.lload_n 0, 1) := by decide +kernel
theorem dX3_fraction_7 : decode cX3_fraction 7 = .ok (.ldc2_w 13, 3) := by decide +kernel
theorem dX3_fraction_10 : decode cX3_fraction 10 = .ok (.land, 1) := by decide +kernel
theorem dX3_fraction_11 : decode cX3_fraction 11 = .ok (.lconst 0, 1) := by decide +kernel
theorem dX3_fraction_12 : decode cX3_fraction 12 = .ok (.lcmp, 1) := by decide +kernel
theorem dX3_fraction_13 : decode cX3_fraction 13 = .ok (.ifCond .ne 7, 3) := by decide +kernel
theorem dX3_fraction_16 : decode cX3_fraction 16 = .ok (.lload_n 2, 1) := by decide +kernel
theorem dX3_fraction_17 : decode cX3_fraction 17 = .ok (.goto 8, 3) := by decide +kernel
theorem dX3_fraction_20 : decode cX3_fraction 20 = .ok (.lload_n 2, 1) := by decide +kernel
theorem dX3_fraction_21 : decode cX3_fraction 21 = .ok (.ldc2_w 23, 3) := by decide +kernel
theorem dX3_fraction_24 : decode cX3_fraction 24 = .ok (.lor, 1) := by decide +kernel
theorem dX3_fraction_25 : decode cX3_fraction 25 = .ok (.lreturn, 1) := by decide +kernel
theorem dX3_plus_0 : decode cX3_plus 0 = .ok (.lload_n 0, 1) := by decide +kernel
theorem dX3_plus_1 : decode cX3_plus 1 = .ok (.invokestatic 25, 3) := by decide +kernel
theorem dX3_plus_4 : decode cX3_plus 4 = .ok (.ifCond .eq 24, 3) := by decide +kernel
theorem dX3_plus_7 : decode cX3_plus 7 = .ok (.lload_n 2, 1) := by decide +kernel
theorem dX3_plus_8 : decode cX3_plus 8 = .ok (.invokestatic 25, 3) := by decide +kernel
theorem dX3_plus_11 : decode cX3_plus 11 = .ok (.ifCond .eq 15, 3) := by decide +kernel
theorem dX3_plus_14 : decode cX3_plus 14 = .ok (.lload_n 0, 1) := by decide +kernel
theorem dX3_plus_15 : decode cX3_plus 15 = .ok (.lload_n 2, 1) := by decide +kernel
theorem dX3_plus_16 : decode cX3_plus 16 = .ok (.lcmp, 1) := by decide +kernel
theorem dX3_plus_17 : decode cX3_plus 17 = .ok (.ifCond .eq 9, 3) := by decide +kernel
theorem dX3_plus_20 : decode cX3_plus 20 = .ok (.ldc2_w 29, 3) := by decide +kernel
theorem dX3_plus_23 : decode cX3_plus 23 = .ok (.goto 4, 3) := by decide +kernel
theorem dX3_plus_26 : decode cX3_plus 26 = .ok (.lload_n 0, 1) := by decide +kernel
theorem dX3_plus_27 : decode cX3_plus 27 = .ok (.lreturn, 1) := by decide +kernel
theorem dX3_plus_28 : decode cX3_plus 28 = .ok (.lload_n 2, 1) := by decide +kernel
theorem dX3_plus_29 : decode cX3_plus 29 = .ok (.invokestatic 25, 3) := by decide +kernel
theorem dX3_plus_32 : decode cX3_plus 32 = .ok (.ifCond .eq 5, 3) := by decide +kernel
theorem dX3_plus_35 : decode cX3_plus 35 = .ok (.lload_n 2, 1) := by decide +kernel
theorem dX3_plus_36 : decode cX3_plus 36 = .ok (.lreturn, 1) := by decide +kernel
theorem dX3_plus_37 : decode cX3_plus 37 = .ok (.lload_n 0, 1) := by decide +kernel
theorem dX3_plus_38 : decode cX3_plus 38 = .ok (.ldc2_w 11, 3) := by decide +kernel
theorem dX3_plus_41 : decode cX3_plus 41 = .ok (.land, 1) := by decide +kernel
theorem dX3_plus_42 : decode cX3_plus 42 = .ok (.lload_n 2, 1) := by decide +kernel
theorem dX3_plus_43 : decode cX3_plus 43 = .ok (.ldc2_w 11, 3) := by decide +kernel
theorem dX3_plus_46 : decode cX3_plus 46 = .ok (.land, 1) := by decide +kernel
theorem dX3_plus_47 : decode cX3_plus 47 = .ok (.lcmp, 1) := by decide +kernel
theorem dX3_plus_48 : decode cX3_plus 48 = .ok (.ifCond .lt 7, 3) := by decide +kernel
theorem dX3_plus_51 : decode cX3_plus 51 = .ok (.iconst 1, 1) := by decide +kernel
theorem dX3_plus_52 : decode cX3_plus 52 = .ok (.goto 4, 3) := by decide +kernel
theorem dX3_plus_55 : decode cX3_plus 55 = .ok (.iconst 0, 1) := by decide +kernel
theorem dX3_plus_56 : decode cX3_plus 56 = .ok (.istore 4, 2) := by decide +kernel
theorem dX3_plus_58 : decode cX3_plus 58 = .ok (.iload 4, 2) := by decide +kernel
theorem dX3_plus_60 : decode cX3_plus 60 = .ok (.ifCond .eq 7, 3) := by decide +kernel
theorem dX3_plus_63 : decode cX3_plus 63 = .ok (.lload_n 0, 1) := by decide +kernel
theorem dX3_plus_64 : decode cX3_plus 64 = .ok (.goto 4, 3) := by decide +kernel
theorem dX3_plus_67 : decode cX3_plus 67 = .ok (.lload_n 2, 1) := by decide +kernel
theorem dX3_plus_68 : decode cX3_plus 68 = .ok (.lstore 5, 2) := by decide +kernel
theorem dX3_plus_70 : decode cX3_plus 70 = .ok (.iload 4, 2) := by decide +kernel
theorem dX3_plus_72 : decode cX3_plus 72 = .ok (.ifCond .eq 7, 3) := by decide +kernel
theorem dX3_plus_75 : decode cX3_plus 75 = .ok (.lload_n 2, 1) := by decide +kernel
theorem dX3_plus_76 : decode cX3_plus 76 = .ok (.goto 4, 3) := by decide +kernel
theorem dX3_plus_79 : decode cX3_plus 79 = .ok (.lload_n 0, 1) := by decide +kernel
theorem dX3_plus_80 : decode cX3_plus 80 = .ok (.lstore 7, 2) := by decide +kernel
theorem dX3_plus_82 : decode cX3_plus 82 = .ok (.lload 5, 2) := by decide +kernel
theorem dX3_plus_84 : decode cX3_plus 84 = .ok (.invokestatic 31, 3) := by decide +kernel
theorem dX3_plus_87 : decode cX3_plus 87 = .ok (.istore 9, 2) := by decide +kernel
theorem dX3_plus_89 : decode cX3_plus 89 = .ok (.lload 5, 2) := by decide +kernel
theorem dX3_plus_91 : decode cX3_plus 91 = .ok (.invokestatic 35, 3) := by decide +kernel
theorem dX3_plus_94 : decode cX3_plus 94 = .ok (.bipush 8, 2) := by decide +kernel
theorem dX3_plus_96 : decode cX3_plus 96 = .ok (.lshl, 1) := by decide +kernel
theorem dX3_plus_97 : decode cX3_plus 97 = .ok (.lstore 10, 2) := by decide +kernel
theorem dX3_plus_99 : decode cX3_plus 99 = .ok (.lload 7, 2) := by decide +kernel
theorem dX3_plus_101 : decode cX3_plus 101 = .ok (.invokestatic 35, 3) := by decide +kernel
theorem dX3_plus_104 : decode cX3_plus 104 = .ok (.bipush 8, 2) := by decide +kernel
theorem dX3_plus_106 : decode cX3_plus 106 = .ok (.lshl, 1) := by decide +kernel
theorem dX3_plus_107 : decode cX3_plus 107 = .ok (.iload 9, 2) := by decide +kernel
theorem dX3_plus_109 : decode cX3_plus 109 = .ok (.lload 7, 2) := by decide +kernel
theorem dX3_plus_111 : decode cX3_plus 111 = .ok (.invokestatic 31, 3) := by decide +kernel
theorem dX3_plus_114 : decode cX3_plus 114 = .ok (.isub, 1) := by decide +kernel
theorem dX3_plus_115 : decode cX3_plus 115 = .ok (.invokestatic 39, 3) := by decide +kernel
theorem dX3_plus_118 : decode cX3_plus 118 = .ok (.lstore 12, 2) := by decide +kernel
theorem dX3_plus_120 : decode cX3_plus 120 = .ok (.lload_n 0, 1) := by decide +kernel
theorem dX3_plus_121 : decode cX3_plus 121 = .ok (.lload_n 2, 1) := by decide +kernel
theorem dX3_plus_122 : decode cX3_plus 122 = .ok (.lxor, 1) := by decide +kernel
theorem dX3_plus_123 : decode cX3_plus 123 = .ok (.lconst 0, 1) := by decide +kernel
theorem dX3_plus_124 : decode cX3_plus 124 = .ok (.lcmp, 1) := by decide +kernel
theorem dX3_plus_125 : decode cX3_plus 125 = .ok (.ifCond .lt 20, 3) := by decide +kernel
theorem dX3_plus_128 : decode cX3_plus 128 = .ok (.lload 5, 2) := by decide +kernel
theorem dX3_plus_130 : decode cX3_plus 130 = .ok (.ldc2_w 43, 3) := by decide +kernel
theorem dX3_plus_133 : decode cX3_plus 133 = .ok (.land, 1) := by decide +kernel
theorem dX3_plus_134 : decode cX3_plus 134 = .ok (.iload 9, 2) := by decide +kernel
theorem dX3_plus_136 : decode cX3_plus 136 = .ok (.lload 10, 2) := by decide +kernel
theorem dX3_plus_138 : decode cX3_plus 138 = .ok (.lload 12, 2) := by decide +kernel
theorem dX3_plus_140 : decode cX3_plus 140 = .ok (.ladd, 1) := by decide +kernel
theorem dX3_plus_141 : decode cX3_plus 141 = .ok (.invokestatic 45, 3) := by decide +kernel
theorem dX3_plus_144 : decode cX3_plus 144 = .ok (.lreturn, 1) := by decide +kernel
theorem dX3_plus_145 : decode cX3_plus 145 = .ok (.lload 10, 2) := by decide +kernel
theorem dX3_plus_147 : decode cX3_plus 147 = .ok (.lload 12, 2) := by decide +kernel
theorem dX3_plus_149 : decode cX3_plus 149 = .ok (.lcmp, 1) := by decide +kernel
theorem dX3_plus_150 : decode cX3_plus 150 = .ok (.ifCond .ne 7, 3) := by decide +kernel
theorem dX3_plus_153 : decode cX3_plus 153 = .ok (.lconst 0, 1) := by decide +kernel
theorem dX3_plus_154 : decode cX3_plus 154 = .ok (.goto 19, 3) := by decide +kernel
theorem dX3_plus_157 : decode cX3_plus 157 = .ok (.lload 5, 2) := by decide +kernel
theorem dX3_plus_159 : decode cX3_plus 159 = .ok (.ldc2_w 43, 3) := by decide +kernel
theorem dX3_plus_162 : decode cX3_plus 162 = .ok (.land, 1) := by decide +kernel
theorem dX3_plus_163 : decode cX3_plus 163 = .ok (.iload 9, 2) := by decide +kernel
theorem dX3_plus_165 : decode cX3_plus 165 = .ok (.lload 10, 2) := by decide +kernel
theorem dX3_plus_167 : decode cX3_plus 167 = .ok (.lload 12, 2) := by decide +kernel
theorem dX3_plus_169 : decode cX3_plus 169 = .ok (.lsub, 1) := by decide +kernel
theorem dX3_plus_170 : decode cX3_plus 170 = .ok (.invokestatic 45, 3) := by decide +kernel
theorem dX3_plus_173 : decode cX3_plus 173 = .ok (.lreturn, 1) := by decide +kernel
theorem dX3_shiftedDown_0 : decode cX3_shiftedDown 0 = .ok (.iload_n 2, 1) := by decide +kernel
theorem dX3_shiftedDown_1 : decode cX3_shiftedDown 1 = .ok (.bipush 62, 2) := by decide +kernel
theorem dX3_shiftedDown_3 : decode cX3_shiftedDown 3 = .ok (.if_icmp .le 15, 3) := by decide +kernel
theorem dX3_shiftedDown_6 : decode cX3_shiftedDown 6 = .ok (.lload_n 0, 1) := by decide +kernel
theorem dX3_shiftedDown_7 : decode cX3_shiftedDown 7 = .ok (.lconst 0, 1) := by decide +kernel
theorem dX3_shiftedDown_8 : decode cX3_shiftedDown 8 = .ok (.lcmp, 1) := by decide +kernel
theorem dX3_shiftedDown_9 : decode cX3_shiftedDown 9 = .ok (.ifCond .ne 7, 3) := by decide +kernel
theorem dX3_shiftedDown_12 : decode cX3_shiftedDown 12 = .ok (.lconst 0, 1) := by decide +kernel
theorem dX3_shiftedDown_13 : decode cX3_shiftedDown 13 = .ok (.goto 4, 3) := by decide +kernel
theorem dX3_shiftedDown_16 : decode cX3_shiftedDown 16 = .ok (.lconst 1, 1) := by decide +kernel
theorem dX3_shiftedDown_17 : decode cX3_shiftedDown 17 = .ok (.lreturn, 1) := by decide +kernel
theorem dX3_shiftedDown_18 : decode cX3_shiftedDown 18 = .ok (.lload_n 0, 1) := by decide +kernel
theorem dX3_shiftedDown_19 : decode cX3_shiftedDown 19 = .ok (.lconst 1, 1) := by decide +kernel
theorem dX3_shiftedDown_20 : decode cX3_shiftedDown 20 = .ok (.iload_n 2, 1) := by decide +kernel
theorem dX3_shiftedDown_21 : decode cX3_shiftedDown 21 = .ok (.lshl, 1) := by decide +kernel
theorem dX3_shiftedDown_22 : decode cX3_shiftedDown 22 = .ok (.lconst 1, 1) := by decide +kernel
theorem dX3_shiftedDown_23 : decode cX3_shiftedDown 23 = .ok (.lsub, 1) := by decide +kernel
theorem dX3_shiftedDown_24 : decode cX3_shiftedDown 24 = .ok (.land, 1) := by decide +kernel
theorem dX3_shiftedDown_25 : decode cX3_shiftedDown 25 = .ok (.lstore_n 3, 1) := by decide +kernel
theorem dX3_shiftedDown_26 : decode cX3_shiftedDown 26 = .ok (.lload_n 0, 1) := by decide +kernel
theorem dX3_shiftedDown_27 : decode cX3_shiftedDown 27 = .ok (.iload_n 2, 1) := by decide +kernel
theorem dX3_shiftedDown_28 : decode cX3_shiftedDown 28 = .ok (.lushr, 1) := by decide +kernel
theorem dX3_shiftedDown_29 : decode cX3_shiftedDown 29 = .ok (.lload_n 3, 1) := by decide +kernel
theorem dX3_shiftedDown_30 : decode cX3_shiftedDown 30 = .ok (.lconst 0, 1) := by decide +kernel
theorem dX3_shiftedDown_31 : decode cX3_shiftedDown 31 = .ok (.lcmp, 1) := by decide +kernel
theorem dX3_shiftedDown_32 : decode cX3_shiftedDown 32 = .ok (.ifCond .ne 7, 3) := by decide +kernel
theorem dX3_shiftedDown_35 : decode cX3_shiftedDown 35 = .ok (.iconst 0, 1) := by decide +kernel
theorem dX3_shiftedDown_36 : decode cX3_shiftedDown 36 = .ok (.goto 4, 3) := by decide +kernel
theorem dX3_shiftedDown_39 : decode cX3_shiftedDown 39 = .ok (.iconst 1, 1) := by decide +kernel
theorem dX3_shiftedDown_40 : decode cX3_shiftedDown 40 = .ok (.i2l, 1) := by decide +kernel
theorem dX3_shiftedDown_41 : decode cX3_shiftedDown 41 = .ok (.lor, 1) := by decide +kernel
theorem dX3_shiftedDown_42 : decode cX3_shiftedDown 42 = .ok (.lreturn, 1) := by decide +kernel
theorem dX3_times_0 : decode cX3_times 0 = .ok (.lload_n 0, 1) := by decide +kernel
theorem dX3_times_1 : decode cX3_times 1 = .ok (.invokestatic 25, 3) := by decide +kernel
theorem dX3_times_4 : decode cX3_times 4 = .ok (.ifCond .eq 5, 3) := by decide +kernel
theorem dX3_times_7 : decode cX3_times 7 = .ok (.lload_n 0, 1) := by decide +kernel
theorem dX3_times_8 : decode cX3_times 8 = .ok (.lreturn, 1) := by decide +kernel
theorem dX3_times_9 : decode cX3_times 9 = .ok (.lload_n 0, 1) := by decide +kernel
theorem dX3_times_10 : decode cX3_times 10 = .ok (.invokestatic 35, 3) := by decide +kernel
theorem dX3_times_13 : decode cX3_times 13 = .ok (.lstore_n 3, 1) := by decide +kernel
theorem dX3_times_14 : decode cX3_times 14 = .ok (.lload_n 3, 1) := by decide +kernel
theorem dX3_times_15 : decode cX3_times 15 = .ok (.ldc2_w 49, 3) := by decide +kernel
theorem dX3_times_18 : decode cX3_times 18 = .ok (.land, 1) := by decide +kernel
theorem dX3_times_19 : decode cX3_times 19 = .ok (.iload_n 2, 1) := by decide +kernel
theorem dX3_times_20 : decode cX3_times 20 = .ok (.i2l, 1) := by decide +kernel
theorem dX3_times_21 : decode cX3_times 21 = .ok (.lmul, 1) := by decide +kernel
theorem dX3_times_22 : decode cX3_times 22 = .ok (.lstore 5, 2) := by decide +kernel
theorem dX3_times_24 : decode cX3_times 24 = .ok (.lload_n 3, 1) := by decide +kernel
theorem dX3_times_25 : decode cX3_times 25 = .ok (.bipush 32, 2) := by decide +kernel
theorem dX3_times_27 : decode cX3_times 27 = .ok (.lushr, 1) := by decide +kernel
theorem dX3_times_28 : decode cX3_times 28 = .ok (.iload_n 2, 1) := by decide +kernel
theorem dX3_times_29 : decode cX3_times 29 = .ok (.i2l, 1) := by decide +kernel
theorem dX3_times_30 : decode cX3_times 30 = .ok (.lmul, 1) := by decide +kernel
theorem dX3_times_31 : decode cX3_times 31 = .ok (.lload 5, 2) := by decide +kernel
theorem dX3_times_33 : decode cX3_times 33 = .ok (.bipush 32, 2) := by decide +kernel
theorem dX3_times_35 : decode cX3_times 35 = .ok (.lushr, 1) := by decide +kernel
theorem dX3_times_36 : decode cX3_times 36 = .ok (.ladd, 1) := by decide +kernel
theorem dX3_times_37 : decode cX3_times 37 = .ok (.lstore 7, 2) := by decide +kernel
theorem dX3_times_39 : decode cX3_times 39 = .ok (.lload 5, 2) := by decide +kernel
theorem dX3_times_41 : decode cX3_times 41 = .ok (.ldc2_w 49, 3) := by decide +kernel
theorem dX3_times_44 : decode cX3_times 44 = .ok (.land, 1) := by decide +kernel
theorem dX3_times_45 : decode cX3_times 45 = .ok (.lstore 5, 2) := by decide +kernel
theorem dX3_times_47 : decode cX3_times 47 = .ok (.iconst 0, 1) := by decide +kernel
theorem dX3_times_48 : decode cX3_times 48 = .ok (.bipush 64, 2) := by decide +kernel
theorem dX3_times_50 : decode cX3_times 50 = .ok (.lload 7, 2) := by decide +kernel
theorem dX3_times_52 : decode cX3_times 52 = .ok (.invokestatic 51, 3) := by decide +kernel
theorem dX3_times_55 : decode cX3_times 55 = .ok (.isub, 1) := by decide +kernel
theorem dX3_times_56 : decode cX3_times 56 = .ok (.bipush 29, 2) := by decide +kernel
theorem dX3_times_58 : decode cX3_times 58 = .ok (.isub, 1) := by decide +kernel
theorem dX3_times_59 : decode cX3_times 59 = .ok (.invokestatic 15, 3) := by decide +kernel
theorem dX3_times_62 : decode cX3_times 62 = .ok (.istore 9, 2) := by decide +kernel
theorem dX3_times_64 : decode cX3_times 64 = .ok (.lload 5, 2) := by decide +kernel
theorem dX3_times_66 : decode cX3_times 66 = .ok (.lconst 1, 1) := by decide +kernel
theorem dX3_times_67 : decode cX3_times 67 = .ok (.iload 9, 2) := by decide +kernel
theorem dX3_times_69 : decode cX3_times 69 = .ok (.lshl, 1) := by decide +kernel
theorem dX3_times_70 : decode cX3_times 70 = .ok (.lconst 1, 1) := by decide +kernel
theorem dX3_times_71 : decode cX3_times 71 = .ok (.lsub, 1) := by decide +kernel
theorem dX3_times_72 : decode cX3_times 72 = .ok (.land, 1) := by decide +kernel
theorem dX3_times_73 : decode cX3_times 73 = .ok (.lstore 10, 2) := by decide +kernel
theorem dX3_times_75 : decode cX3_times 75 = .ok (.lload 7, 2) := by decide +kernel
theorem dX3_times_77 : decode cX3_times 77 = .ok (.bipush 32, 2) := by decide +kernel
theorem dX3_times_79 : decode cX3_times 79 = .ok (.iload 9, 2) := by decide +kernel
theorem dX3_times_81 : decode cX3_times 81 = .ok (.isub, 1) := by decide +kernel
theorem dX3_times_82 : decode cX3_times 82 = .ok (.lshl, 1) := by decide +kernel
theorem dX3_times_83 : decode cX3_times 83 = .ok (.lload 5, 2) := by decide +kernel
theorem dX3_times_85 : decode cX3_times 85 = .ok (.iload 9, 2) := by decide +kernel
theorem dX3_times_87 : decode cX3_times 87 = .ok (.lushr, 1) := by decide +kernel
theorem dX3_times_88 : decode cX3_times 88 = .ok (.lor, 1) := by decide +kernel
theorem dX3_times_89 : decode cX3_times 89 = .ok (.lload 10, 2) := by decide +kernel
theorem dX3_times_91 : decode cX3_times 91 = .ok (.lconst 0, 1) := by decide +kernel
theorem dX3_times_92 : decode cX3_times 92 = .ok (.lcmp, 1) := by decide +kernel
theorem dX3_times_93 : decode cX3_times 93 = .ok (.ifCond .ne 7, 3) := by decide +kernel
theorem dX3_times_96 : decode cX3_times 96 = .ok (.iconst 0, 1) := by decide +kernel
theorem dX3_times_97 : decode cX3_times 97 = .ok (.goto 4, 3) := by decide +kernel
theorem dX3_times_100 : decode cX3_times 100 = .ok (.iconst 1, 1) := by decide +kernel
theorem dX3_times_101 : decode cX3_times 101 = .ok (.i2l, 1) := by decide +kernel
theorem dX3_times_102 : decode cX3_times 102 = .ok (.lor, 1) := by decide +kernel
theorem dX3_times_103 : decode cX3_times 103 = .ok (.lstore 12, 2) := by decide +kernel
theorem dX3_times_105 : decode cX3_times 105 = .ok (.lload_n 0, 1) := by decide +kernel
theorem dX3_times_106 : decode cX3_times 106 = .ok (.ldc2_w 43, 3) := by decide +kernel
theorem dX3_times_109 : decode cX3_times 109 = .ok (.land, 1) := by decide +kernel
theorem dX3_times_110 : decode cX3_times 110 = .ok (.lload_n 0, 1) := by decide +kernel
theorem dX3_times_111 : decode cX3_times 111 = .ok (.invokestatic 31, 3) := by decide +kernel
theorem dX3_times_114 : decode cX3_times 114 = .ok (.bipush 8, 2) := by decide +kernel
theorem dX3_times_116 : decode cX3_times 116 = .ok (.iadd, 1) := by decide +kernel
theorem dX3_times_117 : decode cX3_times 117 = .ok (.iload 9, 2) := by decide +kernel
theorem dX3_times_119 : decode cX3_times 119 = .ok (.iadd, 1) := by decide +kernel
theorem dX3_times_120 : decode cX3_times 120 = .ok (.lload 12, 2) := by decide +kernel
theorem dX3_times_122 : decode cX3_times 122 = .ok (.invokestatic 45, 3) := by decide +kernel
theorem dX3_times_125 : decode cX3_times 125 = .ok (.lreturn, 1) := by decide +kernel
theorem dX3_roundedOff_0 : decode cX3_roundedOff 0 = .ok (.bipush 60, 2) := by decide +kernel
theorem dX3_roundedOff_2 : decode cX3_roundedOff 2 = .ok (.istore 5, 2) := by decide +kernel
theorem dX3_roundedOff_4 : decode cX3_roundedOff 4 = .ok (.iload_n 2, 1) := by decide +kernel
theorem dX3_roundedOff_5 : decode cX3_roundedOff 5 = .ok (.istore 6, 2) := by decide +kernel
theorem dX3_roundedOff_7 : decode cX3_roundedOff 7 = .ok (.lload_n 3, 1) := by decide +kernel
theorem dX3_roundedOff_8 : decode cX3_roundedOff 8 = .ok (.lstore 7, 2) := by decide +kernel
theorem dX3_roundedOff_10 : decode cX3_roundedOff 10 = .ok (.lload 7, 2) := by decide +kernel
theorem dX3_roundedOff_12 : decode cX3_roundedOff 12 = .ok (.iload 5, 2) := by decide +kernel
theorem dX3_roundedOff_14 : decode cX3_roundedOff 14 = .ok (.iconst 1, 1) := by decide +kernel
theorem dX3_roundedOff_15 : decode cX3_roundedOff 15 = .ok (.iadd, 1) := by decide +kernel
theorem dX3_roundedOff_16 : decode cX3_roundedOff 16 = .ok (.lushr, 1) := by decide +kernel
theorem dX3_roundedOff_17 : decode cX3_roundedOff 17 = .ok (.lconst 0, 1) := by decide +kernel
theorem dX3_roundedOff_18 : decode cX3_roundedOff 18 = .ok (.lcmp, 1) := by decide +kernel
theorem dX3_roundedOff_19 : decode cX3_roundedOff 19 = .ok (.ifCond .eq 17, 3) := by decide +kernel
theorem dX3_roundedOff_22 : decode cX3_roundedOff 22 = .ok (.lload 7, 2) := by decide +kernel
theorem dX3_roundedOff_24 : decode cX3_roundedOff 24 = .ok (.iconst 1, 1) := by decide +kernel
theorem dX3_roundedOff_25 : decode cX3_roundedOff 25 = .ok (.invokestatic 39, 3) := by decide +kernel
theorem dX3_roundedOff_28 : decode cX3_roundedOff 28 = .ok (.lstore 7, 2) := by decide +kernel
theorem dX3_roundedOff_30 : decode cX3_roundedOff 30 = .ok (.iinc 6 1, 3) := by decide +kernel
theorem dX3_roundedOff_33 : decode cX3_roundedOff 33 = .ok (.goto 37, 3) := by decide +kernel
theorem dX3_roundedOff_36 : decode cX3_roundedOff 36 = .ok (.lload 7, 2) := by decide +kernel
theorem dX3_roundedOff_38 : decode cX3_roundedOff 38 = .ok (.invokestatic 51, 3) := by decide +kernel
theorem dX3_roundedOff_41 : decode cX3_roundedOff 41 = .ok (.bipush 63, 2) := by decide +kernel
theorem dX3_roundedOff_43 : decode cX3_roundedOff 43 = .ok (.iload 5, 2) := by decide +kernel
theorem dX3_roundedOff_45 : decode cX3_roundedOff 45 = .ok (.isub, 1) := by decide +kernel
theorem dX3_roundedOff_46 : decode cX3_roundedOff 46 = .ok (.isub, 1) := by decide +kernel
theorem dX3_roundedOff_47 : decode cX3_roundedOff 47 = .ok (.iload 6, 2) := by decide +kernel
theorem dX3_roundedOff_49 : decode cX3_roundedOff 49 = .ok (.iconst 1, 1) := by decide +kernel
theorem dX3_roundedOff_50 : decode cX3_roundedOff 50 = .ok (.isub, 1) := by decide +kernel
theorem dX3_roundedOff_51 : decode cX3_roundedOff 51 = .ok (.invokestatic 56, 3) := by decide +kernel
theorem dX3_roundedOff_54 : decode cX3_roundedOff 54 = .ok (.istore 9, 2) := by decide +kernel
theorem dX3_roundedOff_56 : decode cX3_roundedOff 56 = .ok (.lload 7, 2) := by decide +kernel
theorem dX3_roundedOff_58 : decode cX3_roundedOff 58 = .ok (.iload 9, 2) := by decide +kernel
theorem dX3_roundedOff_60 : decode cX3_roundedOff 60 = .ok (.lshl, 1) := by decide +kernel
theorem dX3_roundedOff_61 : decode cX3_roundedOff 61 = .ok (.lstore 7, 2) := by decide +kernel
theorem dX3_roundedOff_63 : decode cX3_roundedOff 63 = .ok (.iload 6, 2) := by decide +kernel
theorem dX3_roundedOff_65 : decode cX3_roundedOff 65 = .ok (.iload 9, 2) := by decide +kernel
theorem dX3_roundedOff_67 : decode cX3_roundedOff 67 = .ok (.isub, 1) := by decide +kernel
theorem dX3_roundedOff_68 : decode cX3_roundedOff 68 = .ok (.istore 6, 2) := by decide +kernel
theorem dX3_roundedOff_70 : decode cX3_roundedOff 70 = .ok (.lload 7, 2) := by decide +kernel
theorem dX3_roundedOff_72 : decode cX3_roundedOff 72 = .ok (.lconst 0, 1) := by decide +kernel
theorem dX3_roundedOff_73 : decode cX3_roundedOff 73 = .ok (.lcmp, 1) := by decide +kernel
theorem dX3_roundedOff_74 : decode cX3_roundedOff 74 = .ok (.ifCond .ne 5, 3) := by decide +kernel
theorem dX3_roundedOff_77 : decode cX3_roundedOff 77 = .ok (.lload_n 0, 1) := by decide +kernel
theorem dX3_roundedOff_78 : decode cX3_roundedOff 78 = .ok (.lreturn, 1) := by decide +kernel
theorem dX3_roundedOff_79 : decode cX3_roundedOff 79 = .ok (.lload 7, 2) := by decide +kernel
theorem dX3_roundedOff_81 : decode cX3_roundedOff 81 = .ok (.ldc2_w 59, 3) := by decide +kernel
theorem dX3_roundedOff_84 : decode cX3_roundedOff 84 = .ok (.land, 1) := by decide +kernel
theorem dX3_roundedOff_85 : decode cX3_roundedOff 85 = .ok (.lstore 9, 2) := by decide +kernel
theorem dX3_roundedOff_87 : decode cX3_roundedOff 87 = .ok (.ldc2_w 61, 3) := by decide +kernel
theorem dX3_roundedOff_90 : decode cX3_roundedOff 90 = .ok (.lstore 11, 2) := by decide +kernel
theorem dX3_roundedOff_92 : decode cX3_roundedOff 92 = .ok (.lload 7, 2) := by decide +kernel
theorem dX3_roundedOff_94 : decode cX3_roundedOff 94 = .ok (.bipush 8, 2) := by decide +kernel
theorem dX3_roundedOff_96 : decode cX3_roundedOff 96 = .ok (.lushr, 1) := by decide +kernel
theorem dX3_roundedOff_97 : decode cX3_roundedOff 97 = .ok (.lstore 7, 2) := by decide +kernel
theorem dX3_roundedOff_99 : decode cX3_roundedOff 99 = .ok (.lload 9, 2) := by decide +kernel
theorem dX3_roundedOff_101 : decode cX3_roundedOff 101 = .ok (.lload 11, 2) := by decide +kernel
theorem dX3_roundedOff_103 : decode cX3_roundedOff 103 = .ok (.lcmp, 1) := by decide +kernel
theorem dX3_roundedOff_104 : decode cX3_roundedOff 104 = .ok (.ifCond .gt 20, 3) := by decide +kernel
theorem dX3_roundedOff_107 : decode cX3_roundedOff 107 = .ok (.lload 9, 2) := by decide +kernel
theorem dX3_roundedOff_109 : decode cX3_roundedOff 109 = .ok (.lload 11, 2) := by decide +kernel
theorem dX3_roundedOff_111 : decode cX3_roundedOff 111 = .ok (.lcmp, 1) := by decide +kernel
theorem dX3_roundedOff_112 : decode cX3_roundedOff 112 = .ok (.ifCond .ne 18, 3) := by decide +kernel
theorem dX3_roundedOff_115 : decode cX3_roundedOff 115 = .ok (.lload 7, 2) := by decide +kernel
theorem dX3_roundedOff_117 : decode cX3_roundedOff 117 = .ok (.lconst 1, 1) := by decide +kernel
theorem dX3_roundedOff_118 : decode cX3_roundedOff 118 = .ok (.land, 1) := by decide +kernel
theorem dX3_roundedOff_119 : decode cX3_roundedOff 119 = .ok (.lconst 1, 1) := by decide +kernel
theorem dX3_roundedOff_120 : decode cX3_roundedOff 120 = .ok (.lcmp, 1) := by decide +kernel
theorem dX3_roundedOff_121 : decode cX3_roundedOff 121 = .ok (.ifCond .ne 9, 3) := by decide +kernel
theorem dX3_roundedOff_124 : decode cX3_roundedOff 124 = .ok (.lload 7, 2) := by decide +kernel
theorem dX3_roundedOff_126 : decode cX3_roundedOff 126 = .ok (.lconst 1, 1) := by decide +kernel
theorem dX3_roundedOff_127 : decode cX3_roundedOff 127 = .ok (.ladd, 1) := by decide +kernel
theorem dX3_roundedOff_128 : decode cX3_roundedOff 128 = .ok (.lstore 7, 2) := by decide +kernel
theorem dX3_roundedOff_130 : decode cX3_roundedOff 130 = .ok (.iload 6, 2) := by decide +kernel
theorem dX3_roundedOff_132 : decode cX3_roundedOff 132 = .ok (.sipush 2047, 3) := by decide +kernel
theorem dX3_roundedOff_135 : decode cX3_roundedOff 135 = .ok (.if_icmp .lt 9, 3) := by decide +kernel
theorem dX3_roundedOff_138 : decode cX3_roundedOff 138 = .ok (.ldc2_w 13, 3) := by decide +kernel
theorem dX3_roundedOff_141 : decode cX3_roundedOff 141 = .ok (.goto 14, 3) := by decide +kernel
theorem dX3_roundedOff_144 : decode cX3_roundedOff 144 = .ok (.iload 6, 2) := by decide +kernel
theorem dX3_roundedOff_146 : decode cX3_roundedOff 146 = .ok (.iconst 1, 1) := by decide +kernel
theorem dX3_roundedOff_147 : decode cX3_roundedOff 147 = .ok (.isub, 1) := by decide +kernel
theorem dX3_roundedOff_148 : decode cX3_roundedOff 148 = .ok (.i2l, 1) := by decide +kernel
theorem dX3_roundedOff_149 : decode cX3_roundedOff 149 = .ok (.bipush 52, 2) := by decide +kernel
theorem dX3_roundedOff_151 : decode cX3_roundedOff 151 = .ok (.lshl, 1) := by decide +kernel
theorem dX3_roundedOff_152 : decode cX3_roundedOff 152 = .ok (.lload 7, 2) := by decide +kernel
theorem dX3_roundedOff_154 : decode cX3_roundedOff 154 = .ok (.ladd, 1) := by decide +kernel
theorem dX3_roundedOff_155 : decode cX3_roundedOff 155 = .ok (.lstore 13, 2) := by decide +kernel
theorem dX3_roundedOff_157 : decode cX3_roundedOff 157 = .ok (.lload_n 0, 1) := by decide +kernel
theorem dX3_roundedOff_158 : decode cX3_roundedOff 158 = .ok (.lload 13, 2) := by decide +kernel
theorem dX3_roundedOff_160 : decode cX3_roundedOff 160 = .ok (.ldc2_w 13, 3) := by decide +kernel
theorem dX3_roundedOff_163 : decode cX3_roundedOff 163 = .ok (.invokestatic 63, 3) := by decide +kernel
theorem dX3_roundedOff_166 : decode cX3_roundedOff 166 = .ok (.lor, 1) := by decide +kernel
theorem dX3_roundedOff_167 : decode cX3_roundedOff 167 = .ok (.lreturn, 1) := by decide +kernel
theorem dX4_init_0 : decode cX4_init 0 = .ok (.aload_n 0, 1) := by decide +kernel
theorem dX4_init_1 : decode cX4_init 1 = .ok (.invokespecial 1, 3) := by decide +kernel
theorem dX4_init_4 : decode cX4_init 4 = .ok (.aload_n 0, 1) := by decide +kernel
theorem dX4_init_5 : decode cX4_init 5 = .ok (.aload_n 1, 1) := by decide +kernel
theorem dX4_init_6 : decode cX4_init 6 = .ok (.putfield 7, 3) := by decide +kernel
theorem dX4_init_9 : decode cX4_init 9 = .ok (.aload_n 0, 1) := by decide +kernel
theorem dX4_init_10 : decode cX4_init 10 = .ok (.aload_n 2, 1) := by decide +kernel
theorem dX4_init_11 : decode cX4_init 11 = .ok (.putfield 13, 3) := by decide +kernel
theorem dX4_init_14 : decode cX4_init 14 = .ok (.return_, 1) := by decide +kernel
theorem dX4_begin_0 : decode cX4_begin 0 = .ok (.aload_n 0, 1) := by decide +kernel
theorem dX4_begin_1 : decode cX4_begin 1 = .ok (.iconst 0, 1) := by decide +kernel
theorem dX4_begin_2 : decode cX4_begin 2 = .ok (.putfield 16, 3) := by decide +kernel
theorem dX4_begin_5 : decode cX4_begin 5 = .ok (.aload_n 0, 1) := by decide +kernel
theorem dX4_begin_6 : decode cX4_begin 6 = .ok (.iconst 0, 1) := by decide +kernel
theorem dX4_begin_7 : decode cX4_begin 7 = .ok (.putfield 20, 3) := by decide +kernel
theorem dX4_begin_10 : decode cX4_begin 10 = .ok (.aload_n 0, 1) := by decide +kernel
theorem dX4_begin_11 : decode cX4_begin 11 = .ok (.getfield 7, 3) := by decide +kernel
theorem dX4_begin_14 : decode cX4_begin 14 = .ok (.getfield 23, 3) := by decide +kernel
theorem dX4_begin_17 : decode cX4_begin 17 = .ok (.aload_n 0, 1) := by decide +kernel
theorem dX4_begin_18 : decode cX4_begin 18 = .ok (.getfield 13, 3) := by decide +kernel
theorem dX4_begin_21 : decode cX4_begin 21 = .ok (.getfield 23, 3) := by decide +kernel
theorem dX4_begin_24 : decode cX4_begin 24 = .ok (.iadd, 1) := by decide +kernel
theorem dX4_begin_25 : decode cX4_begin 25 = .ok (.ireturn, 1) := by decide +kernel
theorem dX4_advance_0 : decode cX4_advance 0 = .ok (.aload_n 0, 1) := by decide +kernel
theorem dX4_advance_1 : decode cX4_advance 1 = .ok (.getfield 16, 3) := by decide +kernel
theorem dX4_advance_4 : decode cX4_advance 4 = .ok (.aload_n 0, 1) := by decide +kernel
theorem dX4_advance_5 : decode cX4_advance 5 = .ok (.getfield 7, 3) := by decide +kernel
theorem dX4_advance_8 : decode cX4_advance 8 = .ok (.getfield 23, 3) := by decide +kernel
theorem dX4_advance_11 : decode cX4_advance 11 = .ok (.if_icmp .ge 7, 3) := by decide +kernel
theorem dX4_advance_14 : decode cX4_advance 14 = .ok (.iconst 1, 1) := by decide +kernel
theorem dX4_advance_15 : decode cX4_advance 15 = .ok (.goto 4, 3) := by decide +kernel
theorem dX4_advance_18 : decode cX4_advance 18 = .ok (.iconst 0, 1) := by decide +kernel
theorem dX4_advance_19 : decode cX4_advance 19 = .ok (.istore_n 1, 1) := by decide +kernel
theorem dX4_advance_20 : decode cX4_advance 20 = .ok (.aload_n 0, 1) := by decide +kernel
theorem dX4_advance_21 : decode cX4_advance 21 = .ok (.getfield 20, 3) := by decide +kernel
theorem dX4_advance_24 : decode cX4_advance 24 = .ok (.aload_n 0, 1) := by decide +kernel
theorem dX4_advance_25 : decode cX4_advance 25 = .ok (.getfield 13, 3) := by decide +kernel
theorem dX4_advance_28 : decode cX4_advance 28 = .ok (.getfield 23, 3) := by decide +kernel
theorem dX4_advance_31 : decode cX4_advance 31 = .ok (.if_icmp .ge 7, 3) := by decide +kernel
theorem dX4_advance_34 : decode cX4_advance 34 = .ok (.iconst 1, 1) := by decide +kernel
theorem dX4_advance_35 : decode cX4_advance 35 = .ok (.goto 4, 3) := by decide +kernel
theorem dX4_advance_38 : decode cX4_advance 38 = .ok (.iconst 0, 1) := by decide +kernel
theorem dX4_advance_39 : decode cX4_advance 39 = .ok (.istore_n 2, 1) := by decide +kernel
theorem dX4_advance_40 : decode cX4_advance 40 = .ok (.iload_n 1, 1) := by decide +kernel
theorem dX4_advance_41 : decode cX4_advance 41 = .ok (.ifCond .ne 9, 3) := by decide +kernel
theorem dX4_advance_44 : decode cX4_advance 44 = .ok (.iload_n 2, 1) := by decide +kernel
theorem dX4_advance_45 : decode cX4_advance 45 = .ok (.ifCond .ne 5, 3) := by decide +kernel
theorem dX4_advance_48 : decode cX4_advance 48 = .ok (.iconst 0, 1) := by decide +kernel
theorem dX4_advance_49 : decode cX4_advance 49 = .ok (.ireturn, 1) := by decide +kernel
theorem dX4_advance_50 : decode cX4_advance 50 = .ok (.aload_n 0, 1) := by decide +kernel
theorem dX4_advance_51 : decode cX4_advance 51 = .ok (.iload_n 1, 1) := by decide +kernel
theorem dX4_advance_52 : decode cX4_advance 52 = .ok (.ifCond .eq 38, 3) := by decide +kernel
theorem dX4_advance_55 : decode cX4_advance 55 = .ok (.iload_n 2, 1) := by decide +kernel
theorem dX4_advance_56 : decode cX4_advance 56 = .ok (.ifCond .eq 30, 3) := by decide +kernel
theorem dX4_advance_59 : decode cX4_advance 59 = .ok (.aload_n 0, 1) := by decide +kernel
theorem dX4_advance_60 : decode cX4_advance 60 = .ok (.getfield 7, 3) := by decide +kernel
theorem dX4_advance_63 : decode cX4_advance 63 = .ok (.getfield 28, 3) := by decide +kernel
theorem dX4_advance_66 : decode cX4_advance 66 = .ok (.aload_n 0, 1) := by decide +kernel
theorem dX4_advance_67 : decode cX4_advance 67 = .ok (.getfield 16, 3) := by decide +kernel
theorem dX4_advance_70 : decode cX4_advance 70 = .ok (.iaload, 1) := by decide +kernel
theorem dX4_advance_71 : decode cX4_advance 71 = .ok (.aload_n 0, 1) := by decide +kernel
theorem dX4_advance_72 : decode cX4_advance 72 = .ok (.getfield 13, 3) := by decide +kernel
theorem dX4_advance_75 : decode cX4_advance 75 = .ok (.getfield 28, 3) := by decide +kernel
theorem dX4_advance_78 : decode cX4_advance 78 = .ok (.aload_n 0, 1) := by decide +kernel
theorem dX4_advance_79 : decode cX4_advance 79 = .ok (.getfield 20, 3) := by decide +kernel
theorem dX4_advance_82 : decode cX4_advance 82 = .ok (.iaload, 1) := by decide +kernel
theorem dX4_advance_83 : decode cX4_advance 83 = .ok (.if_icmp .gt 7, 3) := by decide +kernel
theorem dX4_advance_86 : decode cX4_advance 86 = .ok (.iconst 1, 1) := by decide +kernel
theorem dX4_advance_87 : decode cX4_advance 87 = .ok (.goto 4, 3) := by decide +kernel
theorem dX4_advance_90 : decode cX4_advance 90 = .ok (.iconst 0, 1) := by decide +kernel
theorem dX4_advance_91 : decode cX4_advance 91 = .ok (.putfield 32, 3) := by decide +kernel
theorem dX4_advance_94 : decode cX4_advance 94 = .ok (.aload_n 0, 1) := by decide +kernel
theorem dX4_advance_95 : decode cX4_advance 95 = .ok (.iload_n 2, 1) := by decide +kernel
theorem dX4_advance_96 : decode cX4_advance 96 = .ok (.ifCond .eq 38, 3) := by decide +kernel
theorem dX4_advance_99 : decode cX4_advance 99 = .ok (.iload_n 1, 1) := by decide +kernel
theorem dX4_advance_100 : decode cX4_advance 100 = .ok (.ifCond .eq 30, 3) := by decide +kernel
theorem dX4_advance_103 : decode cX4_advance 103 = .ok (.aload_n 0, 1) := by decide +kernel
theorem dX4_advance_104 : decode cX4_advance 104 = .ok (.getfield 13, 3) := by decide +kernel
theorem dX4_advance_107 : decode cX4_advance 107 = .ok (.getfield 28, 3) := by decide +kernel
theorem dX4_advance_110 : decode cX4_advance 110 = .ok (.aload_n 0, 1) := by decide +kernel
theorem dX4_advance_111 : decode cX4_advance 111 = .ok (.getfield 20, 3) := by decide +kernel
theorem dX4_advance_114 : decode cX4_advance 114 = .ok (.iaload, 1) := by decide +kernel
theorem dX4_advance_115 : decode cX4_advance 115 = .ok (.aload_n 0, 1) := by decide +kernel
theorem dX4_advance_116 : decode cX4_advance 116 = .ok (.getfield 7, 3) := by decide +kernel
theorem dX4_advance_119 : decode cX4_advance 119 = .ok (.getfield 28, 3) := by decide +kernel
theorem dX4_advance_122 : decode cX4_advance 122 = .ok (.aload_n 0, 1) := by decide +kernel
theorem dX4_advance_123 : decode cX4_advance 123 = .ok (.getfield 16, 3) := by decide +kernel
theorem dX4_advance_126 : decode cX4_advance 126 = .ok (.iaload, 1) := by decide +kernel
theorem dX4_advance_127 : decode cX4_advance 127 = .ok (.if_icmp .gt 7, 3) := by decide +kernel
theorem dX4_advance_130 : decode cX4_advance 130 = .ok (.iconst 1, 1) := by decide +kernel
theorem dX4_advance_131 : decode cX4_advance 131 = .ok (.goto 4, 3) := by decide +kernel
theorem dX4_advance_134 : decode cX4_advance 134 = .ok (.iconst 0, 1) := by decide +kernel
theorem dX4_advance_135 : decode cX4_advance 135 = .ok (.putfield 36, 3) := by decide +kernel
theorem dX4_advance_138 : decode cX4_advance 138 = .ok (.aload_n 0, 1) := by decide +kernel
theorem dX4_advance_139 : decode cX4_advance 139 = .ok (.aload_n 0, 1) := by decide +kernel
theorem dX4_advance_140 : decode cX4_advance 140 = .ok (.getfield 32, 3) := by decide +kernel
theorem dX4_advance_143 : decode cX4_advance 143 = .ok (.ifCond .eq 42, 3) := by decide +kernel
theorem dX4_advance_146 : decode cX4_advance 146 = .ok (.aload_n 0, 1) := by decide +kernel
theorem dX4_advance_147 : decode cX4_advance 147 = .ok (.getfield 36, 3) := by decide +kernel
theorem dX4_advance_150 : decode cX4_advance 150 = .ok (.ifCond .eq 35, 3) := by decide +kernel
theorem dX4_advance_153 : decode cX4_advance 153 = .ok (.aload_n 0, 1) := by decide +kernel
theorem dX4_advance_154 : decode cX4_advance 154 = .ok (.getfield 7, 3) := by decide +kernel
theorem dX4_advance_157 : decode cX4_advance 157 = .ok (.getfield 39, 3) := by decide +kernel
theorem dX4_advance_160 : decode cX4_advance 160 = .ok (.aload_n 0, 1) := by decide +kernel
theorem dX4_advance_161 : decode cX4_advance 161 = .ok (.getfield 16, 3) := by decide +kernel
theorem dX4_advance_164 : decode cX4_advance 164 = .ok (.laload, 1) := by decide +kernel
theorem dX4_advance_165 : decode cX4_advance 165 = .ok (.aload_n 0, 1) := by decide +kernel
theorem dX4_advance_166 : decode cX4_advance 166 = .ok (.getfield 13, 3) := by decide +kernel
theorem dX4_advance_169 : decode cX4_advance 169 = .ok (.getfield 39, 3) := by decide +kernel
theorem dX4_advance_172 : decode cX4_advance 172 = .ok (.aload_n 0, 1) := by decide +kernel
theorem dX4_advance_173 : decode cX4_advance 173 = .ok (.getfield 20, 3) := by decide +kernel
theorem dX4_advance_176 : decode cX4_advance 176 = .ok (.laload, 1) := by decide +kernel
theorem dX4_advance_177 : decode cX4_advance 177 = .ok (.lcmp, 1) := by decide +kernel
theorem dX4_advance_178 : decode cX4_advance 178 = .ok (.ifCond .ne 7, 3) := by decide +kernel
theorem dX4_advance_181 : decode cX4_advance 181 = .ok (.iconst 1, 1) := by decide +kernel
theorem dX4_advance_182 : decode cX4_advance 182 = .ok (.goto 4, 3) := by decide +kernel
theorem dX4_advance_185 : decode cX4_advance 185 = .ok (.iconst 0, 1) := by decide +kernel
theorem dX4_advance_186 : decode cX4_advance 186 = .ok (.putfield 43, 3) := by decide +kernel
theorem dX4_advance_189 : decode cX4_advance 189 = .ok (.aload_n 0, 1) := by decide +kernel
theorem dX4_advance_190 : decode cX4_advance 190 = .ok (.aload_n 0, 1) := by decide +kernel
theorem dX4_advance_191 : decode cX4_advance 191 = .ok (.getfield 32, 3) := by decide +kernel
theorem dX4_advance_194 : decode cX4_advance 194 = .ok (.ifCond .eq 18, 3) := by decide +kernel
theorem dX4_advance_197 : decode cX4_advance 197 = .ok (.aload_n 0, 1) := by decide +kernel
theorem dX4_advance_198 : decode cX4_advance 198 = .ok (.getfield 7, 3) := by decide +kernel
theorem dX4_advance_201 : decode cX4_advance 201 = .ok (.getfield 28, 3) := by decide +kernel
theorem dX4_advance_204 : decode cX4_advance 204 = .ok (.aload_n 0, 1) := by decide +kernel
theorem dX4_advance_205 : decode cX4_advance 205 = .ok (.getfield 16, 3) := by decide +kernel
theorem dX4_advance_208 : decode cX4_advance 208 = .ok (.iaload, 1) := by decide +kernel
theorem dX4_advance_209 : decode cX4_advance 209 = .ok (.goto 15, 3) := by decide +kernel
theorem dX4_advance_212 : decode cX4_advance 212 = .ok (.aload_n 0, 1) := by decide +kernel
theorem dX4_advance_213 : decode cX4_advance 213 = .ok (.getfield 13, 3) := by decide +kernel
theorem dX4_advance_216 : decode cX4_advance 216 = .ok (.getfield 28, 3) := by decide +kernel
theorem dX4_advance_219 : decode cX4_advance 219 = .ok (.aload_n 0, 1) := by decide +kernel
theorem dX4_advance_220 : decode cX4_advance 220 = .ok (.getfield 20, 3) := by decide +kernel
theorem dX4_advance_223 : decode cX4_advance 223 = .ok (.iaload, 1) := by decide +kernel
theorem dX4_advance_224 : decode cX4_advance 224 = .ok (.putfield 46, 3) := by decide +kernel
theorem dX4_advance_227 : decode cX4_advance 227 = .ok (.aload_n 0, 1) := by decide +kernel
theorem dX4_advance_228 : decode cX4_advance 228 = .ok (.aload_n 0, 1) := by decide +kernel
theorem dX4_advance_229 : decode cX4_advance 229 = .ok (.getfield 32, 3) := by decide +kernel
theorem dX4_advance_232 : decode cX4_advance 232 = .ok (.ifCond .eq 18, 3) := by decide +kernel
theorem dX4_advance_235 : decode cX4_advance 235 = .ok (.aload_n 0, 1) := by decide +kernel
theorem dX4_advance_236 : decode cX4_advance 236 = .ok (.getfield 7, 3) := by decide +kernel
theorem dX4_advance_239 : decode cX4_advance 239 = .ok (.getfield 39, 3) := by decide +kernel
theorem dX4_advance_242 : decode cX4_advance 242 = .ok (.aload_n 0, 1) := by decide +kernel
theorem dX4_advance_243 : decode cX4_advance 243 = .ok (.getfield 16, 3) := by decide +kernel
theorem dX4_advance_246 : decode cX4_advance 246 = .ok (.laload, 1) := by decide +kernel
theorem dX4_advance_247 : decode cX4_advance 247 = .ok (.goto 15, 3) := by decide +kernel
theorem dX4_advance_250 : decode cX4_advance 250 = .ok (.aload_n 0, 1) := by decide +kernel
theorem dX4_advance_251 : decode cX4_advance 251 = .ok (.getfield 13, 3) := by decide +kernel
theorem dX4_advance_254 : decode cX4_advance 254 = .ok (.getfield 39, 3) := by decide +kernel
theorem dX4_advance_257 : decode cX4_advance 257 = .ok (.aload_n 0, 1) := by decide +kernel
theorem dX4_advance_258 : decode cX4_advance 258 = .ok (.getfield 20, 3) := by decide +kernel
theorem dX4_advance_261 : decode cX4_advance 261 = .ok (.laload, 1) := by decide +kernel
theorem dX4_advance_262 : decode cX4_advance 262 = .ok (.putfield 49, 3) := by decide +kernel
theorem dX4_advance_265 : decode cX4_advance 265 = .ok (.aload_n 0, 1) := by decide +kernel
theorem dX4_advance_266 : decode cX4_advance 266 = .ok (.dup, 1) := by decide +kernel
theorem dX4_advance_267 : decode cX4_advance 267 = .ok (.getfield 16, 3) := by decide +kernel
theorem dX4_advance_270 : decode cX4_advance 270 = .ok (.aload_n 0, 1) := by decide +kernel
theorem dX4_advance_271 : decode cX4_advance 271 = .ok (.getfield 32, 3) := by decide +kernel
theorem dX4_advance_274 : decode cX4_advance 274 = .ok (.ifCond .eq 7, 3) := by decide +kernel
theorem dX4_advance_277 : decode cX4_advance 277 = .ok (.iconst 1, 1) := by decide +kernel
theorem dX4_advance_278 : decode cX4_advance 278 = .ok (.goto 4, 3) := by decide +kernel
theorem dX4_advance_281 : decode cX4_advance 281 = .ok (.iconst 0, 1) := by decide +kernel
theorem dX4_advance_282 : decode cX4_advance 282 = .ok (.iadd, 1) := by decide +kernel
theorem dX4_advance_283 : decode cX4_advance 283 = .ok (.putfield 16, 3) := by decide +kernel
theorem dX4_advance_286 : decode cX4_advance 286 = .ok (.aload_n 0, 1) := by decide +kernel
theorem dX4_advance_287 : decode cX4_advance 287 = .ok (.dup, 1) := by decide +kernel
theorem dX4_advance_288 : decode cX4_advance 288 = .ok (.getfield 20, 3) := by decide +kernel
theorem dX4_advance_291 : decode cX4_advance 291 = .ok (.aload_n 0, 1) := by decide +kernel
theorem dX4_advance_292 : decode cX4_advance 292 = .ok (.getfield 36, 3) := by decide +kernel
theorem dX4_advance_295 : decode cX4_advance 295 = .ok (.ifCond .eq 7, 3) := by decide +kernel
theorem dX4_advance_298 : decode cX4_advance 298 = .ok (.iconst 1, 1) := by decide +kernel
theorem dX4_advance_299 : decode cX4_advance 299 = .ok (.goto 4, 3) := by decide +kernel
theorem dX4_advance_302 : decode cX4_advance 302 = .ok (.iconst 0, 1) := by decide +kernel
theorem dX4_advance_303 : decode cX4_advance 303 = .ok (.iadd, 1) := by decide +kernel
theorem dX4_advance_304 : decode cX4_advance 304 = .ok (.putfield 20, 3) := by decide +kernel
theorem dX4_advance_307 : decode cX4_advance 307 = .ok (.iconst 1, 1) := by decide +kernel
theorem dX4_advance_308 : decode cX4_advance 308 = .ok (.ireturn, 1) := by decide +kernel
theorem dX4_isInBoth_0 : decode cX4_isInBoth 0 = .ok (.aload_n 0, 1) := by decide +kernel
theorem dX4_isInBoth_1 : decode cX4_isInBoth 1 = .ok (.getfield 32, 3) := by decide +kernel
theorem dX4_isInBoth_4 : decode cX4_isInBoth 4 = .ok (.ifCond .eq 14, 3) := by decide +kernel
theorem dX4_isInBoth_7 : decode cX4_isInBoth 7 = .ok (.aload_n 0, 1) := by decide +kernel
theorem dX4_isInBoth_8 : decode cX4_isInBoth 8 = .ok (.getfield 36, 3) := by decide +kernel
theorem dX4_isInBoth_11 : decode cX4_isInBoth 11 = .ok (.ifCond .eq 7, 3) := by decide +kernel
theorem dX4_isInBoth_14 : decode cX4_isInBoth 14 = .ok (.iconst 1, 1) := by decide +kernel
theorem dX4_isInBoth_15 : decode cX4_isInBoth 15 = .ok (.goto 4, 3) := by decide +kernel
theorem dX4_isInBoth_18 : decode cX4_isInBoth 18 = .ok (.iconst 0, 1) := by decide +kernel
theorem dX4_isInBoth_19 : decode cX4_isInBoth 19 = .ok (.ireturn, 1) := by decide +kernel
theorem dX4_isAlike_0 : decode cX4_isAlike 0 = .ok (.aload_n 0, 1) := by decide +kernel
theorem dX4_isAlike_1 : decode cX4_isAlike 1 = .ok (.getfield 43, 3) := by decide +kernel
theorem dX4_isAlike_4 : decode cX4_isAlike 4 = .ok (.ireturn, 1) := by decide +kernel
theorem dX5_init_0 : decode cX5_init 0 = .ok (.aload_n 0, 1) := by decide +kernel
theorem dX5_init_1 : decode cX5_init 1 = .ok (.invokespecial 3, 3) := by decide +kernel
theorem dX5_init_4 : decode cX5_init 4 = .ok (.aload_n 0, 1) := by decide +kernel
theorem dX5_init_5 : decode cX5_init 5 = .ok (.iload_n 1, 1) := by decide +kernel
theorem dX5_init_6 : decode cX5_init 6 = .ok (.newarray .int, 2) := by decide +kernel
theorem dX5_init_8 : decode cX5_init 8 = .ok (.putfield 9, 3) := by decide +kernel
theorem dX5_init_11 : decode cX5_init 11 = .ok (.aload_n 0, 1) := by decide +kernel
theorem dX5_init_12 : decode cX5_init 12 = .ok (.iload_n 1, 1) := by decide +kernel
theorem dX5_init_13 : decode cX5_init 13 = .ok (.newarray .long, 2) := by decide +kernel
theorem dX5_init_15 : decode cX5_init 15 = .ok (.putfield 15, 3) := by decide +kernel
theorem dX5_init_18 : decode cX5_init 18 = .ok (.return_, 1) := by decide +kernel
theorem dX5_push_0 : decode cX5_push 0 = .ok (.aload_n 0, 1) := by decide +kernel
theorem dX5_push_1 : decode cX5_push 1 = .ok (.getfield 19, 3) := by decide +kernel
theorem dX5_push_4 : decode cX5_push 4 = .ok (.aload_n 0, 1) := by decide +kernel
theorem dX5_push_5 : decode cX5_push 5 = .ok (.getfield 9, 3) := by decide +kernel
theorem dX5_push_8 : decode cX5_push 8 = .ok (.arraylength, 1) := by decide +kernel
theorem dX5_push_9 : decode cX5_push 9 = .ok (.if_icmp .ge 33, 3) := by decide +kernel
theorem dX5_push_12 : decode cX5_push 12 = .ok (.aload_n 0, 1) := by decide +kernel
theorem dX5_push_13 : decode cX5_push 13 = .ok (.getfield 9, 3) := by decide +kernel
theorem dX5_push_16 : decode cX5_push 16 = .ok (.aload_n 0, 1) := by decide +kernel
theorem dX5_push_17 : decode cX5_push 17 = .ok (.getfield 19, 3) := by decide +kernel
theorem dX5_push_20 : decode cX5_push 20 = .ok (.iload_n 1, 1) := by decide +kernel
theorem dX5_push_21 : decode cX5_push 21 = .ok (.iastore, 1) := by decide +kernel
theorem dX5_push_22 : decode cX5_push 22 = .ok (.aload_n 0, 1) := by decide +kernel
theorem dX5_push_23 : decode cX5_push 23 = .ok (.getfield 15, 3) := by decide +kernel
theorem dX5_push_26 : decode cX5_push 26 = .ok (.aload_n 0, 1) := by decide +kernel
theorem dX5_push_27 : decode cX5_push 27 = .ok (.getfield 19, 3) := by decide +kernel
theorem dX5_push_30 : decode cX5_push 30 = .ok (.lload_n 2, 1) := by decide +kernel
theorem dX5_push_31 : decode cX5_push 31 = .ok (.lastore, 1) := by decide +kernel
theorem dX5_push_32 : decode cX5_push 32 = .ok (.aload_n 0, 1) := by decide +kernel
theorem dX5_push_33 : decode cX5_push 33 = .ok (.dup, 1) := by decide +kernel
theorem dX5_push_34 : decode cX5_push 34 = .ok (.getfield 19, 3) := by decide +kernel
theorem dX5_push_37 : decode cX5_push 37 = .ok (.iconst 1, 1) := by decide +kernel
theorem dX5_push_38 : decode cX5_push 38 = .ok (.iadd, 1) := by decide +kernel
theorem dX5_push_39 : decode cX5_push 39 = .ok (.putfield 19, 3) := by decide +kernel
theorem dX5_push_42 : decode cX5_push 42 = .ok (.return_, 1) := by decide +kernel
theorem dX5_become_0 : decode cX5_become 0 = .ok (.aload_n 0, 1) := by decide +kernel
theorem dX5_become_1 : decode cX5_become 1 = .ok (.iconst 0, 1) := by decide +kernel
theorem dX5_become_2 : decode cX5_become 2 = .ok (.putfield 19, 3) := by decide +kernel
theorem dX5_become_5 : decode cX5_become 5 = .ok (.iconst 0, 1) := by decide +kernel
theorem dX5_become_6 : decode cX5_become 6 = .ok (.istore_n 2, 1) := by decide +kernel
theorem dX5_become_7 : decode cX5_become 7 = .ok (.iload_n 2, 1) := by decide +kernel
theorem dX5_become_8 : decode cX5_become 8 = .ok (.aload_n 1, 1) := by decide +kernel
theorem dX5_become_9 : decode cX5_become 9 = .ok (.getfield 19, 3) := by decide +kernel
theorem dX5_become_12 : decode cX5_become 12 = .ok (.if_icmp .ge 25, 3) := by decide +kernel
theorem dX5_become_15 : decode cX5_become 15 = .ok (.aload_n 0, 1) := by decide +kernel
theorem dX5_become_16 : decode cX5_become 16 = .ok (.aload_n 1, 1) := by decide +kernel
theorem dX5_become_17 : decode cX5_become 17 = .ok (.getfield 9, 3) := by decide +kernel
theorem dX5_become_20 : decode cX5_become 20 = .ok (.iload_n 2, 1) := by decide +kernel
theorem dX5_become_21 : decode cX5_become 21 = .ok (.iaload, 1) := by decide +kernel
theorem dX5_become_22 : decode cX5_become 22 = .ok (.aload_n 1, 1) := by decide +kernel
theorem dX5_become_23 : decode cX5_become 23 = .ok (.getfield 15, 3) := by decide +kernel
theorem dX5_become_26 : decode cX5_become 26 = .ok (.iload_n 2, 1) := by decide +kernel
theorem dX5_become_27 : decode cX5_become 27 = .ok (.laload, 1) := by decide +kernel
theorem dX5_become_28 : decode cX5_become 28 = .ok (.invokevirtual 23, 3) := by decide +kernel
theorem dX5_become_31 : decode cX5_become 31 = .ok (.iinc 2 1, 3) := by decide +kernel
theorem dX5_become_34 : decode cX5_become 34 = .ok (.goto (-27), 3) := by decide +kernel
theorem dX5_become_37 : decode cX5_become 37 = .ok (.return_, 1) := by decide +kernel
theorem dX5_firstFrom_0 : decode cX5_firstFrom 0 = .ok (.iconst 0, 1) := by decide +kernel
theorem dX5_firstFrom_1 : decode cX5_firstFrom 1 = .ok (.istore_n 2, 1) := by decide +kernel
theorem dX5_firstFrom_2 : decode cX5_firstFrom 2 = .ok (.iload_n 2, 1) := by decide +kernel
theorem dX5_firstFrom_3 : decode cX5_firstFrom 3 = .ok (.aload_n 0, 1) := by decide +kernel
theorem dX5_firstFrom_4 : decode cX5_firstFrom 4 = .ok (.getfield 19, 3) := by decide +kernel
theorem dX5_firstFrom_7 : decode cX5_firstFrom 7 = .ok (.if_icmp .ge 19, 3) := by decide +kernel
theorem dX5_firstFrom_10 : decode cX5_firstFrom 10 = .ok (.aload_n 0, 1) := by decide +kernel
theorem dX5_firstFrom_11 : decode cX5_firstFrom 11 = .ok (.getfield 9, 3) := by decide +kernel
theorem dX5_firstFrom_14 : decode cX5_firstFrom 14 = .ok (.iload_n 2, 1) := by decide +kernel
theorem dX5_firstFrom_15 : decode cX5_firstFrom 15 = .ok (.iaload, 1) := by decide +kernel
theorem dX5_firstFrom_16 : decode cX5_firstFrom 16 = .ok (.iload_n 1, 1) := by decide +kernel
theorem dX5_firstFrom_17 : decode cX5_firstFrom 17 = .ok (.if_icmp .ge 9, 3) := by decide +kernel
theorem dX5_firstFrom_20 : decode cX5_firstFrom 20 = .ok (.iinc 2 1, 3) := by decide +kernel
theorem dX5_firstFrom_23 : decode cX5_firstFrom 23 = .ok (.goto (-21), 3) := by decide +kernel
theorem dX5_firstFrom_26 : decode cX5_firstFrom 26 = .ok (.iload_n 2, 1) := by decide +kernel
theorem dX5_firstFrom_27 : decode cX5_firstFrom 27 = .ok (.ireturn, 1) := by decide +kernel
theorem dX5_holds_0 : decode cX5_holds 0 = .ok (.aload_n 0, 1) := by decide +kernel
theorem dX5_holds_1 : decode cX5_holds 1 = .ok (.iload_n 1, 1) := by decide +kernel
theorem dX5_holds_2 : decode cX5_holds 2 = .ok (.invokevirtual 27, 3) := by decide +kernel
theorem dX5_holds_5 : decode cX5_holds 5 = .ok (.istore_n 2, 1) := by decide +kernel
theorem dX5_holds_6 : decode cX5_holds 6 = .ok (.iload_n 2, 1) := by decide +kernel
theorem dX5_holds_7 : decode cX5_holds 7 = .ok (.aload_n 0, 1) := by decide +kernel
theorem dX5_holds_8 : decode cX5_holds 8 = .ok (.getfield 19, 3) := by decide +kernel
theorem dX5_holds_11 : decode cX5_holds 11 = .ok (.if_icmp .ge 17, 3) := by decide +kernel
theorem dX5_holds_14 : decode cX5_holds 14 = .ok (.aload_n 0, 1) := by decide +kernel
theorem dX5_holds_15 : decode cX5_holds 15 = .ok (.getfield 9, 3) := by decide +kernel
theorem dX5_holds_18 : decode cX5_holds 18 = .ok (.iload_n 2, 1) := by decide +kernel
theorem dX5_holds_19 : decode cX5_holds 19 = .ok (.iaload, 1) := by decide +kernel
theorem dX5_holds_20 : decode cX5_holds 20 = .ok (.iload_n 1, 1) := by decide +kernel
theorem dX5_holds_21 : decode cX5_holds 21 = .ok (.if_icmp .ne 7, 3) := by decide +kernel
theorem dX5_holds_24 : decode cX5_holds 24 = .ok (.iconst 1, 1) := by decide +kernel
theorem dX5_holds_25 : decode cX5_holds 25 = .ok (.goto 4, 3) := by decide +kernel
theorem dX5_holds_28 : decode cX5_holds 28 = .ok (.iconst 0, 1) := by decide +kernel
theorem dX5_holds_29 : decode cX5_holds 29 = .ok (.ireturn, 1) := by decide +kernel
theorem dX5_insert_0 : decode cX5_insert 0 = .ok (.aload_n 0, 1) := by decide +kernel
theorem dX5_insert_1 : decode cX5_insert 1 = .ok (.iload_n 1, 1) := by decide +kernel
theorem dX5_insert_2 : decode cX5_insert 2 = .ok (.invokevirtual 27, 3) := by decide +kernel
theorem dX5_insert_5 : decode cX5_insert 5 = .ok (.istore 4, 2) := by decide +kernel
theorem dX5_insert_7 : decode cX5_insert 7 = .ok (.iload 4, 2) := by decide +kernel
theorem dX5_insert_9 : decode cX5_insert 9 = .ok (.aload_n 0, 1) := by decide +kernel
theorem dX5_insert_10 : decode cX5_insert 10 = .ok (.getfield 19, 3) := by decide +kernel
theorem dX5_insert_13 : decode cX5_insert 13 = .ok (.if_icmp .ge 24, 3) := by decide +kernel
theorem dX5_insert_16 : decode cX5_insert 16 = .ok (.aload_n 0, 1) := by decide +kernel
theorem dX5_insert_17 : decode cX5_insert 17 = .ok (.getfield 9, 3) := by decide +kernel
theorem dX5_insert_20 : decode cX5_insert 20 = .ok (.iload 4, 2) := by decide +kernel
theorem dX5_insert_22 : decode cX5_insert 22 = .ok (.iaload, 1) := by decide +kernel
theorem dX5_insert_23 : decode cX5_insert 23 = .ok (.iload_n 1, 1) := by decide +kernel
theorem dX5_insert_24 : decode cX5_insert 24 = .ok (.if_icmp .ne 13, 3) := by decide +kernel
theorem dX5_insert_27 : decode cX5_insert 27 = .ok (.aload_n 0, 1) := by decide +kernel
theorem dX5_insert_28 : decode cX5_insert 28 = .ok (.getfield 15, 3) := by decide +kernel
theorem dX5_insert_31 : decode cX5_insert 31 = .ok (.iload 4, 2) := by decide +kernel
theorem dX5_insert_33 : decode cX5_insert 33 = .ok (.lload_n 2, 1) := by decide +kernel
theorem dX5_insert_34 : decode cX5_insert 34 = .ok (.lastore, 1) := by decide +kernel
theorem dX5_insert_35 : decode cX5_insert 35 = .ok (.iconst 1, 1) := by decide +kernel
theorem dX5_insert_36 : decode cX5_insert 36 = .ok (.ireturn, 1) := by decide +kernel
theorem dX5_insert_37 : decode cX5_insert 37 = .ok (.aload_n 0, 1) := by decide +kernel
theorem dX5_insert_38 : decode cX5_insert 38 = .ok (.getfield 19, 3) := by decide +kernel
theorem dX5_insert_41 : decode cX5_insert 41 = .ok (.aload_n 0, 1) := by decide +kernel
theorem dX5_insert_42 : decode cX5_insert 42 = .ok (.getfield 9, 3) := by decide +kernel
theorem dX5_insert_45 : decode cX5_insert 45 = .ok (.arraylength, 1) := by decide +kernel
theorem dX5_insert_46 : decode cX5_insert 46 = .ok (.if_icmp .lt 5, 3) := by decide +kernel
theorem dX5_insert_49 : decode cX5_insert 49 = .ok (.iconst 0, 1) := by decide +kernel
theorem dX5_insert_50 : decode cX5_insert 50 = .ok (.ireturn, 1) := by decide +kernel
theorem dX5_insert_51 : decode cX5_insert 51 = .ok (.aload_n 0, 1) := by decide +kernel
theorem dX5_insert_52 : decode cX5_insert 52 = .ok (.getfield 19, 3) := by decide +kernel
theorem dX5_insert_55 : decode cX5_insert 55 = .ok (.istore 5, 2) := by decide +kernel
theorem dX5_insert_57 : decode cX5_insert 57 = .ok (.iload 5, 2) := by decide +kernel
theorem dX5_insert_59 : decode cX5_insert 59 = .ok (.iload 4, 2) := by decide +kernel
theorem dX5_insert_61 : decode cX5_insert 61 = .ok (.if_icmp .le 41, 3) := by decide +kernel
theorem dX5_insert_64 : decode cX5_insert 64 = .ok (.aload_n 0, 1) := by decide +kernel
theorem dX5_insert_65 : decode cX5_insert 65 = .ok (.getfield 9, 3) := by decide +kernel
theorem dX5_insert_68 : decode cX5_insert 68 = .ok (.iload 5, 2) := by decide +kernel
theorem dX5_insert_70 : decode cX5_insert 70 = .ok (.aload_n 0, 1) := by decide +kernel
theorem dX5_insert_71 : decode cX5_insert 71 = .ok (.getfield 9, 3) := by decide +kernel
theorem dX5_insert_74 : decode cX5_insert 74 = .ok (.iload 5, 2) := by decide +kernel
theorem dX5_insert_76 : decode cX5_insert 76 = .ok (.iconst 1, 1) := by decide +kernel
theorem dX5_insert_77 : decode cX5_insert 77 = .ok (.isub, 1) := by decide +kernel
theorem dX5_insert_78 : decode cX5_insert 78 = .ok (.iaload, 1) := by decide +kernel
theorem dX5_insert_79 : decode cX5_insert 79 = .ok (.iastore, 1) := by decide +kernel
theorem dX5_insert_80 : decode cX5_insert 80 = .ok (.aload_n 0, 1) := by decide +kernel
theorem dX5_insert_81 : decode cX5_insert 81 = .ok (.getfield 15, 3) := by decide +kernel
theorem dX5_insert_84 : decode cX5_insert 84 = .ok (.iload 5, 2) := by decide +kernel
theorem dX5_insert_86 : decode cX5_insert 86 = .ok (.aload_n 0, 1) := by decide +kernel
theorem dX5_insert_87 : decode cX5_insert 87 = .ok (.getfield 15, 3) := by decide +kernel
theorem dX5_insert_90 : decode cX5_insert 90 = .ok (.iload 5, 2) := by decide +kernel
theorem dX5_insert_92 : decode cX5_insert 92 = .ok (.iconst 1, 1) := by decide +kernel
theorem dX5_insert_93 : decode cX5_insert 93 = .ok (.isub, 1) := by decide +kernel
theorem dX5_insert_94 : decode cX5_insert 94 = .ok (.laload, 1) := by decide +kernel
theorem dX5_insert_95 : decode cX5_insert 95 = .ok (.lastore, 1) := by decide +kernel
theorem dX5_insert_96 : decode cX5_insert 96 = .ok (.iinc 5 (-1), 3) := by decide +kernel
theorem dX5_insert_99 : decode cX5_insert 99 = .ok (.goto (-42), 3) := by decide +kernel
theorem dX5_insert_102 : decode cX5_insert 102 = .ok (.aload_n 0, 1) := by decide +kernel
theorem dX5_insert_103 : decode cX5_insert 103 = .ok (.getfield 9, 3) := by decide +kernel
theorem dX5_insert_106 : decode cX5_insert 106 = .ok (.iload 4, 2) := by decide +kernel
theorem dX5_insert_108 : decode cX5_insert 108 = .ok (.iload_n 1, 1) := by decide +kernel
theorem dX5_insert_109 : decode cX5_insert 109 = .ok (.iastore, 1) := by decide +kernel
theorem dX5_insert_110 : decode cX5_insert 110 = .ok (.aload_n 0, 1) := by decide +kernel
theorem dX5_insert_111 : decode cX5_insert 111 = .ok (.getfield 15, 3) := by decide +kernel
theorem dX5_insert_114 : decode cX5_insert 114 = .ok (.iload 4, 2) := by decide +kernel
theorem dX5_insert_116 : decode cX5_insert 116 = .ok (.lload_n 2, 1) := by decide +kernel
theorem dX5_insert_117 : decode cX5_insert 117 = .ok (.lastore, 1) := by decide +kernel
theorem dX5_insert_118 : decode cX5_insert 118 = .ok (.aload_n 0, 1) := by decide +kernel
theorem dX5_insert_119 : decode cX5_insert 119 = .ok (.dup, 1) := by decide +kernel
theorem dX5_insert_120 : decode cX5_insert 120 = .ok (.getfield 19, 3) := by decide +kernel
theorem dX5_insert_123 : decode cX5_insert 123 = .ok (.iconst 1, 1) := by decide +kernel
theorem dX5_insert_124 : decode cX5_insert 124 = .ok (.iadd, 1) := by decide +kernel
theorem dX5_insert_125 : decode cX5_insert 125 = .ok (.putfield 19, 3) := by decide +kernel
theorem dX5_insert_128 : decode cX5_insert 128 = .ok (.iconst 1, 1) := by decide +kernel
theorem dX5_insert_129 : decode cX5_insert 129 = .ok (.ireturn, 1) := by decide +kernel
theorem dX5_lastStamp_0 : decode cX5_lastStamp 0 = .ok (.aload_n 0, 1) := by decide +kernel
theorem dX5_lastStamp_1 : decode cX5_lastStamp 1 = .ok (.getfield 19, 3) := by decide +kernel
theorem dX5_lastStamp_4 : decode cX5_lastStamp 4 = .ok (.ifCond .le 17, 3) := by decide +kernel
theorem dX5_lastStamp_7 : decode cX5_lastStamp 7 = .ok (.aload_n 0, 1) := by decide +kernel
theorem dX5_lastStamp_8 : decode cX5_lastStamp 8 = .ok (.getfield 9, 3) := by decide +kernel
theorem dX5_lastStamp_11 : decode cX5_lastStamp 11 = .ok (.aload_n 0, 1) := by decide +kernel
theorem dX5_lastStamp_12 : decode cX5_lastStamp 12 = .ok (.getfield 19, 3) := by decide +kernel
theorem dX5_lastStamp_15 : decode cX5_lastStamp 15 = .ok (.iconst 1, 1) := by decide +kernel
theorem dX5_lastStamp_16 : decode cX5_lastStamp 16 = .ok (.isub, 1) := by decide +kernel
theorem dX5_lastStamp_17 : decode cX5_lastStamp 17 = .ok (.iaload, 1) := by decide +kernel
theorem dX5_lastStamp_18 : decode cX5_lastStamp 18 = .ok (.goto 4, 3) := by decide +kernel
theorem dX5_lastStamp_21 : decode cX5_lastStamp 21 = .ok (.iconst (-1), 1) := by decide +kernel
theorem dX5_lastStamp_22 : decode cX5_lastStamp 22 = .ok (.ireturn, 1) := by decide +kernel
theorem dX5_closest_0 : decode cX5_closest 0 = .ok (.aload_n 0, 1) := by decide +kernel
theorem dX5_closest_1 : decode cX5_closest 1 = .ok (.iload_n 1, 1) := by decide +kernel
theorem dX5_closest_2 : decode cX5_closest 2 = .ok (.invokevirtual 27, 3) := by decide +kernel
theorem dX5_closest_5 : decode cX5_closest 5 = .ok (.istore_n 2, 1) := by decide +kernel
theorem dX5_closest_6 : decode cX5_closest 6 = .ok (.iload_n 2, 1) := by decide +kernel
theorem dX5_closest_7 : decode cX5_closest 7 = .ok (.ifCond .ne 21, 3) := by decide +kernel
theorem dX5_closest_10 : decode cX5_closest 10 = .ok (.aload_n 0, 1) := by decide +kernel
theorem dX5_closest_11 : decode cX5_closest 11 = .ok (.getfield 19, 3) := by decide +kernel
theorem dX5_closest_14 : decode cX5_closest 14 = .ok (.ifCond .le 12, 3) := by decide +kernel
theorem dX5_closest_17 : decode cX5_closest 17 = .ok (.aload_n 0, 1) := by decide +kernel
theorem dX5_closest_18 : decode cX5_closest 18 = .ok (.getfield 9, 3) := by decide +kernel
theorem dX5_closest_21 : decode cX5_closest 21 = .ok (.iconst 0, 1) := by decide +kernel
theorem dX5_closest_22 : decode cX5_closest 22 = .ok (.iaload, 1) := by decide +kernel
theorem dX5_closest_23 : decode cX5_closest 23 = .ok (.goto 4, 3) := by decide +kernel
theorem dX5_closest_26 : decode cX5_closest 26 = .ok (.iconst (-1), 1) := by decide +kernel
theorem dX5_closest_27 : decode cX5_closest 27 = .ok (.ireturn, 1) := by decide +kernel
theorem dX5_closest_28 : decode cX5_closest 28 = .ok (.iload_n 2, 1) := by decide +kernel
theorem dX5_closest_29 : decode cX5_closest 29 = .ok (.aload_n 0, 1) := by decide +kernel
theorem dX5_closest_30 : decode cX5_closest 30 = .ok (.getfield 19, 3) := by decide +kernel
theorem dX5_closest_33 : decode cX5_closest 33 = .ok (.if_icmp .eq 24, 3) := by decide +kernel
theorem dX5_closest_36 : decode cX5_closest 36 = .ok (.iload_n 1, 1) := by decide +kernel
theorem dX5_closest_37 : decode cX5_closest 37 = .ok (.aload_n 0, 1) := by decide +kernel
theorem dX5_closest_38 : decode cX5_closest 38 = .ok (.getfield 9, 3) := by decide +kernel
theorem dX5_closest_41 : decode cX5_closest 41 = .ok (.iload_n 2, 1) := by decide +kernel
theorem dX5_closest_42 : decode cX5_closest 42 = .ok (.iconst 1, 1) := by decide +kernel
theorem dX5_closest_43 : decode cX5_closest 43 = .ok (.isub, 1) := by decide +kernel
theorem dX5_closest_44 : decode cX5_closest 44 = .ok (.iaload, 1) := by decide +kernel
theorem dX5_closest_45 : decode cX5_closest 45 = .ok (.isub, 1) := by decide +kernel
theorem dX5_closest_46 : decode cX5_closest 46 = .ok (.aload_n 0, 1) := by decide +kernel
theorem dX5_closest_47 : decode cX5_closest 47 = .ok (.getfield 9, 3) := by decide +kernel
theorem dX5_closest_50 : decode cX5_closest 50 = .ok (.iload_n 2, 1) := by decide +kernel
theorem dX5_closest_51 : decode cX5_closest 51 = .ok (.iaload, 1) := by decide +kernel
theorem dX5_closest_52 : decode cX5_closest 52 = .ok (.iload_n 1, 1) := by decide +kernel
theorem dX5_closest_53 : decode cX5_closest 53 = .ok (.isub, 1) := by decide +kernel
theorem dX5_closest_54 : decode cX5_closest 54 = .ok (.if_icmp .gt 12, 3) := by decide +kernel
theorem dX5_closest_57 : decode cX5_closest 57 = .ok (.aload_n 0, 1) := by decide +kernel
theorem dX5_closest_58 : decode cX5_closest 58 = .ok (.getfield 9, 3) := by decide +kernel
theorem dX5_closest_61 : decode cX5_closest 61 = .ok (.iload_n 2, 1) := by decide +kernel
theorem dX5_closest_62 : decode cX5_closest 62 = .ok (.iconst 1, 1) := by decide +kernel
theorem dX5_closest_63 : decode cX5_closest 63 = .ok (.isub, 1) := by decide +kernel
theorem dX5_closest_64 : decode cX5_closest 64 = .ok (.iaload, 1) := by decide +kernel
theorem dX5_closest_65 : decode cX5_closest 65 = .ok (.ireturn, 1) := by decide +kernel
theorem dX5_closest_66 : decode cX5_closest 66 = .ok (.aload_n 0, 1) := by decide +kernel
theorem dX5_closest_67 : decode cX5_closest 67 = .ok (.getfield 9, 3) := by decide +kernel
theorem dX5_closest_70 : decode cX5_closest 70 = .ok (.iload_n 2, 1) := by decide +kernel
theorem dX5_closest_71 : decode cX5_closest 71 = .ok (.iaload, 1) := by decide +kernel
theorem dX5_closest_72 : decode cX5_closest 72 = .ok (.ireturn, 1) := by decide +kernel
theorem dX5_longestGap_0 : decode cX5_longestGap 0 = .ok (.iconst (-1), 1) := by decide +kernel
theorem dX5_longestGap_1 : decode cX5_longestGap 1 = .ok (.istore_n 2, 1) := by decide +kernel
theorem dX5_longestGap_2 : decode cX5_longestGap 2 = .ok (.iconst (-1), 1) := by decide +kernel
theorem dX5_longestGap_3 : decode cX5_longestGap 3 = .ok (.istore_n 3, 1) := by decide +kernel
theorem dX5_longestGap_4 : decode cX5_longestGap 4 = .ok (.iconst 1, 1) := by decide +kernel
theorem dX5_longestGap_5 : decode cX5_longestGap 5 = .ok (.istore 4, 2) := by decide +kernel
theorem dX5_longestGap_7 : decode cX5_longestGap 7 = .ok (.iload 4, 2) := by decide +kernel
theorem dX5_longestGap_9 : decode cX5_longestGap 9 = .ok (.aload_n 0, 1) := by decide +kernel
theorem dX5_longestGap_10 : decode cX5_longestGap 10 = .ok (.getfield 19, 3) := by decide +kernel
theorem dX5_longestGap_13 : decode cX5_longestGap 13 = .ok (.if_icmp .ge 47, 3) := by decide +kernel
theorem dX5_longestGap_16 : decode cX5_longestGap 16 = .ok (.aload_n 0, 1) := by decide +kernel
theorem dX5_longestGap_17 : decode cX5_longestGap 17 = .ok (.getfield 9, 3) := by decide +kernel
theorem dX5_longestGap_20 : decode cX5_longestGap 20 = .ok (.iload 4, 2) := by decide +kernel
theorem dX5_longestGap_22 : decode cX5_longestGap 22 = .ok (.iaload, 1) := by decide +kernel
theorem dX5_longestGap_23 : decode cX5_longestGap 23 = .ok (.aload_n 0, 1) := by decide +kernel
theorem dX5_longestGap_24 : decode cX5_longestGap 24 = .ok (.getfield 9, 3) := by decide +kernel
theorem dX5_longestGap_27 : decode cX5_longestGap 27 = .ok (.iload 4, 2) := by decide +kernel
theorem dX5_longestGap_29 : decode cX5_longestGap 29 = .ok (.iconst 1, 1) := by decide +kernel
theorem dX5_longestGap_30 : decode cX5_longestGap 30 = .ok (.isub, 1) := by decide +kernel
theorem dX5_longestGap_31 : decode cX5_longestGap 31 = .ok (.iaload, 1) := by decide +kernel
theorem dX5_longestGap_32 : decode cX5_longestGap 32 = .ok (.isub, 1) := by decide +kernel
theorem dX5_longestGap_33 : decode cX5_longestGap 33 = .ok (.istore 5, 2) := by decide +kernel
theorem dX5_longestGap_35 : decode cX5_longestGap 35 = .ok (.iload 5, 2) := by decide +kernel
theorem dX5_longestGap_37 : decode cX5_longestGap 37 = .ok (.iload_n 2, 1) := by decide +kernel
theorem dX5_longestGap_38 : decode cX5_longestGap 38 = .ok (.if_icmp .le 16, 3) := by decide +kernel
theorem dX5_longestGap_41 : decode cX5_longestGap 41 = .ok (.iload 5, 2) := by decide +kernel
theorem dX5_longestGap_43 : decode cX5_longestGap 43 = .ok (.istore_n 2, 1) := by decide +kernel
theorem dX5_longestGap_44 : decode cX5_longestGap 44 = .ok (.aload_n 0, 1) := by decide +kernel
theorem dX5_longestGap_45 : decode cX5_longestGap 45 = .ok (.getfield 9, 3) := by decide +kernel
theorem dX5_longestGap_48 : decode cX5_longestGap 48 = .ok (.iload 4, 2) := by decide +kernel
theorem dX5_longestGap_50 : decode cX5_longestGap 50 = .ok (.iconst 1, 1) := by decide +kernel
theorem dX5_longestGap_51 : decode cX5_longestGap 51 = .ok (.isub, 1) := by decide +kernel
theorem dX5_longestGap_52 : decode cX5_longestGap 52 = .ok (.iaload, 1) := by decide +kernel
theorem dX5_longestGap_53 : decode cX5_longestGap 53 = .ok (.istore_n 3, 1) := by decide +kernel
theorem dX5_longestGap_54 : decode cX5_longestGap 54 = .ok (.iinc 4 1, 3) := by decide +kernel
theorem dX5_longestGap_57 : decode cX5_longestGap 57 = .ok (.goto (-50), 3) := by decide +kernel
theorem dX5_longestGap_60 : decode cX5_longestGap 60 = .ok (.iload_n 1, 1) := by decide +kernel
theorem dX5_longestGap_61 : decode cX5_longestGap 61 = .ok (.ifCond .eq 7, 3) := by decide +kernel
theorem dX5_longestGap_64 : decode cX5_longestGap 64 = .ok (.iload_n 2, 1) := by decide +kernel
theorem dX5_longestGap_65 : decode cX5_longestGap 65 = .ok (.goto 4, 3) := by decide +kernel
theorem dX5_longestGap_68 : decode cX5_longestGap 68 = .ok (.iload_n 3, 1) := by decide +kernel
theorem dX5_longestGap_69 : decode cX5_longestGap 69 = .ok (.ireturn, 1) := by decide +kernel
theorem dX5_longestSame_0 : decode cX5_longestSame 0 = .ok (.iconst 0, 1) := by decide +kernel
theorem dX5_longestSame_1 : decode cX5_longestSame 1 = .ok (.istore_n 1, 1) := by decide +kernel
theorem dX5_longestSame_2 : decode cX5_longestSame 2 = .ok (.iconst 0, 1) := by decide +kernel
theorem dX5_longestSame_3 : decode cX5_longestSame 3 = .ok (.istore_n 2, 1) := by decide +kernel
theorem dX5_longestSame_4 : decode cX5_longestSame 4 = .ok (.iconst 0, 1) := by decide +kernel
theorem dX5_longestSame_5 : decode cX5_longestSame 5 = .ok (.istore_n 3, 1) := by decide +kernel
theorem dX5_longestSame_6 : decode cX5_longestSame 6 = .ok (.iload_n 3, 1) := by decide +kernel
theorem dX5_longestSame_7 : decode cX5_longestSame 7 = .ok (.aload_n 0, 1) := by decide +kernel
theorem dX5_longestSame_8 : decode cX5_longestSame 8 = .ok (.getfield 19, 3) := by decide +kernel
theorem dX5_longestSame_11 : decode cX5_longestSame 11 = .ok (.if_icmp .ge 45, 3) := by decide +kernel
theorem dX5_longestSame_14 : decode cX5_longestSame 14 = .ok (.iload_n 3, 1) := by decide +kernel
theorem dX5_longestSame_15 : decode cX5_longestSame 15 = .ok (.ifCond .le 27, 3) := by decide +kernel
theorem dX5_longestSame_18 : decode cX5_longestSame 18 = .ok (.aload_n 0, 1) := by decide +kernel
theorem dX5_longestSame_19 : decode cX5_longestSame 19 = .ok (.getfield 15, 3) := by decide +kernel
theorem dX5_longestSame_22 : decode cX5_longestSame 22 = .ok (.iload_n 3, 1) := by decide +kernel
theorem dX5_longestSame_23 : decode cX5_longestSame 23 = .ok (.laload, 1) := by decide +kernel
theorem dX5_longestSame_24 : decode cX5_longestSame 24 = .ok (.aload_n 0, 1) := by decide +kernel
theorem dX5_longestSame_25 : decode cX5_longestSame 25 = .ok (.getfield 15, 3) := by decide +kernel
theorem dX5_longestSame_28 : decode cX5_longestSame 28 = .ok (.iload_n 3, 1) := by decide +kernel
theorem dX5_longestSame_29 : decode cX5_longestSame 29 = .ok (.iconst 1, 1) := by decide +kernel
theorem dX5_longestSame_30 : decode cX5_longestSame 30 = .ok (.isub, 1) := by decide +kernel
theorem dX5_longestSame_31 : decode cX5_longestSame 31 = .ok (.laload, 1) := by decide +kernel
theorem dX5_longestSame_32 : decode cX5_longestSame 32 = .ok (.lcmp, 1) := by decide +kernel
theorem dX5_longestSame_33 : decode cX5_longestSame 33 = .ok (.ifCond .ne 9, 3) := by decide +kernel
theorem dX5_longestSame_36 : decode cX5_longestSame 36 = .ok (.iload_n 2, 1) := by decide +kernel
theorem dX5_longestSame_37 : decode cX5_longestSame 37 = .ok (.iconst 1, 1) := by decide +kernel
theorem dX5_longestSame_38 : decode cX5_longestSame 38 = .ok (.iadd, 1) := by decide +kernel
theorem dX5_longestSame_39 : decode cX5_longestSame 39 = .ok (.goto 4, 3) := by decide +kernel
theorem dX5_longestSame_42 : decode cX5_longestSame 42 = .ok (.iconst 1, 1) := by decide +kernel
theorem dX5_longestSame_43 : decode cX5_longestSame 43 = .ok (.istore_n 2, 1) := by decide +kernel
theorem dX5_longestSame_44 : decode cX5_longestSame 44 = .ok (.iload_n 1, 1) := by decide +kernel
theorem dX5_longestSame_45 : decode cX5_longestSame 45 = .ok (.iload_n 2, 1) := by decide +kernel
theorem dX5_longestSame_46 : decode cX5_longestSame 46 = .ok (.invokestatic 31, 3) := by decide +kernel
theorem dX5_longestSame_49 : decode cX5_longestSame 49 = .ok (.istore_n 1, 1) := by decide +kernel
theorem dX5_longestSame_50 : decode cX5_longestSame 50 = .ok (.iinc 3 1, 3) := by decide +kernel
theorem dX5_longestSame_53 : decode cX5_longestSame 53 = .ok (.goto (-47), 3) := by decide +kernel
theorem dX5_longestSame_56 : decode cX5_longestSame 56 = .ok (.iload_n 1, 1) := by decide +kernel
theorem dX5_longestSame_57 : decode cX5_longestSame 57 = .ok (.ireturn, 1) := by decide +kernel
theorem dX5_longestRise_0 : decode cX5_longestRise 0 = .ok (.iconst 0, 1) := by decide +kernel
theorem dX5_longestRise_1 : decode cX5_longestRise 1 = .ok (.istore_n 1, 1) := by decide +kernel
theorem dX5_longestRise_2 : decode cX5_longestRise 2 = .ok (.iconst 0, 1) := by decide +kernel
theorem dX5_longestRise_3 : decode cX5_longestRise 3 = .ok (.istore_n 2, 1) := by decide +kernel
theorem dX5_longestRise_4 : decode cX5_longestRise 4 = .ok (.iconst 0, 1) := by decide +kernel
theorem dX5_longestRise_5 : decode cX5_longestRise 5 = .ok (.istore_n 3, 1) := by decide +kernel
theorem dX5_longestRise_6 : decode cX5_longestRise 6 = .ok (.iload_n 3, 1) := by decide +kernel
theorem dX5_longestRise_7 : decode cX5_longestRise 7 = .ok (.aload_n 0, 1) := by decide +kernel
theorem dX5_longestRise_8 : decode cX5_longestRise 8 = .ok (.getfield 19, 3) := by decide +kernel
theorem dX5_longestRise_11 : decode cX5_longestRise 11 = .ok (.if_icmp .ge 68, 3) := by decide +kernel
theorem dX5_longestRise_14 : decode cX5_longestRise 14 = .ok (.aload_n 0, 1) := by decide +kernel
theorem dX5_longestRise_15 : decode cX5_longestRise 15 = .ok (.getfield 15, 3) := by decide +kernel
theorem dX5_longestRise_18 : decode cX5_longestRise 18 = .ok (.iload_n 3, 1) := by decide +kernel
theorem dX5_longestRise_19 : decode cX5_longestRise 19 = .ok (.laload, 1) := by decide +kernel
theorem dX5_longestRise_20 : decode cX5_longestRise 20 = .ok (.invokestatic 37, 3) := by decide +kernel
theorem dX5_longestRise_23 : decode cX5_longestRise 23 = .ok (.ifCond .ne 8, 3) := by decide +kernel
theorem dX5_longestRise_26 : decode cX5_longestRise 26 = .ok (.iconst 0, 1) := by decide +kernel
theorem dX5_longestRise_27 : decode cX5_longestRise 27 = .ok (.istore_n 2, 1) := by decide +kernel
theorem dX5_longestRise_28 : decode cX5_longestRise 28 = .ok (.goto 39, 3) := by decide +kernel
theorem dX5_longestRise_31 : decode cX5_longestRise 31 = .ok (.iload_n 2, 1) := by decide +kernel
theorem dX5_longestRise_32 : decode cX5_longestRise 32 = .ok (.ifCond .le 33, 3) := by decide +kernel
theorem dX5_longestRise_35 : decode cX5_longestRise 35 = .ok (.aload_n 0, 1) := by decide +kernel
theorem dX5_longestRise_36 : decode cX5_longestRise 36 = .ok (.getfield 15, 3) := by decide +kernel
theorem dX5_longestRise_39 : decode cX5_longestRise 39 = .ok (.iload_n 3, 1) := by decide +kernel
theorem dX5_longestRise_40 : decode cX5_longestRise 40 = .ok (.laload, 1) := by decide +kernel
theorem dX5_longestRise_41 : decode cX5_longestRise 41 = .ok (.invokestatic 43, 3) := by decide +kernel
theorem dX5_longestRise_44 : decode cX5_longestRise 44 = .ok (.aload_n 0, 1) := by decide +kernel
theorem dX5_longestRise_45 : decode cX5_longestRise 45 = .ok (.getfield 15, 3) := by decide +kernel
theorem dX5_longestRise_48 : decode cX5_longestRise 48 = .ok (.iload_n 3, 1) := by decide +kernel
theorem dX5_longestRise_49 : decode cX5_longestRise 49 = .ok (.iconst 1, 1) := by decide +kernel
theorem dX5_longestRise_50 : decode cX5_longestRise 50 = .ok (.isub, 1) := by decide +kernel
theorem dX5_longestRise_51 : decode cX5_longestRise 51 = .ok (.laload, 1) := by decide +kernel
theorem dX5_longestRise_52 : decode cX5_longestRise 52 = .ok (.invokestatic 43, 3) := by decide +kernel
theorem dX5_longestRise_55 : decode cX5_longestRise 55 = .ok (.lcmp, 1) := by decide +kernel
theorem dX5_longestRise_56 : decode cX5_longestRise 56 = .ok (.ifCond .le 9, 3) := by decide +kernel
theorem dX5_longestRise_59 : decode cX5_longestRise 59 = .ok (.iinc 2 1, 3) := by decide +kernel
theorem dX5_longestRise_62 : decode cX5_longestRise 62 = .ok (.goto 5, 3) := by decide +kernel
theorem dX5_longestRise_65 : decode cX5_longestRise 65 = .ok (.iconst 1, 1) := by decide +kernel
theorem dX5_longestRise_66 : decode cX5_longestRise 66 = .ok (.istore_n 2, 1) := by decide +kernel
theorem dX5_longestRise_67 : decode cX5_longestRise 67 = .ok (.iload_n 1, 1) := by decide +kernel
theorem dX5_longestRise_68 : decode cX5_longestRise 68 = .ok (.iload_n 2, 1) := by decide +kernel
theorem dX5_longestRise_69 : decode cX5_longestRise 69 = .ok (.invokestatic 31, 3) := by decide +kernel
theorem dX5_longestRise_72 : decode cX5_longestRise 72 = .ok (.istore_n 1, 1) := by decide +kernel
theorem dX5_longestRise_73 : decode cX5_longestRise 73 = .ok (.iinc 3 1, 3) := by decide +kernel
theorem dX5_longestRise_76 : decode cX5_longestRise 76 = .ok (.goto (-70), 3) := by decide +kernel
theorem dX5_longestRise_79 : decode cX5_longestRise 79 = .ok (.iload_n 1, 1) := by decide +kernel
theorem dX5_longestRise_80 : decode cX5_longestRise 80 = .ok (.ireturn, 1) := by decide +kernel
theorem dX5_passings_0 : decode cX5_passings 0 = .ok (.iconst 0, 1) := by decide +kernel
theorem dX5_passings_1 : decode cX5_passings 1 = .ok (.istore_n 3, 1) := by decide +kernel
theorem dX5_passings_2 : decode cX5_passings 2 = .ok (.lload_n 1, 1) := by decide +kernel
theorem dX5_passings_3 : decode cX5_passings 3 = .ok (.invokestatic 43, 3) := by decide +kernel
theorem dX5_passings_6 : decode cX5_passings 6 = .ok (.lstore 4, 2) := by decide +kernel
theorem dX5_passings_8 : decode cX5_passings 8 = .ok (.iconst 1, 1) := by decide +kernel
theorem dX5_passings_9 : decode cX5_passings 9 = .ok (.istore 6, 2) := by decide +kernel
theorem dX5_passings_11 : decode cX5_passings 11 = .ok (.iload 6, 2) := by decide +kernel
theorem dX5_passings_13 : decode cX5_passings 13 = .ok (.aload_n 0, 1) := by decide +kernel
theorem dX5_passings_14 : decode cX5_passings 14 = .ok (.getfield 19, 3) := by decide +kernel
theorem dX5_passings_17 : decode cX5_passings 17 = .ok (.if_icmp .ge 87, 3) := by decide +kernel
theorem dX5_passings_20 : decode cX5_passings 20 = .ok (.aload_n 0, 1) := by decide +kernel
theorem dX5_passings_21 : decode cX5_passings 21 = .ok (.getfield 15, 3) := by decide +kernel
theorem dX5_passings_24 : decode cX5_passings 24 = .ok (.iload 6, 2) := by decide +kernel
theorem dX5_passings_26 : decode cX5_passings 26 = .ok (.iconst 1, 1) := by decide +kernel
theorem dX5_passings_27 : decode cX5_passings 27 = .ok (.isub, 1) := by decide +kernel
theorem dX5_passings_28 : decode cX5_passings 28 = .ok (.laload, 1) := by decide +kernel
theorem dX5_passings_29 : decode cX5_passings 29 = .ok (.invokestatic 37, 3) := by decide +kernel
theorem dX5_passings_32 : decode cX5_passings 32 = .ok (.ifCond .eq 66, 3) := by decide +kernel
theorem dX5_passings_35 : decode cX5_passings 35 = .ok (.aload_n 0, 1) := by decide +kernel
theorem dX5_passings_36 : decode cX5_passings 36 = .ok (.getfield 15, 3) := by decide +kernel
theorem dX5_passings_39 : decode cX5_passings 39 = .ok (.iload 6, 2) := by decide +kernel
theorem dX5_passings_41 : decode cX5_passings 41 = .ok (.laload, 1) := by decide +kernel
theorem dX5_passings_42 : decode cX5_passings 42 = .ok (.invokestatic 37, 3) := by decide +kernel
theorem dX5_passings_45 : decode cX5_passings 45 = .ok (.ifCond .eq 53, 3) := by decide +kernel
theorem dX5_passings_48 : decode cX5_passings 48 = .ok (.aload_n 0, 1) := by decide +kernel
theorem dX5_passings_49 : decode cX5_passings 49 = .ok (.getfield 15, 3) := by decide +kernel
theorem dX5_passings_52 : decode cX5_passings 52 = .ok (.iload 6, 2) := by decide +kernel
theorem dX5_passings_54 : decode cX5_passings 54 = .ok (.iconst 1, 1) := by decide +kernel
theorem dX5_passings_55 : decode cX5_passings 55 = .ok (.isub, 1) := by decide +kernel
theorem dX5_passings_56 : decode cX5_passings 56 = .ok (.laload, 1) := by decide +kernel
theorem dX5_passings_57 : decode cX5_passings 57 = .ok (.invokestatic 43, 3) := by decide +kernel
theorem dX5_passings_60 : decode cX5_passings 60 = .ok (.lload 4, 2) := by decide +kernel
theorem dX5_passings_62 : decode cX5_passings 62 = .ok (.lcmp, 1) := by decide +kernel
theorem dX5_passings_63 : decode cX5_passings 63 = .ok (.ifCond .ge 7, 3) := by decide +kernel
theorem dX5_passings_66 : decode cX5_passings 66 = .ok (.iconst 1, 1) := by decide +kernel
theorem dX5_passings_67 : decode cX5_passings 67 = .ok (.goto 4, 3) := by decide +kernel
theorem dX5_passings_70 : decode cX5_passings 70 = .ok (.iconst 0, 1) := by decide +kernel
theorem dX5_passings_71 : decode cX5_passings 71 = .ok (.aload_n 0, 1) := by decide +kernel
theorem dX5_passings_72 : decode cX5_passings 72 = .ok (.getfield 15, 3) := by decide +kernel
theorem dX5_passings_75 : decode cX5_passings 75 = .ok (.iload 6, 2) := by decide +kernel
theorem dX5_passings_77 : decode cX5_passings 77 = .ok (.laload, 1) := by decide +kernel
theorem dX5_passings_78 : decode cX5_passings 78 = .ok (.invokestatic 43, 3) := by decide +kernel
theorem dX5_passings_81 : decode cX5_passings 81 = .ok (.lload 4, 2) := by decide +kernel
theorem dX5_passings_83 : decode cX5_passings 83 = .ok (.lcmp, 1) := by decide +kernel
theorem dX5_passings_84 : decode cX5_passings 84 = .ok (.ifCond .ge 7, 3) := by decide +kernel
theorem dX5_passings_87 : decode cX5_passings 87 = .ok (.iconst 1, 1) := by decide +kernel
theorem dX5_passings_88 : decode cX5_passings 88 = .ok (.goto 4, 3) := by decide +kernel
theorem dX5_passings_91 : decode cX5_passings 91 = .ok (.iconst 0, 1) := by decide +kernel
theorem dX5_passings_92 : decode cX5_passings 92 = .ok (.if_icmp .eq 6, 3) := by decide +kernel
theorem dX5_passings_95 : decode cX5_passings 95 = .ok (.iinc 3 1, 3) := by decide +kernel
theorem dX5_passings_98 : decode cX5_passings 98 = .ok (.iinc 6 1, 3) := by decide +kernel
theorem dX5_passings_101 : decode cX5_passings 101 = .ok (.goto (-90), 3) := by decide +kernel
theorem dX5_passings_104 : decode cX5_passings 104 = .ok (.iload_n 3, 1) := by decide +kernel
theorem dX5_passings_105 : decode cX5_passings 105 = .ok (.ireturn, 1) := by decide +kernel
theorem dX5_countKind_0 : decode cX5_countKind 0 = .ok (.iconst 0, 1) := by decide +kernel
theorem dX5_countKind_1 : decode cX5_countKind 1 = .ok (.istore_n 2, 1) := by decide +kernel
theorem dX5_countKind_2 : decode cX5_countKind 2 = .ok (.iconst 0, 1) := by decide +kernel
theorem dX5_countKind_3 : decode cX5_countKind 3 = .ok (.istore_n 3, 1) := by decide +kernel
theorem dX5_countKind_4 : decode cX5_countKind 4 = .ok (.iload_n 3, 1) := by decide +kernel
theorem dX5_countKind_5 : decode cX5_countKind 5 = .ok (.aload_n 0, 1) := by decide +kernel
theorem dX5_countKind_6 : decode cX5_countKind 6 = .ok (.getfield 19, 3) := by decide +kernel
theorem dX5_countKind_9 : decode cX5_countKind 9 = .ok (.if_icmp .ge 79, 3) := by decide +kernel
theorem dX5_countKind_12 : decode cX5_countKind 12 = .ok (.iload_n 1, 1) := by decide +kernel
theorem dX5_countKind_13 : decode cX5_countKind 13 = .ok (.iconst 4, 1) := by decide +kernel
theorem dX5_countKind_14 : decode cX5_countKind 14 = .ok (.if_icmp .ne 23, 3) := by decide +kernel
theorem dX5_countKind_17 : decode cX5_countKind 17 = .ok (.aload_n 0, 1) := by decide +kernel
theorem dX5_countKind_18 : decode cX5_countKind 18 = .ok (.getfield 15, 3) := by decide +kernel
theorem dX5_countKind_21 : decode cX5_countKind 21 = .ok (.iload_n 3, 1) := by decide +kernel
theorem dX5_countKind_22 : decode cX5_countKind 22 = .ok (.laload, 1) := by decide +kernel
theorem dX5_countKind_23 : decode cX5_countKind 23 = .ok (.invokestatic 37, 3) := by decide +kernel
theorem dX5_countKind_26 : decode cX5_countKind 26 = .ok (.ifCond .ne 7, 3) := by decide +kernel
theorem dX5_countKind_29 : decode cX5_countKind 29 = .ok (.iconst 1, 1) := by decide +kernel
theorem dX5_countKind_30 : decode cX5_countKind 30 = .ok (.goto 42, 3) := by decide +kernel
theorem dX5_countKind_33 : decode cX5_countKind 33 = .ok (.iconst 0, 1) := by decide +kernel
theorem dX5_countKind_34 : decode cX5_countKind 34 = .ok (.goto 38, 3) := by decide +kernel
theorem dX5_countKind_37 : decode cX5_countKind 37 = .ok (.iload_n 1, 1) := by decide +kernel
theorem dX5_countKind_38 : decode cX5_countKind 38 = .ok (.iconst 5, 1) := by decide +kernel
theorem dX5_countKind_39 : decode cX5_countKind 39 = .ok (.if_icmp .ne 24, 3) := by decide +kernel
theorem dX5_countKind_42 : decode cX5_countKind 42 = .ok (.aload_n 0, 1) := by decide +kernel
theorem dX5_countKind_43 : decode cX5_countKind 43 = .ok (.getfield 15, 3) := by decide +kernel
theorem dX5_countKind_46 : decode cX5_countKind 46 = .ok (.iload_n 3, 1) := by decide +kernel
theorem dX5_countKind_47 : decode cX5_countKind 47 = .ok (.laload, 1) := by decide +kernel
theorem dX5_countKind_48 : decode cX5_countKind 48 = .ok (.ldc2_w 47, 3) := by decide +kernel
theorem dX5_countKind_51 : decode cX5_countKind 51 = .ok (.lcmp, 1) := by decide +kernel
theorem dX5_countKind_52 : decode cX5_countKind 52 = .ok (.ifCond .ne 7, 3) := by decide +kernel
theorem dX5_countKind_55 : decode cX5_countKind 55 = .ok (.iconst 1, 1) := by decide +kernel
theorem dX5_countKind_56 : decode cX5_countKind 56 = .ok (.goto 16, 3) := by decide +kernel
theorem dX5_countKind_59 : decode cX5_countKind 59 = .ok (.iconst 0, 1) := by decide +kernel
theorem dX5_countKind_60 : decode cX5_countKind 60 = .ok (.goto 12, 3) := by decide +kernel
theorem dX5_countKind_63 : decode cX5_countKind 63 = .ok (.aload_n 0, 1) := by decide +kernel
theorem dX5_countKind_64 : decode cX5_countKind 64 = .ok (.getfield 15, 3) := by decide +kernel
theorem dX5_countKind_67 : decode cX5_countKind 67 = .ok (.iload_n 3, 1) := by decide +kernel
theorem dX5_countKind_68 : decode cX5_countKind 68 = .ok (.laload, 1) := by decide +kernel
theorem dX5_countKind_69 : decode cX5_countKind 69 = .ok (.invokestatic 49, 3) := by decide +kernel
theorem dX5_countKind_72 : decode cX5_countKind 72 = .ok (.istore 4, 2) := by decide +kernel
theorem dX5_countKind_74 : decode cX5_countKind 74 = .ok (.iload 4, 2) := by decide +kernel
theorem dX5_countKind_76 : decode cX5_countKind 76 = .ok (.ifCond .eq 6, 3) := by decide +kernel
theorem dX5_countKind_79 : decode cX5_countKind 79 = .ok (.iinc 2 1, 3) := by decide +kernel
theorem dX5_countKind_82 : decode cX5_countKind 82 = .ok (.iinc 3 1, 3) := by decide +kernel
theorem dX5_countKind_85 : decode cX5_countKind 85 = .ok (.goto (-81), 3) := by decide +kernel
theorem dX5_countKind_88 : decode cX5_countKind 88 = .ok (.iload_n 2, 1) := by decide +kernel
theorem dX5_countKind_89 : decode cX5_countKind 89 = .ok (.ireturn, 1) := by decide +kernel
theorem dX5_keepNumbers_0 : decode cX5_keepNumbers 0 = .ok (.iconst 0, 1) := by decide +kernel
theorem dX5_keepNumbers_1 : decode cX5_keepNumbers 1 = .ok (.istore_n 1, 1) := by decide +kernel
theorem dX5_keepNumbers_2 : decode cX5_keepNumbers 2 = .ok (.iconst 0, 1) := by decide +kernel
theorem dX5_keepNumbers_3 : decode cX5_keepNumbers 3 = .ok (.istore_n 2, 1) := by decide +kernel
theorem dX5_keepNumbers_4 : decode cX5_keepNumbers 4 = .ok (.iload_n 2, 1) := by decide +kernel
theorem dX5_keepNumbers_5 : decode cX5_keepNumbers 5 = .ok (.aload_n 0, 1) := by decide +kernel
theorem dX5_keepNumbers_6 : decode cX5_keepNumbers 6 = .ok (.getfield 19, 3) := by decide +kernel
theorem dX5_keepNumbers_9 : decode cX5_keepNumbers 9 = .ok (.if_icmp .ge 30, 3) := by decide +kernel
theorem dX5_keepNumbers_12 : decode cX5_keepNumbers 12 = .ok (.aload_n 0, 1) := by decide +kernel
theorem dX5_keepNumbers_13 : decode cX5_keepNumbers 13 = .ok (.getfield 15, 3) := by decide +kernel
theorem dX5_keepNumbers_16 : decode cX5_keepNumbers 16 = .ok (.iload_n 2, 1) := by decide +kernel
theorem dX5_keepNumbers_17 : decode cX5_keepNumbers 17 = .ok (.laload, 1) := by decide +kernel
theorem dX5_keepNumbers_18 : decode cX5_keepNumbers 18 = .ok (.invokestatic 37, 3) := by decide +kernel
theorem dX5_keepNumbers_21 : decode cX5_keepNumbers 21 = .ok (.ifCond .eq 12, 3) := by decide +kernel
theorem dX5_keepNumbers_24 : decode cX5_keepNumbers 24 = .ok (.aload_n 0, 1) := by decide +kernel
theorem dX5_keepNumbers_25 : decode cX5_keepNumbers 25 = .ok (.iload_n 1, 1) := by decide +kernel
theorem dX5_keepNumbers_26 : decode cX5_keepNumbers 26 = .ok (.iload_n 2, 1) := by decide +kernel
theorem dX5_keepNumbers_27 : decode cX5_keepNumbers 27 = .ok (.invokevirtual 52, 3) := by decide +kernel
theorem dX5_keepNumbers_30 : decode cX5_keepNumbers 30 = .ok (.iinc 1 1, 3) := by decide +kernel
theorem dX5_keepNumbers_33 : decode cX5_keepNumbers 33 = .ok (.iinc 2 1, 3) := by decide +kernel
theorem dX5_keepNumbers_36 : decode cX5_keepNumbers 36 = .ok (.goto (-32), 3) := by decide +kernel
theorem dX5_keepNumbers_39 : decode cX5_keepNumbers 39 = .ok (.aload_n 0, 1) := by decide +kernel
theorem dX5_keepNumbers_40 : decode cX5_keepNumbers 40 = .ok (.iload_n 1, 1) := by decide +kernel
theorem dX5_keepNumbers_41 : decode cX5_keepNumbers 41 = .ok (.putfield 19, 3) := by decide +kernel
theorem dX5_keepNumbers_44 : decode cX5_keepNumbers 44 = .ok (.return_, 1) := by decide +kernel
theorem dX5_keep_0 : decode cX5_keep 0 = .ok (.aload_n 0, 1) := by decide +kernel
theorem dX5_keep_1 : decode cX5_keep 1 = .ok (.getfield 9, 3) := by decide +kernel
theorem dX5_keep_4 : decode cX5_keep 4 = .ok (.iload_n 1, 1) := by decide +kernel
theorem dX5_keep_5 : decode cX5_keep 5 = .ok (.aload_n 0, 1) := by decide +kernel
theorem dX5_keep_6 : decode cX5_keep 6 = .ok (.getfield 9, 3) := by decide +kernel
theorem dX5_keep_9 : decode cX5_keep 9 = .ok (.iload_n 2, 1) := by decide +kernel
theorem dX5_keep_10 : decode cX5_keep 10 = .ok (.iaload, 1) := by decide +kernel
theorem dX5_keep_11 : decode cX5_keep 11 = .ok (.iastore, 1) := by decide +kernel
theorem dX5_keep_12 : decode cX5_keep 12 = .ok (.aload_n 0, 1) := by decide +kernel
theorem dX5_keep_13 : decode cX5_keep 13 = .ok (.getfield 15, 3) := by decide +kernel
theorem dX5_keep_16 : decode cX5_keep 16 = .ok (.iload_n 1, 1) := by decide +kernel
theorem dX5_keep_17 : decode cX5_keep 17 = .ok (.aload_n 0, 1) := by decide +kernel
theorem dX5_keep_18 : decode cX5_keep 18 = .ok (.getfield 15, 3) := by decide +kernel
theorem dX5_keep_21 : decode cX5_keep 21 = .ok (.iload_n 2, 1) := by decide +kernel
theorem dX5_keep_22 : decode cX5_keep 22 = .ok (.laload, 1) := by decide +kernel
theorem dX5_keep_23 : decode cX5_keep 23 = .ok (.lastore, 1) := by decide +kernel
theorem dX5_keep_24 : decode cX5_keep 24 = .ok (.return_, 1) := by decide +kernel
theorem dX5_dropAlike_0 : decode cX5_dropAlike 0 = .ok (.iconst 0, 1) := by decide +kernel
theorem dX5_dropAlike_1 : decode cX5_dropAlike 1 = .ok (.istore_n 2, 1) := by decide +kernel
theorem dX5_dropAlike_2 : decode cX5_dropAlike 2 = .ok (.iconst 0, 1) := by decide +kernel
theorem dX5_dropAlike_3 : decode cX5_dropAlike 3 = .ok (.istore_n 3, 1) := by decide +kernel
theorem dX5_dropAlike_4 : decode cX5_dropAlike 4 = .ok (.iload_n 3, 1) := by decide +kernel
theorem dX5_dropAlike_5 : decode cX5_dropAlike 5 = .ok (.aload_n 0, 1) := by decide +kernel
theorem dX5_dropAlike_6 : decode cX5_dropAlike 6 = .ok (.getfield 19, 3) := by decide +kernel
theorem dX5_dropAlike_9 : decode cX5_dropAlike 9 = .ok (.if_icmp .ge 43, 3) := by decide +kernel
theorem dX5_dropAlike_12 : decode cX5_dropAlike 12 = .ok (.iload_n 2, 1) := by decide +kernel
theorem dX5_dropAlike_13 : decode cX5_dropAlike 13 = .ok (.ifCond .eq 24, 3) := by decide +kernel
theorem dX5_dropAlike_16 : decode cX5_dropAlike 16 = .ok (.aload_n 0, 1) := by decide +kernel
theorem dX5_dropAlike_17 : decode cX5_dropAlike 17 = .ok (.getfield 9, 3) := by decide +kernel
theorem dX5_dropAlike_20 : decode cX5_dropAlike 20 = .ok (.iload_n 3, 1) := by decide +kernel
theorem dX5_dropAlike_21 : decode cX5_dropAlike 21 = .ok (.iaload, 1) := by decide +kernel
theorem dX5_dropAlike_22 : decode cX5_dropAlike 22 = .ok (.iload_n 1, 1) := by decide +kernel
theorem dX5_dropAlike_23 : decode cX5_dropAlike 23 = .ok (.idiv, 1) := by decide +kernel
theorem dX5_dropAlike_24 : decode cX5_dropAlike 24 = .ok (.aload_n 0, 1) := by decide +kernel
theorem dX5_dropAlike_25 : decode cX5_dropAlike 25 = .ok (.getfield 9, 3) := by decide +kernel
theorem dX5_dropAlike_28 : decode cX5_dropAlike 28 = .ok (.iload_n 2, 1) := by decide +kernel
theorem dX5_dropAlike_29 : decode cX5_dropAlike 29 = .ok (.iconst 1, 1) := by decide +kernel
theorem dX5_dropAlike_30 : decode cX5_dropAlike 30 = .ok (.isub, 1) := by decide +kernel
theorem dX5_dropAlike_31 : decode cX5_dropAlike 31 = .ok (.iaload, 1) := by decide +kernel
theorem dX5_dropAlike_32 : decode cX5_dropAlike 32 = .ok (.iload_n 1, 1) := by decide +kernel
theorem dX5_dropAlike_33 : decode cX5_dropAlike 33 = .ok (.idiv, 1) := by decide +kernel
theorem dX5_dropAlike_34 : decode cX5_dropAlike 34 = .ok (.if_icmp .eq 12, 3) := by decide +kernel
theorem dX5_dropAlike_37 : decode cX5_dropAlike 37 = .ok (.aload_n 0, 1) := by decide +kernel
theorem dX5_dropAlike_38 : decode cX5_dropAlike 38 = .ok (.iload_n 2, 1) := by decide +kernel
theorem dX5_dropAlike_39 : decode cX5_dropAlike 39 = .ok (.iload_n 3, 1) := by decide +kernel
theorem dX5_dropAlike_40 : decode cX5_dropAlike 40 = .ok (.invokevirtual 52, 3) := by decide +kernel
theorem dX5_dropAlike_43 : decode cX5_dropAlike 43 = .ok (.iinc 2 1, 3) := by decide +kernel
theorem dX5_dropAlike_46 : decode cX5_dropAlike 46 = .ok (.iinc 3 1, 3) := by decide +kernel
theorem dX5_dropAlike_49 : decode cX5_dropAlike 49 = .ok (.goto (-45), 3) := by decide +kernel
theorem dX5_dropAlike_52 : decode cX5_dropAlike 52 = .ok (.aload_n 0, 1) := by decide +kernel
theorem dX5_dropAlike_53 : decode cX5_dropAlike 53 = .ok (.iload_n 2, 1) := by decide +kernel
theorem dX5_dropAlike_54 : decode cX5_dropAlike 54 = .ok (.invokevirtual 56, 3) := by decide +kernel
theorem dX5_dropAlike_57 : decode cX5_dropAlike 57 = .ok (.ireturn, 1) := by decide +kernel
theorem dX5_dropSpan_0 : decode cX5_dropSpan 0 = .ok (.iconst 0, 1) := by decide +kernel
theorem dX5_dropSpan_1 : decode cX5_dropSpan 1 = .ok (.istore_n 3, 1) := by decide +kernel
theorem dX5_dropSpan_2 : decode cX5_dropSpan 2 = .ok (.iconst 0, 1) := by decide +kernel
theorem dX5_dropSpan_3 : decode cX5_dropSpan 3 = .ok (.istore 4, 2) := by decide +kernel
theorem dX5_dropSpan_5 : decode cX5_dropSpan 5 = .ok (.iload 4, 2) := by decide +kernel
theorem dX5_dropSpan_7 : decode cX5_dropSpan 7 = .ok (.aload_n 0, 1) := by decide +kernel
theorem dX5_dropSpan_8 : decode cX5_dropSpan 8 = .ok (.getfield 19, 3) := by decide +kernel
theorem dX5_dropSpan_11 : decode cX5_dropSpan 11 = .ok (.if_icmp .ge 41, 3) := by decide +kernel
theorem dX5_dropSpan_14 : decode cX5_dropSpan 14 = .ok (.aload_n 0, 1) := by decide +kernel
theorem dX5_dropSpan_15 : decode cX5_dropSpan 15 = .ok (.getfield 9, 3) := by decide +kernel
theorem dX5_dropSpan_18 : decode cX5_dropSpan 18 = .ok (.iload 4, 2) := by decide +kernel
theorem dX5_dropSpan_20 : decode cX5_dropSpan 20 = .ok (.iaload, 1) := by decide +kernel
theorem dX5_dropSpan_21 : decode cX5_dropSpan 21 = .ok (.iload_n 1, 1) := by decide +kernel
theorem dX5_dropSpan_22 : decode cX5_dropSpan 22 = .ok (.if_icmp .lt 14, 3) := by decide +kernel
theorem dX5_dropSpan_25 : decode cX5_dropSpan 25 = .ok (.aload_n 0, 1) := by decide +kernel
theorem dX5_dropSpan_26 : decode cX5_dropSpan 26 = .ok (.getfield 9, 3) := by decide +kernel
theorem dX5_dropSpan_29 : decode cX5_dropSpan 29 = .ok (.iload 4, 2) := by decide +kernel
theorem dX5_dropSpan_31 : decode cX5_dropSpan 31 = .ok (.iaload, 1) := by decide +kernel
theorem dX5_dropSpan_32 : decode cX5_dropSpan 32 = .ok (.iload_n 2, 1) := by decide +kernel
theorem dX5_dropSpan_33 : decode cX5_dropSpan 33 = .ok (.if_icmp .le 13, 3) := by decide +kernel
theorem dX5_dropSpan_36 : decode cX5_dropSpan 36 = .ok (.aload_n 0, 1) := by decide +kernel
theorem dX5_dropSpan_37 : decode cX5_dropSpan 37 = .ok (.iload_n 3, 1) := by decide +kernel
theorem dX5_dropSpan_38 : decode cX5_dropSpan 38 = .ok (.iload 4, 2) := by decide +kernel
theorem dX5_dropSpan_40 : decode cX5_dropSpan 40 = .ok (.invokevirtual 52, 3) := by decide +kernel
theorem dX5_dropSpan_43 : decode cX5_dropSpan 43 = .ok (.iinc 3 1, 3) := by decide +kernel
theorem dX5_dropSpan_46 : decode cX5_dropSpan 46 = .ok (.iinc 4 1, 3) := by decide +kernel
theorem dX5_dropSpan_49 : decode cX5_dropSpan 49 = .ok (.goto (-44), 3) := by decide +kernel
theorem dX5_dropSpan_52 : decode cX5_dropSpan 52 = .ok (.aload_n 0, 1) := by decide +kernel
theorem dX5_dropSpan_53 : decode cX5_dropSpan 53 = .ok (.iload_n 3, 1) := by decide +kernel
theorem dX5_dropSpan_54 : decode cX5_dropSpan 54 = .ok (.invokevirtual 56, 3) := by decide +kernel
theorem dX5_dropSpan_57 : decode cX5_dropSpan 57 = .ok (.ireturn, 1) := by decide +kernel
theorem dX5_shrink_0 : decode cX5_shrink 0 = .ok (.aload_n 0, 1) := by decide +kernel
theorem dX5_shrink_1 : decode cX5_shrink 1 = .ok (.getfield 19, 3) := by decide +kernel
theorem dX5_shrink_4 : decode cX5_shrink 4 = .ok (.iload_n 1, 1) := by decide +kernel
theorem dX5_shrink_5 : decode cX5_shrink 5 = .ok (.isub, 1) := by decide +kernel
theorem dX5_shrink_6 : decode cX5_shrink 6 = .ok (.istore_n 2, 1) := by decide +kernel
theorem dX5_shrink_7 : decode cX5_shrink 7 = .ok (.aload_n 0, 1) := by decide +kernel
theorem dX5_shrink_8 : decode cX5_shrink 8 = .ok (.iload_n 1, 1) := by decide +kernel
theorem dX5_shrink_9 : decode cX5_shrink 9 = .ok (.putfield 19, 3) := by decide +kernel
theorem dX5_shrink_12 : decode cX5_shrink 12 = .ok (.iload_n 2, 1) := by decide +kernel
theorem dX5_shrink_13 : decode cX5_shrink 13 = .ok (.ireturn, 1) := by decide +kernel
theorem dX5_clearLowest_0 : decode cX5_clearLowest 0 = .ok (.ldc2_w 59, 3) := by decide +kernel
theorem dX5_clearLowest_3 : decode cX5_clearLowest 3 = .ok (.iload_n 1, 1) := by decide +kernel
theorem dX5_clearLowest_4 : decode cX5_clearLowest 4 = .ok (.lshl, 1) := by decide +kernel
theorem dX5_clearLowest_5 : decode cX5_clearLowest 5 = .ok (.lstore_n 2, 1) := by decide +kernel
theorem dX5_clearLowest_6 : decode cX5_clearLowest 6 = .ok (.iconst 0, 1) := by decide +kernel
theorem dX5_clearLowest_7 : decode cX5_clearLowest 7 = .ok (.istore 4, 2) := by decide +kernel
theorem dX5_clearLowest_9 : decode cX5_clearLowest 9 = .ok (.iconst 0, 1) := by decide +kernel
theorem dX5_clearLowest_10 : decode cX5_clearLowest 10 = .ok (.istore 5, 2) := by decide +kernel
theorem dX5_clearLowest_12 : decode cX5_clearLowest 12 = .ok (.iload 5, 2) := by decide +kernel
theorem dX5_clearLowest_14 : decode cX5_clearLowest 14 = .ok (.aload_n 0, 1) := by decide +kernel
theorem dX5_clearLowest_15 : decode cX5_clearLowest 15 = .ok (.getfield 19, 3) := by decide +kernel
theorem dX5_clearLowest_18 : decode cX5_clearLowest 18 = .ok (.if_icmp .ge 56, 3) := by decide +kernel
theorem dX5_clearLowest_21 : decode cX5_clearLowest 21 = .ok (.aload_n 0, 1) := by decide +kernel
theorem dX5_clearLowest_22 : decode cX5_clearLowest 22 = .ok (.getfield 15, 3) := by decide +kernel
theorem dX5_clearLowest_25 : decode cX5_clearLowest 25 = .ok (.iload 5, 2) := by decide +kernel
theorem dX5_clearLowest_27 : decode cX5_clearLowest 27 = .ok (.laload, 1) := by decide +kernel
theorem dX5_clearLowest_28 : decode cX5_clearLowest 28 = .ok (.invokestatic 61, 3) := by decide +kernel
theorem dX5_clearLowest_31 : decode cX5_clearLowest 31 = .ok (.ifCond .eq 37, 3) := by decide +kernel
theorem dX5_clearLowest_34 : decode cX5_clearLowest 34 = .ok (.aload_n 0, 1) := by decide +kernel
theorem dX5_clearLowest_35 : decode cX5_clearLowest 35 = .ok (.getfield 15, 3) := by decide +kernel
theorem dX5_clearLowest_38 : decode cX5_clearLowest 38 = .ok (.iload 5, 2) := by decide +kernel
theorem dX5_clearLowest_40 : decode cX5_clearLowest 40 = .ok (.laload, 1) := by decide +kernel
theorem dX5_clearLowest_41 : decode cX5_clearLowest 41 = .ok (.lload_n 2, 1) := by decide +kernel
theorem dX5_clearLowest_42 : decode cX5_clearLowest 42 = .ok (.land, 1) := by decide +kernel
theorem dX5_clearLowest_43 : decode cX5_clearLowest 43 = .ok (.aload_n 0, 1) := by decide +kernel
theorem dX5_clearLowest_44 : decode cX5_clearLowest 44 = .ok (.getfield 15, 3) := by decide +kernel
theorem dX5_clearLowest_47 : decode cX5_clearLowest 47 = .ok (.iload 5, 2) := by decide +kernel
theorem dX5_clearLowest_49 : decode cX5_clearLowest 49 = .ok (.laload, 1) := by decide +kernel
theorem dX5_clearLowest_50 : decode cX5_clearLowest 50 = .ok (.lcmp, 1) := by decide +kernel
theorem dX5_clearLowest_51 : decode cX5_clearLowest 51 = .ok (.ifCond .eq 17, 3) := by decide +kernel
theorem dX5_clearLowest_54 : decode cX5_clearLowest 54 = .ok (.aload_n 0, 1) := by decide +kernel
theorem dX5_clearLowest_55 : decode cX5_clearLowest 55 = .ok (.getfield 15, 3) := by decide +kernel
theorem dX5_clearLowest_58 : decode cX5_clearLowest 58 = .ok (.iload 5, 2) := by decide +kernel
theorem dX5_clearLowest_60 : decode cX5_clearLowest 60 = .ok (.dup2, 1) := by decide +kernel
theorem dX5_clearLowest_61 : decode cX5_clearLowest 61 = .ok (.laload, 1) := by decide +kernel
theorem dX5_clearLowest_62 : decode cX5_clearLowest 62 = .ok (.lload_n 2, 1) := by decide +kernel
theorem dX5_clearLowest_63 : decode cX5_clearLowest 63 = .ok (.land, 1) := by decide +kernel
theorem dX5_clearLowest_64 : decode cX5_clearLowest 64 = .ok (.lastore, 1) := by decide +kernel
theorem dX5_clearLowest_65 : decode cX5_clearLowest 65 = .ok (.iinc 4 1, 3) := by decide +kernel
theorem dX5_clearLowest_68 : decode cX5_clearLowest 68 = .ok (.iinc 5 1, 3) := by decide +kernel
theorem dX5_clearLowest_71 : decode cX5_clearLowest 71 = .ok (.goto (-59), 3) := by decide +kernel
theorem dX5_clearLowest_74 : decode cX5_clearLowest 74 = .ok (.iload 4, 2) := by decide +kernel
theorem dX5_clearLowest_76 : decode cX5_clearLowest 76 = .ok (.ireturn, 1) := by decide +kernel
theorem dX5_leastOf_0 : decode cX5_leastOf 0 = .ok (.aload_n 0, 1) := by decide +kernel
theorem dX5_leastOf_1 : decode cX5_leastOf 1 = .ok (.getfield 15, 3) := by decide +kernel
theorem dX5_leastOf_4 : decode cX5_leastOf 4 = .ok (.iconst 0, 1) := by decide +kernel
theorem dX5_leastOf_5 : decode cX5_leastOf 5 = .ok (.laload, 1) := by decide +kernel
theorem dX5_leastOf_6 : decode cX5_leastOf 6 = .ok (.lstore_n 1, 1) := by decide +kernel
theorem dX5_leastOf_7 : decode cX5_leastOf 7 = .ok (.iconst 1, 1) := by decide +kernel
theorem dX5_leastOf_8 : decode cX5_leastOf 8 = .ok (.istore_n 3, 1) := by decide +kernel
theorem dX5_leastOf_9 : decode cX5_leastOf 9 = .ok (.iload_n 3, 1) := by decide +kernel
theorem dX5_leastOf_10 : decode cX5_leastOf 10 = .ok (.aload_n 0, 1) := by decide +kernel
theorem dX5_leastOf_11 : decode cX5_leastOf 11 = .ok (.getfield 19, 3) := by decide +kernel
theorem dX5_leastOf_14 : decode cX5_leastOf 14 = .ok (.if_icmp .ge 33, 3) := by decide +kernel
theorem dX5_leastOf_17 : decode cX5_leastOf 17 = .ok (.aload_n 0, 1) := by decide +kernel
theorem dX5_leastOf_18 : decode cX5_leastOf 18 = .ok (.getfield 15, 3) := by decide +kernel
theorem dX5_leastOf_21 : decode cX5_leastOf 21 = .ok (.iload_n 3, 1) := by decide +kernel
theorem dX5_leastOf_22 : decode cX5_leastOf 22 = .ok (.laload, 1) := by decide +kernel
theorem dX5_leastOf_23 : decode cX5_leastOf 23 = .ok (.invokestatic 43, 3) := by decide +kernel
theorem dX5_leastOf_26 : decode cX5_leastOf 26 = .ok (.lload_n 1, 1) := by decide +kernel
theorem dX5_leastOf_27 : decode cX5_leastOf 27 = .ok (.invokestatic 43, 3) := by decide +kernel
theorem dX5_leastOf_30 : decode cX5_leastOf 30 = .ok (.lcmp, 1) := by decide +kernel
theorem dX5_leastOf_31 : decode cX5_leastOf 31 = .ok (.ifCond .ge 10, 3) := by decide +kernel
theorem dX5_leastOf_34 : decode cX5_leastOf 34 = .ok (.aload_n 0, 1) := by decide +kernel
theorem dX5_leastOf_35 : decode cX5_leastOf 35 = .ok (.getfield 15, 3) := by decide +kernel
theorem dX5_leastOf_38 : decode cX5_leastOf 38 = .ok (.iload_n 3, 1) := by decide +kernel
theorem dX5_leastOf_39 : decode cX5_leastOf 39 = .ok (.laload, 1) := by decide +kernel
theorem dX5_leastOf_40 : decode cX5_leastOf 40 = .ok (.lstore_n 1, 1) := by decide +kernel
theorem dX5_leastOf_41 : decode cX5_leastOf 41 = .ok (.iinc 3 1, 3) := by decide +kernel
theorem dX5_leastOf_44 : decode cX5_leastOf 44 = .ok (.goto (-35), 3) := by decide +kernel
theorem dX5_leastOf_47 : decode cX5_leastOf 47 = .ok (.lload_n 1, 1) := by decide +kernel
theorem dX5_leastOf_48 : decode cX5_leastOf 48 = .ok (.lreturn, 1) := by decide +kernel
theorem dX5_greatestOf_0 : decode cX5_greatestOf 0 = .ok (.aload_n 0, 1) := by decide +kernel
theorem dX5_greatestOf_1 : decode cX5_greatestOf 1 = .ok (.getfield 15, 3) := by decide +kernel
theorem dX5_greatestOf_4 : decode cX5_greatestOf 4 = .ok (.iconst 0, 1) := by decide +kernel
theorem dX5_greatestOf_5 : decode cX5_greatestOf 5 = .ok (.laload, 1) := by decide +kernel
theorem dX5_greatestOf_6 : decode cX5_greatestOf 6 = .ok (.lstore_n 1, 1) := by decide +kernel
theorem dX5_greatestOf_7 : decode cX5_greatestOf 7 = .ok (.iconst 1, 1) := by decide +kernel
theorem dX5_greatestOf_8 : decode cX5_greatestOf 8 = .ok (.istore_n 3, 1) := by decide +kernel
theorem dX5_greatestOf_9 : decode cX5_greatestOf 9 = .ok (.iload_n 3, 1) := by decide +kernel
theorem dX5_greatestOf_10 : decode cX5_greatestOf 10 = .ok (.aload_n 0, 1) := by decide +kernel
theorem dX5_greatestOf_11 : decode cX5_greatestOf 11 = .ok (.getfield 19, 3) := by decide +kernel
theorem dX5_greatestOf_14 : decode cX5_greatestOf 14 = .ok (.if_icmp .ge 33, 3) := by decide +kernel
theorem dX5_greatestOf_17 : decode cX5_greatestOf 17 = .ok (.aload_n 0, 1) := by decide +kernel
theorem dX5_greatestOf_18 : decode cX5_greatestOf 18 = .ok (.getfield 15, 3) := by decide +kernel
theorem dX5_greatestOf_21 : decode cX5_greatestOf 21 = .ok (.iload_n 3, 1) := by decide +kernel
theorem dX5_greatestOf_22 : decode cX5_greatestOf 22 = .ok (.laload, 1) := by decide +kernel
theorem dX5_greatestOf_23 : decode cX5_greatestOf 23 = .ok (.invokestatic 43, 3) := by decide +kernel
theorem dX5_greatestOf_26 : decode cX5_greatestOf 26 = .ok (.lload_n 1, 1) := by decide +kernel
theorem dX5_greatestOf_27 : decode cX5_greatestOf 27 = .ok (.invokestatic 43, 3) := by decide +kernel
theorem dX5_greatestOf_30 : decode cX5_greatestOf 30 = .ok (.lcmp, 1) := by decide +kernel
theorem dX5_greatestOf_31 : decode cX5_greatestOf 31 = .ok (.ifCond .le 10, 3) := by decide +kernel
theorem dX5_greatestOf_34 : decode cX5_greatestOf 34 = .ok (.aload_n 0, 1) := by decide +kernel
theorem dX5_greatestOf_35 : decode cX5_greatestOf 35 = .ok (.getfield 15, 3) := by decide +kernel
theorem dX5_greatestOf_38 : decode cX5_greatestOf 38 = .ok (.iload_n 3, 1) := by decide +kernel
theorem dX5_greatestOf_39 : decode cX5_greatestOf 39 = .ok (.laload, 1) := by decide +kernel
theorem dX5_greatestOf_40 : decode cX5_greatestOf 40 = .ok (.lstore_n 1, 1) := by decide +kernel
theorem dX5_greatestOf_41 : decode cX5_greatestOf 41 = .ok (.iinc 3 1, 3) := by decide +kernel
theorem dX5_greatestOf_44 : decode cX5_greatestOf 44 = .ok (.goto (-35), 3) := by decide +kernel
theorem dX5_greatestOf_47 : decode cX5_greatestOf 47 = .ok (.lload_n 1, 1) := by decide +kernel
theorem dX5_greatestOf_48 : decode cX5_greatestOf 48 = .ok (.lreturn, 1) := by decide +kernel
theorem dX5_countAbove_0 : decode cX5_countAbove 0 = .ok (.iconst 0, 1) := by decide +kernel
theorem dX5_countAbove_1 : decode cX5_countAbove 1 = .ok (.istore_n 3, 1) := by decide +kernel
theorem dX5_countAbove_2 : decode cX5_countAbove 2 = .ok (.iconst 0, 1) := by decide +kernel
theorem dX5_countAbove_3 : decode cX5_countAbove 3 = .ok (.istore 4, 2) := by decide +kernel
theorem dX5_countAbove_5 : decode cX5_countAbove 5 = .ok (.iload 4, 2) := by decide +kernel
theorem dX5_countAbove_7 : decode cX5_countAbove 7 = .ok (.aload_n 0, 1) := by decide +kernel
theorem dX5_countAbove_8 : decode cX5_countAbove 8 = .ok (.getfield 19, 3) := by decide +kernel
theorem dX5_countAbove_11 : decode cX5_countAbove 11 = .ok (.if_icmp .ge 30, 3) := by decide +kernel
theorem dX5_countAbove_14 : decode cX5_countAbove 14 = .ok (.aload_n 0, 1) := by decide +kernel
theorem dX5_countAbove_15 : decode cX5_countAbove 15 = .ok (.getfield 15, 3) := by decide +kernel
theorem dX5_countAbove_18 : decode cX5_countAbove 18 = .ok (.iload 4, 2) := by decide +kernel
theorem dX5_countAbove_20 : decode cX5_countAbove 20 = .ok (.laload, 1) := by decide +kernel
theorem dX5_countAbove_21 : decode cX5_countAbove 21 = .ok (.invokestatic 43, 3) := by decide +kernel
theorem dX5_countAbove_24 : decode cX5_countAbove 24 = .ok (.lload_n 1, 1) := by decide +kernel
theorem dX5_countAbove_25 : decode cX5_countAbove 25 = .ok (.invokestatic 43, 3) := by decide +kernel
theorem dX5_countAbove_28 : decode cX5_countAbove 28 = .ok (.lcmp, 1) := by decide +kernel
theorem dX5_countAbove_29 : decode cX5_countAbove 29 = .ok (.ifCond .le 6, 3) := by decide +kernel
theorem dX5_countAbove_32 : decode cX5_countAbove 32 = .ok (.iinc 3 1, 3) := by decide +kernel
theorem dX5_countAbove_35 : decode cX5_countAbove 35 = .ok (.iinc 4 1, 3) := by decide +kernel
theorem dX5_countAbove_38 : decode cX5_countAbove 38 = .ok (.goto (-33), 3) := by decide +kernel
theorem dX5_countAbove_41 : decode cX5_countAbove 41 = .ok (.iload_n 3, 1) := by decide +kernel
theorem dX5_countAbove_42 : decode cX5_countAbove 42 = .ok (.ireturn, 1) := by decide +kernel
theorem dX5_countBelow_0 : decode cX5_countBelow 0 = .ok (.iconst 0, 1) := by decide +kernel
theorem dX5_countBelow_1 : decode cX5_countBelow 1 = .ok (.istore_n 3, 1) := by decide +kernel
theorem dX5_countBelow_2 : decode cX5_countBelow 2 = .ok (.iconst 0, 1) := by decide +kernel
theorem dX5_countBelow_3 : decode cX5_countBelow 3 = .ok (.istore 4, 2) := by decide +kernel
theorem dX5_countBelow_5 : decode cX5_countBelow 5 = .ok (.iload 4, 2) := by decide +kernel
theorem dX5_countBelow_7 : decode cX5_countBelow 7 = .ok (.aload_n 0, 1) := by decide +kernel
theorem dX5_countBelow_8 : decode cX5_countBelow 8 = .ok (.getfield 19, 3) := by decide +kernel
theorem dX5_countBelow_11 : decode cX5_countBelow 11 = .ok (.if_icmp .ge 27, 3) := by decide +kernel
theorem dX5_countBelow_14 : decode cX5_countBelow 14 = .ok (.aload_n 0, 1) := by decide +kernel
theorem dX5_countBelow_15 : decode cX5_countBelow 15 = .ok (.getfield 15, 3) := by decide +kernel
theorem dX5_countBelow_18 : decode cX5_countBelow 18 = .ok (.iload 4, 2) := by decide +kernel
theorem dX5_countBelow_20 : decode cX5_countBelow 20 = .ok (.laload, 1) := by decide +kernel
theorem dX5_countBelow_21 : decode cX5_countBelow 21 = .ok (.invokestatic 43, 3) := by decide +kernel
theorem dX5_countBelow_24 : decode cX5_countBelow 24 = .ok (.lload_n 1, 1) := by decide +kernel
theorem dX5_countBelow_25 : decode cX5_countBelow 25 = .ok (.lcmp, 1) := by decide +kernel
theorem dX5_countBelow_26 : decode cX5_countBelow 26 = .ok (.ifCond .ge 6, 3) := by decide +kernel
theorem dX5_countBelow_29 : decode cX5_countBelow 29 = .ok (.iinc 3 1, 3) := by decide +kernel
theorem dX5_countBelow_32 : decode cX5_countBelow 32 = .ok (.iinc 4 1, 3) := by decide +kernel
theorem dX5_countBelow_35 : decode cX5_countBelow 35 = .ok (.goto (-30), 3) := by decide +kernel
theorem dX5_countBelow_38 : decode cX5_countBelow 38 = .ok (.iload_n 3, 1) := by decide +kernel
theorem dX5_countBelow_39 : decode cX5_countBelow 39 = .ok (.ireturn, 1) := by decide +kernel
theorem dX5_ranked_0 : decode cX5_ranked 0 = .ok (.ldc2_w 64, 3) := by decide +kernel
theorem dX5_ranked_3 : decode cX5_ranked 3 = .ok (.lstore_n 2, 1) := by decide +kernel
theorem dX5_ranked_4 : decode cX5_ranked 4 = .ok (.ldc2_w 66, 3) := by decide +kernel
theorem dX5_ranked_7 : decode cX5_ranked 7 = .ok (.lstore 4, 2) := by decide +kernel
theorem dX5_ranked_9 : decode cX5_ranked 9 = .ok (.iconst 0, 1) := by decide +kernel
theorem dX5_ranked_10 : decode cX5_ranked 10 = .ok (.istore 6, 2) := by decide +kernel
theorem dX5_ranked_12 : decode cX5_ranked 12 = .ok (.iload 6, 2) := by decide +kernel
theorem dX5_ranked_14 : decode cX5_ranked 14 = .ok (.bipush 64, 2) := by decide +kernel
theorem dX5_ranked_16 : decode cX5_ranked 16 = .ok (.if_icmp .ge 51, 3) := by decide +kernel
theorem dX5_ranked_19 : decode cX5_ranked 19 = .ok (.lload_n 2, 1) := by decide +kernel
theorem dX5_ranked_20 : decode cX5_ranked 20 = .ok (.lload 4, 2) := by decide +kernel
theorem dX5_ranked_22 : decode cX5_ranked 22 = .ok (.lcmp, 1) := by decide +kernel
theorem dX5_ranked_23 : decode cX5_ranked 23 = .ok (.ifCond .ge 44, 3) := by decide +kernel
theorem dX5_ranked_26 : decode cX5_ranked 26 = .ok (.lload_n 2, 1) := by decide +kernel
theorem dX5_ranked_27 : decode cX5_ranked 27 = .ok (.lload 4, 2) := by decide +kernel
theorem dX5_ranked_29 : decode cX5_ranked 29 = .ok (.lor, 1) := by decide +kernel
theorem dX5_ranked_30 : decode cX5_ranked 30 = .ok (.lload_n 2, 1) := by decide +kernel
theorem dX5_ranked_31 : decode cX5_ranked 31 = .ok (.lload 4, 2) := by decide +kernel
theorem dX5_ranked_33 : decode cX5_ranked 33 = .ok (.lxor, 1) := by decide +kernel
theorem dX5_ranked_34 : decode cX5_ranked 34 = .ok (.iconst 1, 1) := by decide +kernel
theorem dX5_ranked_35 : decode cX5_ranked 35 = .ok (.lshr, 1) := by decide +kernel
theorem dX5_ranked_36 : decode cX5_ranked 36 = .ok (.lsub, 1) := by decide +kernel
theorem dX5_ranked_37 : decode cX5_ranked 37 = .ok (.lstore 7, 2) := by decide +kernel
theorem dX5_ranked_39 : decode cX5_ranked 39 = .ok (.aload_n 0, 1) := by decide +kernel
theorem dX5_ranked_40 : decode cX5_ranked 40 = .ok (.lload 7, 2) := by decide +kernel
theorem dX5_ranked_42 : decode cX5_ranked 42 = .ok (.invokevirtual 68, 3) := by decide +kernel
theorem dX5_ranked_45 : decode cX5_ranked 45 = .ok (.iload_n 1, 1) := by decide +kernel
theorem dX5_ranked_46 : decode cX5_ranked 46 = .ok (.if_icmp .gt 9, 3) := by decide +kernel
theorem dX5_ranked_49 : decode cX5_ranked 49 = .ok (.lload 7, 2) := by decide +kernel
theorem dX5_ranked_51 : decode cX5_ranked 51 = .ok (.lstore_n 2, 1) := by decide +kernel
theorem dX5_ranked_52 : decode cX5_ranked 52 = .ok (.goto 9, 3) := by decide +kernel
theorem dX5_ranked_55 : decode cX5_ranked 55 = .ok (.lload 7, 2) := by decide +kernel
theorem dX5_ranked_57 : decode cX5_ranked 57 = .ok (.lconst 1, 1) := by decide +kernel
theorem dX5_ranked_58 : decode cX5_ranked 58 = .ok (.lsub, 1) := by decide +kernel
theorem dX5_ranked_59 : decode cX5_ranked 59 = .ok (.lstore 4, 2) := by decide +kernel
theorem dX5_ranked_61 : decode cX5_ranked 61 = .ok (.iinc 6 1, 3) := by decide +kernel
theorem dX5_ranked_64 : decode cX5_ranked 64 = .ok (.goto (-52), 3) := by decide +kernel
theorem dX5_ranked_67 : decode cX5_ranked 67 = .ok (.iload_n 1, 1) := by decide +kernel
theorem dX5_ranked_68 : decode cX5_ranked 68 = .ok (.aload_n 0, 1) := by decide +kernel
theorem dX5_ranked_69 : decode cX5_ranked 69 = .ok (.lload_n 2, 1) := by decide +kernel
theorem dX5_ranked_70 : decode cX5_ranked 70 = .ok (.invokevirtual 68, 3) := by decide +kernel
theorem dX5_ranked_73 : decode cX5_ranked 73 = .ok (.isub, 1) := by decide +kernel
theorem dX5_ranked_74 : decode cX5_ranked 74 = .ok (.istore 6, 2) := by decide +kernel
theorem dX5_ranked_76 : decode cX5_ranked 76 = .ok (.iconst 0, 1) := by decide +kernel
theorem dX5_ranked_77 : decode cX5_ranked 77 = .ok (.istore 7, 2) := by decide +kernel
theorem dX5_ranked_79 : decode cX5_ranked 79 = .ok (.iload 7, 2) := by decide +kernel
theorem dX5_ranked_81 : decode cX5_ranked 81 = .ok (.aload_n 0, 1) := by decide +kernel
theorem dX5_ranked_82 : decode cX5_ranked 82 = .ok (.getfield 19, 3) := by decide +kernel
theorem dX5_ranked_85 : decode cX5_ranked 85 = .ok (.if_icmp .ge 40, 3) := by decide +kernel
theorem dX5_ranked_88 : decode cX5_ranked 88 = .ok (.aload_n 0, 1) := by decide +kernel
theorem dX5_ranked_89 : decode cX5_ranked 89 = .ok (.getfield 15, 3) := by decide +kernel
theorem dX5_ranked_92 : decode cX5_ranked 92 = .ok (.iload 7, 2) := by decide +kernel
theorem dX5_ranked_94 : decode cX5_ranked 94 = .ok (.laload, 1) := by decide +kernel
theorem dX5_ranked_95 : decode cX5_ranked 95 = .ok (.invokestatic 43, 3) := by decide +kernel
theorem dX5_ranked_98 : decode cX5_ranked 98 = .ok (.lload_n 2, 1) := by decide +kernel
theorem dX5_ranked_99 : decode cX5_ranked 99 = .ok (.lcmp, 1) := by decide +kernel
theorem dX5_ranked_100 : decode cX5_ranked 100 = .ok (.ifCond .ne 19, 3) := by decide +kernel
theorem dX5_ranked_103 : decode cX5_ranked 103 = .ok (.iload 6, 2) := by decide +kernel
theorem dX5_ranked_105 : decode cX5_ranked 105 = .ok (.ifCond .ne 11, 3) := by decide +kernel
theorem dX5_ranked_108 : decode cX5_ranked 108 = .ok (.aload_n 0, 1) := by decide +kernel
theorem dX5_ranked_109 : decode cX5_ranked 109 = .ok (.getfield 15, 3) := by decide +kernel
theorem dX5_ranked_112 : decode cX5_ranked 112 = .ok (.iload 7, 2) := by decide +kernel
theorem dX5_ranked_114 : decode cX5_ranked 114 = .ok (.laload, 1) := by decide +kernel
theorem dX5_ranked_115 : decode cX5_ranked 115 = .ok (.lreturn, 1) := by decide +kernel
theorem dX5_ranked_116 : decode cX5_ranked 116 = .ok (.iinc 6 (-1), 3) := by decide +kernel
theorem dX5_ranked_119 : decode cX5_ranked 119 = .ok (.iinc 7 1, 3) := by decide +kernel
theorem dX5_ranked_122 : decode cX5_ranked 122 = .ok (.goto (-43), 3) := by decide +kernel
theorem dX5_ranked_125 : decode cX5_ranked 125 = .ok (.ldc2_w 72, 3) := by decide +kernel
theorem dX5_ranked_128 : decode cX5_ranked 128 = .ok (.lreturn, 1) := by decide +kernel
theorem dX5_total_0 : decode cX5_total 0 = .ok (.lconst 0, 1) := by decide +kernel
theorem dX5_total_1 : decode cX5_total 1 = .ok (.lstore_n 1, 1) := by decide +kernel
theorem dX5_total_2 : decode cX5_total 2 = .ok (.iconst 0, 1) := by decide +kernel
theorem dX5_total_3 : decode cX5_total 3 = .ok (.istore_n 3, 1) := by decide +kernel
theorem dX5_total_4 : decode cX5_total 4 = .ok (.iload_n 3, 1) := by decide +kernel
theorem dX5_total_5 : decode cX5_total 5 = .ok (.aload_n 0, 1) := by decide +kernel
theorem dX5_total_6 : decode cX5_total 6 = .ok (.getfield 19, 3) := by decide +kernel
theorem dX5_total_9 : decode cX5_total 9 = .ok (.if_icmp .ge 28, 3) := by decide +kernel
theorem dX5_total_12 : decode cX5_total 12 = .ok (.lload_n 1, 1) := by decide +kernel
theorem dX5_total_13 : decode cX5_total 13 = .ok (.ldc2_w 72, 3) := by decide +kernel
theorem dX5_total_16 : decode cX5_total 16 = .ok (.lcmp, 1) := by decide +kernel
theorem dX5_total_17 : decode cX5_total 17 = .ok (.ifCond .eq 20, 3) := by decide +kernel
theorem dX5_total_20 : decode cX5_total 20 = .ok (.lload_n 1, 1) := by decide +kernel
theorem dX5_total_21 : decode cX5_total 21 = .ok (.aload_n 0, 1) := by decide +kernel
theorem dX5_total_22 : decode cX5_total 22 = .ok (.getfield 15, 3) := by decide +kernel
theorem dX5_total_25 : decode cX5_total 25 = .ok (.iload_n 3, 1) := by decide +kernel
theorem dX5_total_26 : decode cX5_total 26 = .ok (.laload, 1) := by decide +kernel
theorem dX5_total_27 : decode cX5_total 27 = .ok (.invokestatic 74, 3) := by decide +kernel
theorem dX5_total_30 : decode cX5_total 30 = .ok (.lstore_n 1, 1) := by decide +kernel
theorem dX5_total_31 : decode cX5_total 31 = .ok (.iinc 3 1, 3) := by decide +kernel
theorem dX5_total_34 : decode cX5_total 34 = .ok (.goto (-30), 3) := by decide +kernel
theorem dX5_total_37 : decode cX5_total 37 = .ok (.lload_n 1, 1) := by decide +kernel
theorem dX5_total_38 : decode cX5_total 38 = .ok (.lreturn, 1) := by decide +kernel
theorem dX5_surface_0 : decode cX5_surface 0 = .ok (.lconst 0, 1) := by decide +kernel
theorem dX5_surface_1 : decode cX5_surface 1 = .ok (.lstore_n 1, 1) := by decide +kernel
theorem dX5_surface_2 : decode cX5_surface 2 = .ok (.iconst 0, 1) := by decide +kernel
theorem dX5_surface_3 : decode cX5_surface 3 = .ok (.istore_n 3, 1) := by decide +kernel
theorem dX5_surface_4 : decode cX5_surface 4 = .ok (.iload_n 3, 1) := by decide +kernel
theorem dX5_surface_5 : decode cX5_surface 5 = .ok (.aload_n 0, 1) := by decide +kernel
theorem dX5_surface_6 : decode cX5_surface 6 = .ok (.getfield 19, 3) := by decide +kernel
theorem dX5_surface_9 : decode cX5_surface 9 = .ok (.iconst 1, 1) := by decide +kernel
theorem dX5_surface_10 : decode cX5_surface 10 = .ok (.isub, 1) := by decide +kernel
theorem dX5_surface_11 : decode cX5_surface 11 = .ok (.if_icmp .ge 58, 3) := by decide +kernel
theorem dX5_surface_14 : decode cX5_surface 14 = .ok (.lload_n 1, 1) := by decide +kernel
theorem dX5_surface_15 : decode cX5_surface 15 = .ok (.ldc2_w 72, 3) := by decide +kernel
theorem dX5_surface_18 : decode cX5_surface 18 = .ok (.lcmp, 1) := by decide +kernel
theorem dX5_surface_19 : decode cX5_surface 19 = .ok (.ifCond .eq 50, 3) := by decide +kernel
theorem dX5_surface_22 : decode cX5_surface 22 = .ok (.aload_n 0, 1) := by decide +kernel
theorem dX5_surface_23 : decode cX5_surface 23 = .ok (.getfield 15, 3) := by decide +kernel
theorem dX5_surface_26 : decode cX5_surface 26 = .ok (.iload_n 3, 1) := by decide +kernel
theorem dX5_surface_27 : decode cX5_surface 27 = .ok (.laload, 1) := by decide +kernel
theorem dX5_surface_28 : decode cX5_surface 28 = .ok (.invokestatic 37, 3) := by decide +kernel
theorem dX5_surface_31 : decode cX5_surface 31 = .ok (.ifCond .eq 32, 3) := by decide +kernel
theorem dX5_surface_34 : decode cX5_surface 34 = .ok (.lload_n 1, 1) := by decide +kernel
theorem dX5_surface_35 : decode cX5_surface 35 = .ok (.aload_n 0, 1) := by decide +kernel
theorem dX5_surface_36 : decode cX5_surface 36 = .ok (.getfield 15, 3) := by decide +kernel
theorem dX5_surface_39 : decode cX5_surface 39 = .ok (.iload_n 3, 1) := by decide +kernel
theorem dX5_surface_40 : decode cX5_surface 40 = .ok (.laload, 1) := by decide +kernel
theorem dX5_surface_41 : decode cX5_surface 41 = .ok (.aload_n 0, 1) := by decide +kernel
theorem dX5_surface_42 : decode cX5_surface 42 = .ok (.getfield 9, 3) := by decide +kernel
theorem dX5_surface_45 : decode cX5_surface 45 = .ok (.iload_n 3, 1) := by decide +kernel
theorem dX5_surface_46 : decode cX5_surface 46 = .ok (.iconst 1, 1) := by decide +kernel
theorem dX5_surface_47 : decode cX5_surface 47 = .ok (.iadd, 1) := by decide +kernel
theorem dX5_surface_48 : decode cX5_surface 48 = .ok (.iaload, 1) := by decide +kernel
theorem dX5_surface_49 : decode cX5_surface 49 = .ok (.aload_n 0, 1) := by decide +kernel
theorem dX5_surface_50 : decode cX5_surface 50 = .ok (.getfield 9, 3) := by decide +kernel
theorem dX5_surface_53 : decode cX5_surface 53 = .ok (.iload_n 3, 1) := by decide +kernel
theorem dX5_surface_54 : decode cX5_surface 54 = .ok (.iaload, 1) := by decide +kernel
theorem dX5_surface_55 : decode cX5_surface 55 = .ok (.isub, 1) := by decide +kernel
theorem dX5_surface_56 : decode cX5_surface 56 = .ok (.invokestatic 78, 3) := by decide +kernel
theorem dX5_surface_59 : decode cX5_surface 59 = .ok (.invokestatic 74, 3) := by decide +kernel
theorem dX5_surface_62 : decode cX5_surface 62 = .ok (.lstore_n 1, 1) := by decide +kernel
theorem dX5_surface_63 : decode cX5_surface 63 = .ok (.iinc 3 1, 3) := by decide +kernel
theorem dX5_surface_66 : decode cX5_surface 66 = .ok (.goto (-62), 3) := by decide +kernel
theorem dX5_surface_69 : decode cX5_surface 69 = .ok (.lload_n 1, 1) := by decide +kernel
theorem dX5_surface_70 : decode cX5_surface 70 = .ok (.lreturn, 1) := by decide +kernel
theorem dX6_init_0 : decode cX6_init 0 = .ok (.aload_n 0, 1) := by decide +kernel
theorem dX6_init_1 : decode cX6_init 1 = .ok (.invokespecial 3, 3) := by decide +kernel
theorem dX6_init_4 : decode cX6_init 4 = .ok (.aload_n 0, 1) := by decide +kernel
theorem dX6_init_5 : decode cX6_init 5 = .ok (.new 9, 3) := by decide +kernel
theorem dX6_init_8 : decode cX6_init 8 = .ok (.dup, 1) := by decide +kernel
theorem dX6_init_9 : decode cX6_init 9 = .ok (.invokespecial 11, 3) := by decide +kernel
theorem dX6_init_12 : decode cX6_init 12 = .ok (.putfield 12, 3) := by decide +kernel
theorem dX6_init_15 : decode cX6_init 15 = .ok (.return_, 1) := by decide +kernel
theorem dX6_open_0 : decode cX6_open 0 = .ok (.aload_n 0, 1) := by decide +kernel
theorem dX6_open_1 : decode cX6_open 1 = .ok (.aload_n 1, 1) := by decide +kernel
theorem dX6_open_2 : decode cX6_open 2 = .ok (.getfield 18, 3) := by decide +kernel
theorem dX6_open_5 : decode cX6_open 5 = .ok (.putfield 24, 3) := by decide +kernel
theorem dX6_open_8 : decode cX6_open 8 = .ok (.aload_n 0, 1) := by decide +kernel
theorem dX6_open_9 : decode cX6_open 9 = .ok (.aload_n 1, 1) := by decide +kernel
theorem dX6_open_10 : decode cX6_open 10 = .ok (.getfield 25, 3) := by decide +kernel
theorem dX6_open_13 : decode cX6_open 13 = .ok (.ifCond .eq 12, 3) := by decide +kernel
theorem dX6_open_16 : decode cX6_open 16 = .ok (.aload_n 1, 1) := by decide +kernel
theorem dX6_open_17 : decode cX6_open 17 = .ok (.getfield 29, 3) := by decide +kernel
theorem dX6_open_20 : decode cX6_open 20 = .ok (.iconst 1, 1) := by decide +kernel
theorem dX6_open_21 : decode cX6_open 21 = .ok (.isub, 1) := by decide +kernel
theorem dX6_open_22 : decode cX6_open 22 = .ok (.goto 7, 3) := by decide +kernel
theorem dX6_open_25 : decode cX6_open 25 = .ok (.aload_n 1, 1) := by decide +kernel
theorem dX6_open_26 : decode cX6_open 26 = .ok (.getfield 29, 3) := by decide +kernel
theorem dX6_open_29 : decode cX6_open 29 = .ok (.bipush 8, 2) := by decide +kernel
theorem dX6_open_31 : decode cX6_open 31 = .ok (.imul, 1) := by decide +kernel
theorem dX6_open_32 : decode cX6_open 32 = .ok (.putfield 33, 3) := by decide +kernel
theorem dX6_open_35 : decode cX6_open 35 = .ok (.aload_n 0, 1) := by decide +kernel
theorem dX6_open_36 : decode cX6_open 36 = .ok (.iconst 0, 1) := by decide +kernel
theorem dX6_open_37 : decode cX6_open 37 = .ok (.putfield 36, 3) := by decide +kernel
theorem dX6_open_40 : decode cX6_open 40 = .ok (.aload_n 0, 1) := by decide +kernel
theorem dX6_open_41 : decode cX6_open 41 = .ok (.iconst 0, 1) := by decide +kernel
theorem dX6_open_42 : decode cX6_open 42 = .ok (.putfield 39, 3) := by decide +kernel
theorem dX6_open_45 : decode cX6_open 45 = .ok (.aload_n 0, 1) := by decide +kernel
theorem dX6_open_46 : decode cX6_open 46 = .ok (.aload_n 0, 1) := by decide +kernel
theorem dX6_open_47 : decode cX6_open 47 = .ok (.bipush 32, 2) := by decide +kernel
theorem dX6_open_49 : decode cX6_open 49 = .ok (.invokevirtual 42, 3) := by decide +kernel
theorem dX6_open_52 : decode cX6_open 52 = .ok (.l2i, 1) := by decide +kernel
theorem dX6_open_53 : decode cX6_open 53 = .ok (.putfield 46, 3) := by decide +kernel
theorem dX6_open_56 : decode cX6_open 56 = .ok (.aload_n 0, 1) := by decide +kernel
theorem dX6_open_57 : decode cX6_open 57 = .ok (.bipush 64, 2) := by decide +kernel
theorem dX6_open_59 : decode cX6_open 59 = .ok (.invokevirtual 42, 3) := by decide +kernel
theorem dX6_open_62 : decode cX6_open 62 = .ok (.lstore_n 2, 1) := by decide +kernel
theorem dX6_open_63 : decode cX6_open 63 = .ok (.aload_n 0, 1) := by decide +kernel
theorem dX6_open_64 : decode cX6_open 64 = .ok (.aload_n 0, 1) := by decide +kernel
theorem dX6_open_65 : decode cX6_open 65 = .ok (.bipush 16, 2) := by decide +kernel
theorem dX6_open_67 : decode cX6_open 67 = .ok (.invokevirtual 42, 3) := by decide +kernel
theorem dX6_open_70 : decode cX6_open 70 = .ok (.l2i, 1) := by decide +kernel
theorem dX6_open_71 : decode cX6_open 71 = .ok (.putfield 49, 3) := by decide +kernel
theorem dX6_open_74 : decode cX6_open 74 = .ok (.aload_n 0, 1) := by decide +kernel
theorem dX6_open_75 : decode cX6_open 75 = .ok (.getfield 12, 3) := by decide +kernel
theorem dX6_open_78 : decode cX6_open 78 = .ok (.aload_n 0, 1) := by decide +kernel
theorem dX6_open_79 : decode cX6_open 79 = .ok (.getfield 46, 3) := by decide +kernel
theorem dX6_open_82 : decode cX6_open 82 = .ok (.lload_n 2, 1) := by decide +kernel
theorem dX6_open_83 : decode cX6_open 83 = .ok (.invokevirtual 52, 3) := by decide +kernel
theorem dX6_open_86 : decode cX6_open 86 = .ok (.return_, 1) := by decide +kernel
theorem dX6_examine_0 : decode cX6_examine 0 = .ok (.aload_n 0, 1) := by decide +kernel
theorem dX6_examine_1 : decode cX6_examine 1 = .ok (.iconst (-1), 1) := by decide +kernel
theorem dX6_examine_2 : decode cX6_examine 2 = .ok (.putfield 56, 3) := by decide +kernel
theorem dX6_examine_5 : decode cX6_examine 5 = .ok (.aload_n 1, 1) := by decide +kernel
theorem dX6_examine_6 : decode cX6_examine 6 = .ok (.getfield 29, 3) := by decide +kernel
theorem dX6_examine_9 : decode cX6_examine 9 = .ok (.bipush 14, 2) := by decide +kernel
theorem dX6_examine_11 : decode cX6_examine 11 = .ok (.if_icmp .le 27, 3) := by decide +kernel
theorem dX6_examine_14 : decode cX6_examine 14 = .ok (.aload_n 1, 1) := by decide +kernel
theorem dX6_examine_15 : decode cX6_examine 15 = .ok (.getfield 18, 3) := by decide +kernel
theorem dX6_examine_18 : decode cX6_examine 18 = .ok (.aload_n 1, 1) := by decide +kernel
theorem dX6_examine_19 : decode cX6_examine 19 = .ok (.getfield 29, 3) := by decide +kernel
theorem dX6_examine_22 : decode cX6_examine 22 = .ok (.iconst 1, 1) := by decide +kernel
theorem dX6_examine_23 : decode cX6_examine 23 = .ok (.isub, 1) := by decide +kernel
theorem dX6_examine_24 : decode cX6_examine 24 = .ok (.iaload, 1) := by decide +kernel
theorem dX6_examine_25 : decode cX6_examine 25 = .ok (.aload_n 1, 1) := by decide +kernel
theorem dX6_examine_26 : decode cX6_examine 26 = .ok (.aload_n 1, 1) := by decide +kernel
theorem dX6_examine_27 : decode cX6_examine 27 = .ok (.getfield 29, 3) := by decide +kernel
theorem dX6_examine_30 : decode cX6_examine 30 = .ok (.iconst 1, 1) := by decide +kernel
theorem dX6_examine_31 : decode cX6_examine 31 = .ok (.isub, 1) := by decide +kernel
theorem dX6_examine_32 : decode cX6_examine 32 = .ok (.invokevirtual 59, 3) := by decide +kernel
theorem dX6_examine_35 : decode cX6_examine 35 = .ok (.if_icmp .eq 5, 3) := by decide +kernel
theorem dX6_examine_38 : decode cX6_examine 38 = .ok (.iconst 1, 1) := by decide +kernel
theorem dX6_examine_39 : decode cX6_examine 39 = .ok (.ireturn, 1) := by decide +kernel
theorem dX6_examine_40 : decode cX6_examine 40 = .ok (.aload_n 0, 1) := by decide +kernel
theorem dX6_examine_41 : decode cX6_examine 41 = .ok (.aload_n 1, 1) := by decide +kernel
theorem dX6_examine_42 : decode cX6_examine 42 = .ok (.invokevirtual 63, 3) := by decide +kernel
theorem dX6_examine_45 : decode cX6_examine 45 = .ok (.aload_n 0, 1) := by decide +kernel
theorem dX6_examine_46 : decode cX6_examine 46 = .ok (.iconst 0, 1) := by decide +kernel
theorem dX6_examine_47 : decode cX6_examine 47 = .ok (.putfield 56, 3) := by decide +kernel
theorem dX6_examine_50 : decode cX6_examine 50 = .ok (.aload_n 0, 1) := by decide +kernel
theorem dX6_examine_51 : decode cX6_examine 51 = .ok (.getfield 49, 3) := by decide +kernel
theorem dX6_examine_54 : decode cX6_examine 54 = .ok (.ifCond .ne 5, 3) := by decide +kernel
theorem dX6_examine_57 : decode cX6_examine 57 = .ok (.iconst 5, 1) := by decide +kernel
theorem dX6_examine_58 : decode cX6_examine 58 = .ok (.ireturn, 1) := by decide +kernel
theorem dX6_examine_59 : decode cX6_examine 59 = .ok (.aload_n 0, 1) := by decide +kernel
theorem dX6_examine_60 : decode cX6_examine 60 = .ok (.getfield 46, 3) := by decide +kernel
theorem dX6_examine_63 : decode cX6_examine 63 = .ok (.invokestatic 67, 3) := by decide +kernel
theorem dX6_examine_66 : decode cX6_examine 66 = .ok (.ifCond .ne 5, 3) := by decide +kernel
theorem dX6_examine_69 : decode cX6_examine 69 = .ok (.iconst 3, 1) := by decide +kernel
theorem dX6_examine_70 : decode cX6_examine 70 = .ok (.ireturn, 1) := by decide +kernel
theorem dX6_examine_71 : decode cX6_examine 71 = .ok (.iconst 1, 1) := by decide +kernel
theorem dX6_examine_72 : decode cX6_examine 72 = .ok (.istore_n 3, 1) := by decide +kernel
theorem dX6_examine_73 : decode cX6_examine 73 = .ok (.iload_n 3, 1) := by decide +kernel
theorem dX6_examine_74 : decode cX6_examine 74 = .ok (.aload_n 0, 1) := by decide +kernel
theorem dX6_examine_75 : decode cX6_examine 75 = .ok (.getfield 49, 3) := by decide +kernel
theorem dX6_examine_78 : decode cX6_examine 78 = .ok (.if_icmp .ge 34, 3) := by decide +kernel
theorem dX6_examine_81 : decode cX6_examine 81 = .ok (.aload_n 0, 1) := by decide +kernel
theorem dX6_examine_82 : decode cX6_examine 82 = .ok (.aload_n 0, 1) := by decide +kernel
theorem dX6_examine_83 : decode cX6_examine 83 = .ok (.getfield 36, 3) := by decide +kernel
theorem dX6_examine_86 : decode cX6_examine 86 = .ok (.bipush 112, 2) := by decide +kernel
theorem dX6_examine_88 : decode cX6_examine 88 = .ok (.isub, 1) := by decide +kernel
theorem dX6_examine_89 : decode cX6_examine 89 = .ok (.putfield 56, 3) := by decide +kernel
theorem dX6_examine_92 : decode cX6_examine 92 = .ok (.aload_n 0, 1) := by decide +kernel
theorem dX6_examine_93 : decode cX6_examine 93 = .ok (.invokevirtual 71, 3) := by decide +kernel
theorem dX6_examine_96 : decode cX6_examine 96 = .ok (.istore 4, 2) := by decide +kernel
theorem dX6_examine_98 : decode cX6_examine 98 = .ok (.iload 4, 2) := by decide +kernel
theorem dX6_examine_100 : decode cX6_examine 100 = .ok (.ifCond .eq 6, 3) := by decide +kernel
theorem dX6_examine_103 : decode cX6_examine 103 = .ok (.iload 4, 2) := by decide +kernel
theorem dX6_examine_105 : decode cX6_examine 105 = .ok (.ireturn, 1) := by decide +kernel
theorem dX6_examine_106 : decode cX6_examine 106 = .ok (.iinc 3 1, 3) := by decide +kernel
theorem dX6_examine_109 : decode cX6_examine 109 = .ok (.goto (-36), 3) := by decide +kernel
theorem dX6_examine_112 : decode cX6_examine 112 = .ok (.aload_n 0, 1) := by decide +kernel
theorem dX6_examine_113 : decode cX6_examine 113 = .ok (.aload_n 0, 1) := by decide +kernel
theorem dX6_examine_114 : decode cX6_examine 114 = .ok (.getfield 36, 3) := by decide +kernel
theorem dX6_examine_117 : decode cX6_examine 117 = .ok (.bipush 112, 2) := by decide +kernel
theorem dX6_examine_119 : decode cX6_examine 119 = .ok (.isub, 1) := by decide +kernel
theorem dX6_examine_120 : decode cX6_examine 120 = .ok (.putfield 75, 3) := by decide +kernel
theorem dX6_examine_123 : decode cX6_examine 123 = .ok (.aload_n 0, 1) := by decide +kernel
theorem dX6_examine_124 : decode cX6_examine 124 = .ok (.aload_n 0, 1) := by decide +kernel
theorem dX6_examine_125 : decode cX6_examine 125 = .ok (.getfield 75, 3) := by decide +kernel
theorem dX6_examine_128 : decode cX6_examine 128 = .ok (.putfield 56, 3) := by decide +kernel
theorem dX6_examine_131 : decode cX6_examine 131 = .ok (.aload_n 0, 1) := by decide +kernel
theorem dX6_examine_132 : decode cX6_examine 132 = .ok (.getfield 33, 3) := by decide +kernel
theorem dX6_examine_135 : decode cX6_examine 135 = .ok (.aload_n 0, 1) := by decide +kernel
theorem dX6_examine_136 : decode cX6_examine 136 = .ok (.getfield 36, 3) := by decide +kernel
theorem dX6_examine_139 : decode cX6_examine 139 = .ok (.isub, 1) := by decide +kernel
theorem dX6_examine_140 : decode cX6_examine 140 = .ok (.istore_n 3, 1) := by decide +kernel
theorem dX6_examine_141 : decode cX6_examine 141 = .ok (.iload_n 3, 1) := by decide +kernel
theorem dX6_examine_142 : decode cX6_examine 142 = .ok (.bipush 7, 2) := by decide +kernel
theorem dX6_examine_144 : decode cX6_examine 144 = .ok (.if_icmp .gt 13, 3) := by decide +kernel
theorem dX6_examine_147 : decode cX6_examine 147 = .ok (.aload_n 0, 1) := by decide +kernel
theorem dX6_examine_148 : decode cX6_examine 148 = .ok (.iload_n 3, 1) := by decide +kernel
theorem dX6_examine_149 : decode cX6_examine 149 = .ok (.invokevirtual 42, 3) := by decide +kernel
theorem dX6_examine_152 : decode cX6_examine 152 = .ok (.lconst 0, 1) := by decide +kernel
theorem dX6_examine_153 : decode cX6_examine 153 = .ok (.lcmp, 1) := by decide +kernel
theorem dX6_examine_154 : decode cX6_examine 154 = .ok (.ifCond .eq 6, 3) := by decide +kernel
theorem dX6_examine_157 : decode cX6_examine 157 = .ok (.bipush 6, 2) := by decide +kernel
theorem dX6_examine_159 : decode cX6_examine 159 = .ok (.ireturn, 1) := by decide +kernel
theorem dX6_examine_160 : decode cX6_examine 160 = .ok (.iload_n 2, 1) := by decide +kernel
theorem dX6_examine_161 : decode cX6_examine 161 = .ok (.ifCond .eq 36, 3) := by decide +kernel
theorem dX6_examine_164 : decode cX6_examine 164 = .ok (.aload_n 0, 1) := by decide +kernel
theorem dX6_examine_165 : decode cX6_examine 165 = .ok (.getfield 46, 3) := by decide +kernel
theorem dX6_examine_168 : decode cX6_examine 168 = .ok (.aload_n 1, 1) := by decide +kernel
theorem dX6_examine_169 : decode cX6_examine 169 = .ok (.getfield 78, 3) := by decide +kernel
theorem dX6_examine_172 : decode cX6_examine 172 = .ok (.if_icmp .ne 17, 3) := by decide +kernel
theorem dX6_examine_175 : decode cX6_examine 175 = .ok (.aload_n 0, 1) := by decide +kernel
theorem dX6_examine_176 : decode cX6_examine 176 = .ok (.getfield 12, 3) := by decide +kernel
theorem dX6_examine_179 : decode cX6_examine 179 = .ok (.getfield 79, 3) := by decide +kernel
theorem dX6_examine_182 : decode cX6_examine 182 = .ok (.aload_n 1, 1) := by decide +kernel
theorem dX6_examine_183 : decode cX6_examine 183 = .ok (.getfield 82, 3) := by decide +kernel
theorem dX6_examine_186 : decode cX6_examine 186 = .ok (.if_icmp .eq 11, 3) := by decide +kernel
theorem dX6_examine_189 : decode cX6_examine 189 = .ok (.aload_n 0, 1) := by decide +kernel
theorem dX6_examine_190 : decode cX6_examine 190 = .ok (.iconst 0, 1) := by decide +kernel
theorem dX6_examine_191 : decode cX6_examine 191 = .ok (.putfield 56, 3) := by decide +kernel
theorem dX6_examine_194 : decode cX6_examine 194 = .ok (.bipush 7, 2) := by decide +kernel
theorem dX6_examine_196 : decode cX6_examine 196 = .ok (.ireturn, 1) := by decide +kernel
theorem dX6_examine_197 : decode cX6_examine 197 = .ok (.aload_n 0, 1) := by decide +kernel
theorem dX6_examine_198 : decode cX6_examine 198 = .ok (.iconst (-1), 1) := by decide +kernel
theorem dX6_examine_199 : decode cX6_examine 199 = .ok (.putfield 56, 3) := by decide +kernel
theorem dX6_examine_202 : decode cX6_examine 202 = .ok (.iconst 0, 1) := by decide +kernel
theorem dX6_examine_203 : decode cX6_examine 203 = .ok (.ireturn, 1) := by decide +kernel
theorem dX6_read_0 : decode cX6_read 0 = .ok (.aload_n 0, 1) := by decide +kernel
theorem dX6_read_1 : decode cX6_read 1 = .ok (.aload_n 0, 1) := by decide +kernel
theorem dX6_read_2 : decode cX6_read 2 = .ok (.invokevirtual 85, 3) := by decide +kernel
theorem dX6_read_5 : decode cX6_read 5 = .ok (.putfield 88, 3) := by decide +kernel
theorem dX6_read_8 : decode cX6_read 8 = .ok (.aload_n 0, 1) := by decide +kernel
theorem dX6_read_9 : decode cX6_read 9 = .ok (.aload_n 0, 1) := by decide +kernel
theorem dX6_read_10 : decode cX6_read 10 = .ok (.getfield 88, 3) := by decide +kernel
theorem dX6_read_13 : decode cX6_read 13 = .ok (.invokevirtual 91, 3) := by decide +kernel
theorem dX6_read_16 : decode cX6_read 16 = .ok (.lstore_n 1, 1) := by decide +kernel
theorem dX6_read_17 : decode cX6_read 17 = .ok (.aload_n 0, 1) := by decide +kernel
theorem dX6_read_18 : decode cX6_read 18 = .ok (.invokevirtual 94, 3) := by decide +kernel
theorem dX6_read_21 : decode cX6_read 21 = .ok (.aload_n 0, 1) := by decide +kernel
theorem dX6_read_22 : decode cX6_read 22 = .ok (.getfield 39, 3) := by decide +kernel
theorem dX6_read_25 : decode cX6_read 25 = .ok (.ifCond .eq 5, 3) := by decide +kernel
theorem dX6_read_28 : decode cX6_read 28 = .ok (.iconst 2, 1) := by decide +kernel
theorem dX6_read_29 : decode cX6_read 29 = .ok (.ireturn, 1) := by decide +kernel
theorem dX6_read_30 : decode cX6_read 30 = .ok (.aload_n 0, 1) := by decide +kernel
theorem dX6_read_31 : decode cX6_read 31 = .ok (.getfield 12, 3) := by decide +kernel
theorem dX6_read_34 : decode cX6_read 34 = .ok (.getfield 97, 3) := by decide +kernel
theorem dX6_read_37 : decode cX6_read 37 = .ok (.i2l, 1) := by decide +kernel
theorem dX6_read_38 : decode cX6_read 38 = .ok (.lload_n 1, 1) := by decide +kernel
theorem dX6_read_39 : decode cX6_read 39 = .ok (.ladd, 1) := by decide +kernel
theorem dX6_read_40 : decode cX6_read 40 = .ok (.lstore_n 3, 1) := by decide +kernel
theorem dX6_read_41 : decode cX6_read 41 = .ok (.aload_n 0, 1) := by decide +kernel
theorem dX6_read_42 : decode cX6_read 42 = .ok (.getfield 12, 3) := by decide +kernel
theorem dX6_read_45 : decode cX6_read 45 = .ok (.getfield 79, 3) := by decide +kernel
theorem dX6_read_48 : decode cX6_read 48 = .ok (.i2l, 1) := by decide +kernel
theorem dX6_read_49 : decode cX6_read 49 = .ok (.lload_n 3, 1) := by decide +kernel
theorem dX6_read_50 : decode cX6_read 50 = .ok (.ladd, 1) := by decide +kernel
theorem dX6_read_51 : decode cX6_read 51 = .ok (.lstore 5, 2) := by decide +kernel
theorem dX6_read_53 : decode cX6_read 53 = .ok (.lload_n 3, 1) := by decide +kernel
theorem dX6_read_54 : decode cX6_read 54 = .ok (.lconst 1, 1) := by decide +kernel
theorem dX6_read_55 : decode cX6_read 55 = .ok (.lcmp, 1) := by decide +kernel
theorem dX6_read_56 : decode cX6_read 56 = .ok (.ifCond .lt 12, 3) := by decide +kernel
theorem dX6_read_59 : decode cX6_read 59 = .ok (.lload 5, 2) := by decide +kernel
theorem dX6_read_61 : decode cX6_read 61 = .ok (.ldc2_w 100, 3) := by decide +kernel
theorem dX6_read_64 : decode cX6_read 64 = .ok (.lcmp, 1) := by decide +kernel
theorem dX6_read_65 : decode cX6_read 65 = .ok (.ifCond .le 5, 3) := by decide +kernel
theorem dX6_read_68 : decode cX6_read 68 = .ok (.iconst 3, 1) := by decide +kernel
theorem dX6_read_69 : decode cX6_read 69 = .ok (.ireturn, 1) := by decide +kernel
theorem dX6_read_70 : decode cX6_read 70 = .ok (.aload_n 0, 1) := by decide +kernel
theorem dX6_read_71 : decode cX6_read 71 = .ok (.getfield 102, 3) := by decide +kernel
theorem dX6_read_74 : decode cX6_read 74 = .ok (.ifCond .eq 5, 3) := by decide +kernel
theorem dX6_read_77 : decode cX6_read 77 = .ok (.iconst 4, 1) := by decide +kernel
theorem dX6_read_78 : decode cX6_read 78 = .ok (.ireturn, 1) := by decide +kernel
theorem dX6_read_79 : decode cX6_read 79 = .ok (.aload_n 0, 1) := by decide +kernel
theorem dX6_read_80 : decode cX6_read 80 = .ok (.getfield 12, 3) := by decide +kernel
theorem dX6_read_83 : decode cX6_read 83 = .ok (.lload 5, 2) := by decide +kernel
theorem dX6_read_85 : decode cX6_read 85 = .ok (.l2i, 1) := by decide +kernel
theorem dX6_read_86 : decode cX6_read 86 = .ok (.aload_n 0, 1) := by decide +kernel
theorem dX6_read_87 : decode cX6_read 87 = .ok (.getfield 12, 3) := by decide +kernel
theorem dX6_read_90 : decode cX6_read 90 = .ok (.getfield 105, 3) := by decide +kernel
theorem dX6_read_93 : decode cX6_read 93 = .ok (.aload_n 0, 1) := by decide +kernel
theorem dX6_read_94 : decode cX6_read 94 = .ok (.getfield 109, 3) := by decide +kernel
theorem dX6_read_97 : decode cX6_read 97 = .ok (.lxor, 1) := by decide +kernel
theorem dX6_read_98 : decode cX6_read 98 = .ok (.invokevirtual 112, 3) := by decide +kernel
theorem dX6_read_101 : decode cX6_read 101 = .ok (.aload_n 0, 1) := by decide +kernel
theorem dX6_read_102 : decode cX6_read 102 = .ok (.invokevirtual 115, 3) := by decide +kernel
theorem dX6_read_105 : decode cX6_read 105 = .ok (.ifCond .ne 5, 3) := by decide +kernel
theorem dX6_read_108 : decode cX6_read 108 = .ok (.iconst 4, 1) := by decide +kernel
theorem dX6_read_109 : decode cX6_read 109 = .ok (.ireturn, 1) := by decide +kernel
theorem dX6_read_110 : decode cX6_read 110 = .ok (.aload_n 0, 1) := by decide +kernel
theorem dX6_read_111 : decode cX6_read 111 = .ok (.getfield 12, 3) := by decide +kernel
theorem dX6_read_114 : decode cX6_read 114 = .ok (.invokevirtual 119, 3) := by decide +kernel
theorem dX6_read_117 : decode cX6_read 117 = .ok (.iconst 0, 1) := by decide +kernel
theorem dX6_read_118 : decode cX6_read 118 = .ok (.ireturn, 1) := by decide +kernel
theorem dX6_isToldSo_0 : decode cX6_isToldSo 0 = .ok (.aload_n 0, 1) := by decide +kernel
theorem dX6_isToldSo_1 : decode cX6_isToldSo 1 = .ok (.getfield 12, 3) := by decide +kernel
theorem dX6_isToldSo_4 : decode cX6_isToldSo 4 = .ok (.getfield 122, 3) := by decide +kernel
theorem dX6_isToldSo_7 : decode cX6_isToldSo 7 = .ok (.aload_n 0, 1) := by decide +kernel
theorem dX6_isToldSo_8 : decode cX6_isToldSo 8 = .ok (.getfield 88, 3) := by decide +kernel
theorem dX6_isToldSo_11 : decode cX6_isToldSo 11 = .ok (.if_icmp .ne 58, 3) := by decide +kernel
theorem dX6_isToldSo_14 : decode cX6_isToldSo 14 = .ok (.aload_n 0, 1) := by decide +kernel
theorem dX6_isToldSo_15 : decode cX6_isToldSo 15 = .ok (.getfield 12, 3) := by decide +kernel
theorem dX6_isToldSo_18 : decode cX6_isToldSo 18 = .ok (.getfield 123, 3) := by decide +kernel
theorem dX6_isToldSo_21 : decode cX6_isToldSo 21 = .ok (.aload_n 0, 1) := by decide +kernel
theorem dX6_isToldSo_22 : decode cX6_isToldSo 22 = .ok (.getfield 126, 3) := by decide +kernel
theorem dX6_isToldSo_25 : decode cX6_isToldSo 25 = .ok (.if_icmp .ne 44, 3) := by decide +kernel
theorem dX6_isToldSo_28 : decode cX6_isToldSo 28 = .ok (.aload_n 0, 1) := by decide +kernel
theorem dX6_isToldSo_29 : decode cX6_isToldSo 29 = .ok (.getfield 126, 3) := by decide +kernel
theorem dX6_isToldSo_32 : decode cX6_isToldSo 32 = .ok (.bipush 7, 2) := by decide +kernel
theorem dX6_isToldSo_34 : decode cX6_isToldSo 34 = .ok (.if_icmp .ne 31, 3) := by decide +kernel
theorem dX6_isToldSo_37 : decode cX6_isToldSo 37 = .ok (.aload_n 0, 1) := by decide +kernel
theorem dX6_isToldSo_38 : decode cX6_isToldSo 38 = .ok (.getfield 12, 3) := by decide +kernel
theorem dX6_isToldSo_41 : decode cX6_isToldSo 41 = .ok (.getfield 127, 3) := by decide +kernel
theorem dX6_isToldSo_44 : decode cX6_isToldSo 44 = .ok (.aload_n 0, 1) := by decide +kernel
theorem dX6_isToldSo_45 : decode cX6_isToldSo 45 = .ok (.getfield 130, 3) := by decide +kernel
theorem dX6_isToldSo_48 : decode cX6_isToldSo 48 = .ok (.if_icmp .ne 21, 3) := by decide +kernel
theorem dX6_isToldSo_51 : decode cX6_isToldSo 51 = .ok (.aload_n 0, 1) := by decide +kernel
theorem dX6_isToldSo_52 : decode cX6_isToldSo 52 = .ok (.getfield 12, 3) := by decide +kernel
theorem dX6_isToldSo_55 : decode cX6_isToldSo 55 = .ok (.getfield 133, 3) := by decide +kernel
theorem dX6_isToldSo_58 : decode cX6_isToldSo 58 = .ok (.aload_n 0, 1) := by decide +kernel
theorem dX6_isToldSo_59 : decode cX6_isToldSo 59 = .ok (.getfield 136, 3) := by decide +kernel
theorem dX6_isToldSo_62 : decode cX6_isToldSo 62 = .ok (.if_icmp .ne 7, 3) := by decide +kernel
theorem dX6_isToldSo_65 : decode cX6_isToldSo 65 = .ok (.iconst 1, 1) := by decide +kernel
theorem dX6_isToldSo_66 : decode cX6_isToldSo 66 = .ok (.goto 4, 3) := by decide +kernel
theorem dX6_isToldSo_69 : decode cX6_isToldSo 69 = .ok (.iconst 0, 1) := by decide +kernel
theorem dX6_isToldSo_70 : decode cX6_isToldSo 70 = .ok (.ireturn, 1) := by decide +kernel
theorem dX6_takeKind_0 : decode cX6_takeKind 0 = .ok (.iconst 0, 1) := by decide +kernel
theorem dX6_takeKind_1 : decode cX6_takeKind 1 = .ok (.istore_n 1, 1) := by decide +kernel
theorem dX6_takeKind_2 : decode cX6_takeKind 2 = .ok (.iload_n 1, 1) := by decide +kernel
theorem dX6_takeKind_3 : decode cX6_takeKind 3 = .ok (.iconst 4, 1) := by decide +kernel
theorem dX6_takeKind_4 : decode cX6_takeKind 4 = .ok (.if_icmp .ge 19, 3) := by decide +kernel
theorem dX6_takeKind_7 : decode cX6_takeKind 7 = .ok (.aload_n 0, 1) := by decide +kernel
theorem dX6_takeKind_8 : decode cX6_takeKind 8 = .ok (.iconst 1, 1) := by decide +kernel
theorem dX6_takeKind_9 : decode cX6_takeKind 9 = .ok (.invokevirtual 42, 3) := by decide +kernel
theorem dX6_takeKind_12 : decode cX6_takeKind 12 = .ok (.lconst 1, 1) := by decide +kernel
theorem dX6_takeKind_13 : decode cX6_takeKind 13 = .ok (.lcmp, 1) := by decide +kernel
theorem dX6_takeKind_14 : decode cX6_takeKind 14 = .ok (.ifCond .ne 9, 3) := by decide +kernel
theorem dX6_takeKind_17 : decode cX6_takeKind 17 = .ok (.iinc 1 1, 3) := by decide +kernel
theorem dX6_takeKind_20 : decode cX6_takeKind 20 = .ok (.goto (-18), 3) := by decide +kernel
theorem dX6_takeKind_23 : decode cX6_takeKind 23 = .ok (.iload_n 1, 1) := by decide +kernel
theorem dX6_takeKind_24 : decode cX6_takeKind 24 = .ok (.ireturn, 1) := by decide +kernel
theorem dX6_takeSecond_0 : decode cX6_takeSecond 0 = .ok (.getstatic 139, 3) := by decide +kernel
theorem dX6_takeSecond_3 : decode cX6_takeSecond 3 = .ok (.iload_n 1, 1) := by decide +kernel
theorem dX6_takeSecond_4 : decode cX6_takeSecond 4 = .ok (.iaload, 1) := by decide +kernel
theorem dX6_takeSecond_5 : decode cX6_takeSecond 5 = .ok (.istore_n 2, 1) := by decide +kernel
theorem dX6_takeSecond_6 : decode cX6_takeSecond 6 = .ok (.iload_n 2, 1) := by decide +kernel
theorem dX6_takeSecond_7 : decode cX6_takeSecond 7 = .ok (.ifCond .ne 5, 3) := by decide +kernel
theorem dX6_takeSecond_10 : decode cX6_takeSecond 10 = .ok (.lconst 0, 1) := by decide +kernel
theorem dX6_takeSecond_11 : decode cX6_takeSecond 11 = .ok (.lreturn, 1) := by decide +kernel
theorem dX6_takeSecond_12 : decode cX6_takeSecond 12 = .ok (.aload_n 0, 1) := by decide +kernel
theorem dX6_takeSecond_13 : decode cX6_takeSecond 13 = .ok (.iload_n 2, 1) := by decide +kernel
theorem dX6_takeSecond_14 : decode cX6_takeSecond 14 = .ok (.invokevirtual 42, 3) := by decide +kernel
theorem dX6_takeSecond_17 : decode cX6_takeSecond 17 = .ok (.lstore_n 3, 1) := by decide +kernel
theorem dX6_takeSecond_18 : decode cX6_takeSecond 18 = .ok (.lload_n 3, 1) := by decide +kernel
theorem dX6_takeSecond_19 : decode cX6_takeSecond 19 = .ok (.lconst 1, 1) := by decide +kernel
theorem dX6_takeSecond_20 : decode cX6_takeSecond 20 = .ok (.iload_n 2, 1) := by decide +kernel
theorem dX6_takeSecond_21 : decode cX6_takeSecond 21 = .ok (.iconst 1, 1) := by decide +kernel
theorem dX6_takeSecond_22 : decode cX6_takeSecond 22 = .ok (.isub, 1) := by decide +kernel
theorem dX6_takeSecond_23 : decode cX6_takeSecond 23 = .ok (.lshl, 1) := by decide +kernel
theorem dX6_takeSecond_24 : decode cX6_takeSecond 24 = .ok (.lcmp, 1) := by decide +kernel
theorem dX6_takeSecond_25 : decode cX6_takeSecond 25 = .ok (.ifCond .le 11, 3) := by decide +kernel
theorem dX6_takeSecond_28 : decode cX6_takeSecond 28 = .ok (.lload_n 3, 1) := by decide +kernel
theorem dX6_takeSecond_29 : decode cX6_takeSecond 29 = .ok (.lconst 1, 1) := by decide +kernel
theorem dX6_takeSecond_30 : decode cX6_takeSecond 30 = .ok (.iload_n 2, 1) := by decide +kernel
theorem dX6_takeSecond_31 : decode cX6_takeSecond 31 = .ok (.lshl, 1) := by decide +kernel
theorem dX6_takeSecond_32 : decode cX6_takeSecond 32 = .ok (.lsub, 1) := by decide +kernel
theorem dX6_takeSecond_33 : decode cX6_takeSecond 33 = .ok (.goto 4, 3) := by decide +kernel
theorem dX6_takeSecond_36 : decode cX6_takeSecond 36 = .ok (.lload_n 3, 1) := by decide +kernel
theorem dX6_takeSecond_37 : decode cX6_takeSecond 37 = .ok (.lreturn, 1) := by decide +kernel
theorem dX6_takeValue_0 : decode cX6_takeValue 0 = .ok (.aload_n 0, 1) := by decide +kernel
theorem dX6_takeValue_1 : decode cX6_takeValue 1 = .ok (.iconst 0, 1) := by decide +kernel
theorem dX6_takeValue_2 : decode cX6_takeValue 2 = .ok (.putfield 130, 3) := by decide +kernel
theorem dX6_takeValue_5 : decode cX6_takeValue 5 = .ok (.aload_n 0, 1) := by decide +kernel
theorem dX6_takeValue_6 : decode cX6_takeValue 6 = .ok (.iconst 0, 1) := by decide +kernel
theorem dX6_takeValue_7 : decode cX6_takeValue 7 = .ok (.putfield 136, 3) := by decide +kernel
theorem dX6_takeValue_10 : decode cX6_takeValue 10 = .ok (.iconst 0, 1) := by decide +kernel
theorem dX6_takeValue_11 : decode cX6_takeValue 11 = .ok (.istore_n 1, 1) := by decide +kernel
theorem dX6_takeValue_12 : decode cX6_takeValue 12 = .ok (.aload_n 0, 1) := by decide +kernel
theorem dX6_takeValue_13 : decode cX6_takeValue 13 = .ok (.iconst 1, 1) := by decide +kernel
theorem dX6_takeValue_14 : decode cX6_takeValue 14 = .ok (.invokevirtual 42, 3) := by decide +kernel
theorem dX6_takeValue_17 : decode cX6_takeValue 17 = .ok (.lconst 0, 1) := by decide +kernel
theorem dX6_takeValue_18 : decode cX6_takeValue 18 = .ok (.lcmp, 1) := by decide +kernel
theorem dX6_takeValue_19 : decode cX6_takeValue 19 = .ok (.ifCond .ne 11, 3) := by decide +kernel
theorem dX6_takeValue_22 : decode cX6_takeValue 22 = .ok (.aload_n 0, 1) := by decide +kernel
theorem dX6_takeValue_23 : decode cX6_takeValue 23 = .ok (.iconst 5, 1) := by decide +kernel
theorem dX6_takeValue_24 : decode cX6_takeValue 24 = .ok (.putfield 126, 3) := by decide +kernel
theorem dX6_takeValue_27 : decode cX6_takeValue 27 = .ok (.goto 103, 3) := by decide +kernel
theorem dX6_takeValue_30 : decode cX6_takeValue 30 = .ok (.aload_n 0, 1) := by decide +kernel
theorem dX6_takeValue_31 : decode cX6_takeValue 31 = .ok (.iconst 1, 1) := by decide +kernel
theorem dX6_takeValue_32 : decode cX6_takeValue 32 = .ok (.invokevirtual 42, 3) := by decide +kernel
theorem dX6_takeValue_35 : decode cX6_takeValue 35 = .ok (.lconst 0, 1) := by decide +kernel
theorem dX6_takeValue_36 : decode cX6_takeValue 36 = .ok (.lcmp, 1) := by decide +kernel
theorem dX6_takeValue_37 : decode cX6_takeValue 37 = .ok (.ifCond .ne 54, 3) := by decide +kernel
theorem dX6_takeValue_40 : decode cX6_takeValue 40 = .ok (.aload_n 0, 1) := by decide +kernel
theorem dX6_takeValue_41 : decode cX6_takeValue 41 = .ok (.bipush 6, 2) := by decide +kernel
theorem dX6_takeValue_43 : decode cX6_takeValue 43 = .ok (.putfield 126, 3) := by decide +kernel
theorem dX6_takeValue_46 : decode cX6_takeValue 46 = .ok (.aload_n 0, 1) := by decide +kernel
theorem dX6_takeValue_47 : decode cX6_takeValue 47 = .ok (.aload_n 0, 1) := by decide +kernel
theorem dX6_takeValue_48 : decode cX6_takeValue 48 = .ok (.getfield 12, 3) := by decide +kernel
theorem dX6_takeValue_51 : decode cX6_takeValue 51 = .ok (.getfield 142, 3) := by decide +kernel
theorem dX6_takeValue_54 : decode cX6_takeValue 54 = .ok (.putfield 136, 3) := by decide +kernel
theorem dX6_takeValue_57 : decode cX6_takeValue 57 = .ok (.aload_n 0, 1) := by decide +kernel
theorem dX6_takeValue_58 : decode cX6_takeValue 58 = .ok (.getfield 12, 3) := by decide +kernel
theorem dX6_takeValue_61 : decode cX6_takeValue 61 = .ok (.getfield 143, 3) := by decide +kernel
theorem dX6_takeValue_64 : decode cX6_takeValue 64 = .ok (.iconst (-1), 1) := by decide +kernel
theorem dX6_takeValue_65 : decode cX6_takeValue 65 = .ok (.if_icmp .ne 7, 3) := by decide +kernel
theorem dX6_takeValue_68 : decode cX6_takeValue 68 = .ok (.iconst 0, 1) := by decide +kernel
theorem dX6_takeValue_69 : decode cX6_takeValue 69 = .ok (.goto 18, 3) := by decide +kernel
theorem dX6_takeValue_72 : decode cX6_takeValue 72 = .ok (.bipush 64, 2) := by decide +kernel
theorem dX6_takeValue_74 : decode cX6_takeValue 74 = .ok (.aload_n 0, 1) := by decide +kernel
theorem dX6_takeValue_75 : decode cX6_takeValue 75 = .ok (.getfield 12, 3) := by decide +kernel
theorem dX6_takeValue_78 : decode cX6_takeValue 78 = .ok (.getfield 143, 3) := by decide +kernel
theorem dX6_takeValue_81 : decode cX6_takeValue 81 = .ok (.isub, 1) := by decide +kernel
theorem dX6_takeValue_82 : decode cX6_takeValue 82 = .ok (.aload_n 0, 1) := by decide +kernel
theorem dX6_takeValue_83 : decode cX6_takeValue 83 = .ok (.getfield 136, 3) := by decide +kernel
theorem dX6_takeValue_86 : decode cX6_takeValue 86 = .ok (.isub, 1) := by decide +kernel
theorem dX6_takeValue_87 : decode cX6_takeValue 87 = .ok (.istore_n 1, 1) := by decide +kernel
theorem dX6_takeValue_88 : decode cX6_takeValue 88 = .ok (.goto 42, 3) := by decide +kernel
theorem dX6_takeValue_91 : decode cX6_takeValue 91 = .ok (.aload_n 0, 1) := by decide +kernel
theorem dX6_takeValue_92 : decode cX6_takeValue 92 = .ok (.bipush 7, 2) := by decide +kernel
theorem dX6_takeValue_94 : decode cX6_takeValue 94 = .ok (.putfield 126, 3) := by decide +kernel
theorem dX6_takeValue_97 : decode cX6_takeValue 97 = .ok (.aload_n 0, 1) := by decide +kernel
theorem dX6_takeValue_98 : decode cX6_takeValue 98 = .ok (.aload_n 0, 1) := by decide +kernel
theorem dX6_takeValue_99 : decode cX6_takeValue 99 = .ok (.iconst 5, 1) := by decide +kernel
theorem dX6_takeValue_100 : decode cX6_takeValue 100 = .ok (.invokevirtual 42, 3) := by decide +kernel
theorem dX6_takeValue_103 : decode cX6_takeValue 103 = .ok (.l2i, 1) := by decide +kernel
theorem dX6_takeValue_104 : decode cX6_takeValue 104 = .ok (.putfield 130, 3) := by decide +kernel
theorem dX6_takeValue_107 : decode cX6_takeValue 107 = .ok (.aload_n 0, 1) := by decide +kernel
theorem dX6_takeValue_108 : decode cX6_takeValue 108 = .ok (.bipush 6, 2) := by decide +kernel
theorem dX6_takeValue_110 : decode cX6_takeValue 110 = .ok (.invokevirtual 42, 3) := by decide +kernel
theorem dX6_takeValue_113 : decode cX6_takeValue 113 = .ok (.l2i, 1) := by decide +kernel
theorem dX6_takeValue_114 : decode cX6_takeValue 114 = .ok (.iconst 1, 1) := by decide +kernel
theorem dX6_takeValue_115 : decode cX6_takeValue 115 = .ok (.iadd, 1) := by decide +kernel
theorem dX6_takeValue_116 : decode cX6_takeValue 116 = .ok (.istore_n 1, 1) := by decide +kernel
theorem dX6_takeValue_117 : decode cX6_takeValue 117 = .ok (.aload_n 0, 1) := by decide +kernel
theorem dX6_takeValue_118 : decode cX6_takeValue 118 = .ok (.bipush 64, 2) := by decide +kernel
theorem dX6_takeValue_120 : decode cX6_takeValue 120 = .ok (.aload_n 0, 1) := by decide +kernel
theorem dX6_takeValue_121 : decode cX6_takeValue 121 = .ok (.getfield 130, 3) := by decide +kernel
theorem dX6_takeValue_124 : decode cX6_takeValue 124 = .ok (.isub, 1) := by decide +kernel
theorem dX6_takeValue_125 : decode cX6_takeValue 125 = .ok (.iload_n 1, 1) := by decide +kernel
theorem dX6_takeValue_126 : decode cX6_takeValue 126 = .ok (.isub, 1) := by decide +kernel
theorem dX6_takeValue_127 : decode cX6_takeValue 127 = .ok (.putfield 136, 3) := by decide +kernel
theorem dX6_takeValue_130 : decode cX6_takeValue 130 = .ok (.aload_n 0, 1) := by decide +kernel
theorem dX6_takeValue_131 : decode cX6_takeValue 131 = .ok (.iload_n 1, 1) := by decide +kernel
theorem dX6_takeValue_132 : decode cX6_takeValue 132 = .ok (.invokevirtual 42, 3) := by decide +kernel
theorem dX6_takeValue_135 : decode cX6_takeValue 135 = .ok (.lstore_n 2, 1) := by decide +kernel
theorem dX6_takeValue_136 : decode cX6_takeValue 136 = .ok (.aload_n 0, 1) := by decide +kernel
theorem dX6_takeValue_137 : decode cX6_takeValue 137 = .ok (.aload_n 0, 1) := by decide +kernel
theorem dX6_takeValue_138 : decode cX6_takeValue 138 = .ok (.getfield 136, 3) := by decide +kernel
theorem dX6_takeValue_141 : decode cX6_takeValue 141 = .ok (.ifCond .ge 7, 3) := by decide +kernel
theorem dX6_takeValue_144 : decode cX6_takeValue 144 = .ok (.iconst 1, 1) := by decide +kernel
theorem dX6_takeValue_145 : decode cX6_takeValue 145 = .ok (.goto 4, 3) := by decide +kernel
theorem dX6_takeValue_148 : decode cX6_takeValue 148 = .ok (.iconst 0, 1) := by decide +kernel
theorem dX6_takeValue_149 : decode cX6_takeValue 149 = .ok (.putfield 102, 3) := by decide +kernel
theorem dX6_takeValue_152 : decode cX6_takeValue 152 = .ok (.aload_n 0, 1) := by decide +kernel
theorem dX6_takeValue_153 : decode cX6_takeValue 153 = .ok (.aload_n 0, 1) := by decide +kernel
theorem dX6_takeValue_154 : decode cX6_takeValue 154 = .ok (.getfield 102, 3) := by decide +kernel
theorem dX6_takeValue_157 : decode cX6_takeValue 157 = .ok (.ifCond .eq 7, 3) := by decide +kernel
theorem dX6_takeValue_160 : decode cX6_takeValue 160 = .ok (.lconst 0, 1) := by decide +kernel
theorem dX6_takeValue_161 : decode cX6_takeValue 161 = .ok (.goto 9, 3) := by decide +kernel
theorem dX6_takeValue_164 : decode cX6_takeValue 164 = .ok (.lload_n 2, 1) := by decide +kernel
theorem dX6_takeValue_165 : decode cX6_takeValue 165 = .ok (.aload_n 0, 1) := by decide +kernel
theorem dX6_takeValue_166 : decode cX6_takeValue 166 = .ok (.getfield 136, 3) := by decide +kernel
theorem dX6_takeValue_169 : decode cX6_takeValue 169 = .ok (.lshl, 1) := by decide +kernel
theorem dX6_takeValue_170 : decode cX6_takeValue 170 = .ok (.putfield 109, 3) := by decide +kernel
theorem dX6_takeValue_173 : decode cX6_takeValue 173 = .ok (.return_, 1) := by decide +kernel
theorem dX6_takeBits_0 : decode cX6_takeBits 0 = .ok (.iload_n 1, 1) := by decide +kernel
theorem dX6_takeBits_1 : decode cX6_takeBits 1 = .ok (.aload_n 0, 1) := by decide +kernel
theorem dX6_takeBits_2 : decode cX6_takeBits 2 = .ok (.getfield 33, 3) := by decide +kernel
theorem dX6_takeBits_5 : decode cX6_takeBits 5 = .ok (.aload_n 0, 1) := by decide +kernel
theorem dX6_takeBits_6 : decode cX6_takeBits 6 = .ok (.getfield 36, 3) := by decide +kernel
theorem dX6_takeBits_9 : decode cX6_takeBits 9 = .ok (.isub, 1) := by decide +kernel
theorem dX6_takeBits_10 : decode cX6_takeBits 10 = .ok (.if_icmp .le 10, 3) := by decide +kernel
theorem dX6_takeBits_13 : decode cX6_takeBits 13 = .ok (.aload_n 0, 1) := by decide +kernel
theorem dX6_takeBits_14 : decode cX6_takeBits 14 = .ok (.iconst 1, 1) := by decide +kernel
theorem dX6_takeBits_15 : decode cX6_takeBits 15 = .ok (.putfield 39, 3) := by decide +kernel
theorem dX6_takeBits_18 : decode cX6_takeBits 18 = .ok (.lconst 0, 1) := by decide +kernel
theorem dX6_takeBits_19 : decode cX6_takeBits 19 = .ok (.lreturn, 1) := by decide +kernel
theorem dX6_takeBits_20 : decode cX6_takeBits 20 = .ok (.lconst 0, 1) := by decide +kernel
theorem dX6_takeBits_21 : decode cX6_takeBits 21 = .ok (.lstore_n 2, 1) := by decide +kernel
theorem dX6_takeBits_22 : decode cX6_takeBits 22 = .ok (.iload_n 1, 1) := by decide +kernel
theorem dX6_takeBits_23 : decode cX6_takeBits 23 = .ok (.istore 4, 2) := by decide +kernel
theorem dX6_takeBits_25 : decode cX6_takeBits 25 = .ok (.iload 4, 2) := by decide +kernel
theorem dX6_takeBits_27 : decode cX6_takeBits 27 = .ok (.ifCond .le 87, 3) := by decide +kernel
theorem dX6_takeBits_30 : decode cX6_takeBits 30 = .ok (.bipush 8, 2) := by decide +kernel
theorem dX6_takeBits_32 : decode cX6_takeBits 32 = .ok (.aload_n 0, 1) := by decide +kernel
theorem dX6_takeBits_33 : decode cX6_takeBits 33 = .ok (.getfield 36, 3) := by decide +kernel
theorem dX6_takeBits_36 : decode cX6_takeBits 36 = .ok (.bipush 7, 2) := by decide +kernel
theorem dX6_takeBits_38 : decode cX6_takeBits 38 = .ok (.iand, 1) := by decide +kernel
theorem dX6_takeBits_39 : decode cX6_takeBits 39 = .ok (.isub, 1) := by decide +kernel
theorem dX6_takeBits_40 : decode cX6_takeBits 40 = .ok (.istore 5, 2) := by decide +kernel
theorem dX6_takeBits_42 : decode cX6_takeBits 42 = .ok (.iload 5, 2) := by decide +kernel
theorem dX6_takeBits_44 : decode cX6_takeBits 44 = .ok (.iload 4, 2) := by decide +kernel
theorem dX6_takeBits_46 : decode cX6_takeBits 46 = .ok (.if_icmp .ge 8, 3) := by decide +kernel
theorem dX6_takeBits_49 : decode cX6_takeBits 49 = .ok (.iload 5, 2) := by decide +kernel
theorem dX6_takeBits_51 : decode cX6_takeBits 51 = .ok (.goto 5, 3) := by decide +kernel
theorem dX6_takeBits_54 : decode cX6_takeBits 54 = .ok (.iload 4, 2) := by decide +kernel
theorem dX6_takeBits_56 : decode cX6_takeBits 56 = .ok (.istore 6, 2) := by decide +kernel
theorem dX6_takeBits_58 : decode cX6_takeBits 58 = .ok (.aload_n 0, 1) := by decide +kernel
theorem dX6_takeBits_59 : decode cX6_takeBits 59 = .ok (.getfield 24, 3) := by decide +kernel
theorem dX6_takeBits_62 : decode cX6_takeBits 62 = .ok (.aload_n 0, 1) := by decide +kernel
theorem dX6_takeBits_63 : decode cX6_takeBits 63 = .ok (.getfield 36, 3) := by decide +kernel
theorem dX6_takeBits_66 : decode cX6_takeBits 66 = .ok (.iconst 3, 1) := by decide +kernel
theorem dX6_takeBits_67 : decode cX6_takeBits 67 = .ok (.ishr, 1) := by decide +kernel
theorem dX6_takeBits_68 : decode cX6_takeBits 68 = .ok (.iaload, 1) := by decide +kernel
theorem dX6_takeBits_69 : decode cX6_takeBits 69 = .ok (.iload 5, 2) := by decide +kernel
theorem dX6_takeBits_71 : decode cX6_takeBits 71 = .ok (.iload 6, 2) := by decide +kernel
theorem dX6_takeBits_73 : decode cX6_takeBits 73 = .ok (.isub, 1) := by decide +kernel
theorem dX6_takeBits_74 : decode cX6_takeBits 74 = .ok (.ishr, 1) := by decide +kernel
theorem dX6_takeBits_75 : decode cX6_takeBits 75 = .ok (.iconst 1, 1) := by decide +kernel
theorem dX6_takeBits_76 : decode cX6_takeBits 76 = .ok (.iload 6, 2) := by decide +kernel
theorem dX6_takeBits_78 : decode cX6_takeBits 78 = .ok (.ishl, 1) := by decide +kernel
theorem dX6_takeBits_79 : decode cX6_takeBits 79 = .ok (.iconst 1, 1) := by decide +kernel
theorem dX6_takeBits_80 : decode cX6_takeBits 80 = .ok (.isub, 1) := by decide +kernel
theorem dX6_takeBits_81 : decode cX6_takeBits 81 = .ok (.iand, 1) := by decide +kernel
theorem dX6_takeBits_82 : decode cX6_takeBits 82 = .ok (.istore 7, 2) := by decide +kernel
theorem dX6_takeBits_84 : decode cX6_takeBits 84 = .ok (.lload_n 2, 1) := by decide +kernel
theorem dX6_takeBits_85 : decode cX6_takeBits 85 = .ok (.iload 6, 2) := by decide +kernel
theorem dX6_takeBits_87 : decode cX6_takeBits 87 = .ok (.lshl, 1) := by decide +kernel
theorem dX6_takeBits_88 : decode cX6_takeBits 88 = .ok (.iload 7, 2) := by decide +kernel
theorem dX6_takeBits_90 : decode cX6_takeBits 90 = .ok (.i2l, 1) := by decide +kernel
theorem dX6_takeBits_91 : decode cX6_takeBits 91 = .ok (.lor, 1) := by decide +kernel
theorem dX6_takeBits_92 : decode cX6_takeBits 92 = .ok (.lstore_n 2, 1) := by decide +kernel
theorem dX6_takeBits_93 : decode cX6_takeBits 93 = .ok (.aload_n 0, 1) := by decide +kernel
theorem dX6_takeBits_94 : decode cX6_takeBits 94 = .ok (.dup, 1) := by decide +kernel
theorem dX6_takeBits_95 : decode cX6_takeBits 95 = .ok (.getfield 36, 3) := by decide +kernel
theorem dX6_takeBits_98 : decode cX6_takeBits 98 = .ok (.iload 6, 2) := by decide +kernel
theorem dX6_takeBits_100 : decode cX6_takeBits 100 = .ok (.iadd, 1) := by decide +kernel
theorem dX6_takeBits_101 : decode cX6_takeBits 101 = .ok (.putfield 36, 3) := by decide +kernel
theorem dX6_takeBits_104 : decode cX6_takeBits 104 = .ok (.iload 4, 2) := by decide +kernel
theorem dX6_takeBits_106 : decode cX6_takeBits 106 = .ok (.iload 6, 2) := by decide +kernel
theorem dX6_takeBits_108 : decode cX6_takeBits 108 = .ok (.isub, 1) := by decide +kernel
theorem dX6_takeBits_109 : decode cX6_takeBits 109 = .ok (.istore 4, 2) := by decide +kernel
theorem dX6_takeBits_111 : decode cX6_takeBits 111 = .ok (.goto (-86), 3) := by decide +kernel
theorem dX6_takeBits_114 : decode cX6_takeBits 114 = .ok (.lload_n 2, 1) := by decide +kernel
theorem dX6_takeBits_115 : decode cX6_takeBits 115 = .ok (.lreturn, 1) := by decide +kernel
theorem dX6_countWay_0 : decode cX6_countWay 0 = .ok (.iconst 0, 1) := by decide +kernel
theorem dX6_countWay_1 : decode cX6_countWay 1 = .ok (.istore_n 3, 1) := by decide +kernel
theorem dX6_countWay_2 : decode cX6_countWay 2 = .ok (.aload_n 0, 1) := by decide +kernel
theorem dX6_countWay_3 : decode cX6_countWay 3 = .ok (.aload_n 1, 1) := by decide +kernel
theorem dX6_countWay_4 : decode cX6_countWay 4 = .ok (.invokevirtual 63, 3) := by decide +kernel
theorem dX6_countWay_7 : decode cX6_countWay 7 = .ok (.iconst 1, 1) := by decide +kernel
theorem dX6_countWay_8 : decode cX6_countWay 8 = .ok (.istore 4, 2) := by decide +kernel
theorem dX6_countWay_10 : decode cX6_countWay 10 = .ok (.iload 4, 2) := by decide +kernel
theorem dX6_countWay_12 : decode cX6_countWay 12 = .ok (.aload_n 1, 1) := by decide +kernel
theorem dX6_countWay_13 : decode cX6_countWay 13 = .ok (.getfield 144, 3) := by decide +kernel
theorem dX6_countWay_16 : decode cX6_countWay 16 = .ok (.if_icmp .ge 35, 3) := by decide +kernel
theorem dX6_countWay_19 : decode cX6_countWay 19 = .ok (.aload_n 0, 1) := by decide +kernel
theorem dX6_countWay_20 : decode cX6_countWay 20 = .ok (.invokevirtual 71, 3) := by decide +kernel
theorem dX6_countWay_23 : decode cX6_countWay 23 = .ok (.ifCond .ne 28, 3) := by decide +kernel
theorem dX6_countWay_26 : decode cX6_countWay 26 = .ok (.iload_n 2, 1) := by decide +kernel
theorem dX6_countWay_27 : decode cX6_countWay 27 = .ok (.aload_n 0, 1) := by decide +kernel
theorem dX6_countWay_28 : decode cX6_countWay 28 = .ok (.getfield 88, 3) := by decide +kernel
theorem dX6_countWay_31 : decode cX6_countWay 31 = .ok (.if_icmp .eq 11, 3) := by decide +kernel
theorem dX6_countWay_34 : decode cX6_countWay 34 = .ok (.iload_n 2, 1) := by decide +kernel
theorem dX6_countWay_35 : decode cX6_countWay 35 = .ok (.aload_n 0, 1) := by decide +kernel
theorem dX6_countWay_36 : decode cX6_countWay 36 = .ok (.getfield 126, 3) := by decide +kernel
theorem dX6_countWay_39 : decode cX6_countWay 39 = .ok (.if_icmp .ne 6, 3) := by decide +kernel
theorem dX6_countWay_42 : decode cX6_countWay 42 = .ok (.iinc 3 1, 3) := by decide +kernel
theorem dX6_countWay_45 : decode cX6_countWay 45 = .ok (.iinc 4 1, 3) := by decide +kernel
theorem dX6_countWay_48 : decode cX6_countWay 48 = .ok (.goto (-38), 3) := by decide +kernel
theorem dX6_countWay_51 : decode cX6_countWay 51 = .ok (.iload_n 3, 1) := by decide +kernel
theorem dX6_countWay_52 : decode cX6_countWay 52 = .ok (.ireturn, 1) := by decide +kernel
theorem dX6_findDearest_0 : decode cX6_findDearest 0 = .ok (.aload_n 0, 1) := by decide +kernel
theorem dX6_findDearest_1 : decode cX6_findDearest 1 = .ok (.iload_n 2, 1) := by decide +kernel
theorem dX6_findDearest_2 : decode cX6_findDearest 2 = .ok (.putfield 145, 3) := by decide +kernel
theorem dX6_findDearest_5 : decode cX6_findDearest 5 = .ok (.aload_n 0, 1) := by decide +kernel
theorem dX6_findDearest_6 : decode cX6_findDearest 6 = .ok (.aload_n 1, 1) := by decide +kernel
theorem dX6_findDearest_7 : decode cX6_findDearest 7 = .ok (.invokevirtual 63, 3) := by decide +kernel
theorem dX6_findDearest_10 : decode cX6_findDearest 10 = .ok (.iconst 1, 1) := by decide +kernel
theorem dX6_findDearest_11 : decode cX6_findDearest 11 = .ok (.istore_n 3, 1) := by decide +kernel
theorem dX6_findDearest_12 : decode cX6_findDearest 12 = .ok (.iload_n 3, 1) := by decide +kernel
theorem dX6_findDearest_13 : decode cX6_findDearest 13 = .ok (.aload_n 1, 1) := by decide +kernel
theorem dX6_findDearest_14 : decode cX6_findDearest 14 = .ok (.getfield 144, 3) := by decide +kernel
theorem dX6_findDearest_17 : decode cX6_findDearest 17 = .ok (.if_icmp .ge 52, 3) := by decide +kernel
theorem dX6_findDearest_20 : decode cX6_findDearest 20 = .ok (.aload_n 0, 1) := by decide +kernel
theorem dX6_findDearest_21 : decode cX6_findDearest 21 = .ok (.invokevirtual 71, 3) := by decide +kernel
theorem dX6_findDearest_24 : decode cX6_findDearest 24 = .ok (.ifCond .ne 45, 3) := by decide +kernel
theorem dX6_findDearest_27 : decode cX6_findDearest 27 = .ok (.aload_n 0, 1) := by decide +kernel
theorem dX6_findDearest_28 : decode cX6_findDearest 28 = .ok (.getfield 12, 3) := by decide +kernel
theorem dX6_findDearest_31 : decode cX6_findDearest 31 = .ok (.getfield 148, 3) := by decide +kernel
theorem dX6_findDearest_34 : decode cX6_findDearest 34 = .ok (.aload_n 0, 1) := by decide +kernel
theorem dX6_findDearest_35 : decode cX6_findDearest 35 = .ok (.getfield 145, 3) := by decide +kernel
theorem dX6_findDearest_38 : decode cX6_findDearest 38 = .ok (.if_icmp .le 25, 3) := by decide +kernel
theorem dX6_findDearest_41 : decode cX6_findDearest 41 = .ok (.aload_n 0, 1) := by decide +kernel
theorem dX6_findDearest_42 : decode cX6_findDearest 42 = .ok (.aload_n 0, 1) := by decide +kernel
theorem dX6_findDearest_43 : decode cX6_findDearest 43 = .ok (.getfield 12, 3) := by decide +kernel
theorem dX6_findDearest_46 : decode cX6_findDearest 46 = .ok (.getfield 148, 3) := by decide +kernel
theorem dX6_findDearest_49 : decode cX6_findDearest 49 = .ok (.putfield 145, 3) := by decide +kernel
theorem dX6_findDearest_52 : decode cX6_findDearest 52 = .ok (.aload_n 0, 1) := by decide +kernel
theorem dX6_findDearest_53 : decode cX6_findDearest 53 = .ok (.aload_n 0, 1) := by decide +kernel
theorem dX6_findDearest_54 : decode cX6_findDearest 54 = .ok (.getfield 12, 3) := by decide +kernel
theorem dX6_findDearest_57 : decode cX6_findDearest 57 = .ok (.getfield 79, 3) := by decide +kernel
theorem dX6_findDearest_60 : decode cX6_findDearest 60 = .ok (.putfield 151, 3) := by decide +kernel
theorem dX6_findDearest_63 : decode cX6_findDearest 63 = .ok (.iinc 3 1, 3) := by decide +kernel
theorem dX6_findDearest_66 : decode cX6_findDearest 66 = .ok (.goto (-54), 3) := by decide +kernel
theorem dX6_findDearest_69 : decode cX6_findDearest 69 = .ok (.aload_n 0, 1) := by decide +kernel
theorem dX6_findDearest_70 : decode cX6_findDearest 70 = .ok (.getfield 145, 3) := by decide +kernel
theorem dX6_findDearest_73 : decode cX6_findDearest 73 = .ok (.iload_n 2, 1) := by decide +kernel
theorem dX6_findDearest_74 : decode cX6_findDearest 74 = .ok (.if_icmp .le 7, 3) := by decide +kernel
theorem dX6_findDearest_77 : decode cX6_findDearest 77 = .ok (.iconst 1, 1) := by decide +kernel
theorem dX6_findDearest_78 : decode cX6_findDearest 78 = .ok (.goto 4, 3) := by decide +kernel
theorem dX6_findDearest_81 : decode cX6_findDearest 81 = .ok (.iconst 0, 1) := by decide +kernel
theorem dX6_findDearest_82 : decode cX6_findDearest 82 = .ok (.ireturn, 1) := by decide +kernel
theorem dX7_init_0 : decode cX7_init 0 = .ok (.aload_n 0, 1) := by decide +kernel
theorem dX7_init_1 : decode cX7_init 1 = .ok (.invokespecial 3, 3) := by decide +kernel
theorem dX7_init_4 : decode cX7_init 4 = .ok (.aload_n 0, 1) := by decide +kernel
theorem dX7_init_5 : decode cX7_init 5 = .ok (.bipush 16, 2) := by decide +kernel
theorem dX7_init_7 : decode cX7_init 7 = .ok (.anewarray 9, 3) := by decide +kernel
theorem dX7_init_10 : decode cX7_init 10 = .ok (.putfield 11, 3) := by decide +kernel
theorem dX7_init_13 : decode cX7_init 13 = .ok (.aload_n 0, 1) := by decide +kernel
theorem dX7_init_14 : decode cX7_init 14 = .ok (.new 17, 3) := by decide +kernel
theorem dX7_init_17 : decode cX7_init 17 = .ok (.dup, 1) := by decide +kernel
theorem dX7_init_18 : decode cX7_init 18 = .ok (.bipush 20, 2) := by decide +kernel
theorem dX7_init_20 : decode cX7_init 20 = .ok (.invokespecial 19, 3) := by decide +kernel
theorem dX7_init_23 : decode cX7_init 23 = .ok (.putfield 22, 3) := by decide +kernel
theorem dX7_init_26 : decode cX7_init 26 = .ok (.aload_n 0, 1) := by decide +kernel
theorem dX7_init_27 : decode cX7_init 27 = .ok (.new 26, 3) := by decide +kernel
theorem dX7_init_30 : decode cX7_init 30 = .ok (.dup, 1) := by decide +kernel
theorem dX7_init_31 : decode cX7_init 31 = .ok (.invokespecial 28, 3) := by decide +kernel
theorem dX7_init_34 : decode cX7_init 34 = .ok (.putfield 29, 3) := by decide +kernel
theorem dX7_init_37 : decode cX7_init 37 = .ok (.aload_n 0, 1) := by decide +kernel
theorem dX7_init_38 : decode cX7_init 38 = .ok (.iconst (-1), 1) := by decide +kernel
theorem dX7_init_39 : decode cX7_init 39 = .ok (.putfield 33, 3) := by decide +kernel
theorem dX7_init_42 : decode cX7_init 42 = .ok (.iconst 0, 1) := by decide +kernel
theorem dX7_init_43 : decode cX7_init 43 = .ok (.istore_n 1, 1) := by decide +kernel
theorem dX7_init_44 : decode cX7_init 44 = .ok (.iload_n 1, 1) := by decide +kernel
theorem dX7_init_45 : decode cX7_init 45 = .ok (.bipush 16, 2) := by decide +kernel
theorem dX7_init_47 : decode cX7_init 47 = .ok (.if_icmp .ge 22, 3) := by decide +kernel
theorem dX7_init_50 : decode cX7_init 50 = .ok (.aload_n 0, 1) := by decide +kernel
theorem dX7_init_51 : decode cX7_init 51 = .ok (.getfield 11, 3) := by decide +kernel
theorem dX7_init_54 : decode cX7_init 54 = .ok (.iload_n 1, 1) := by decide +kernel
theorem dX7_init_55 : decode cX7_init 55 = .ok (.new 9, 3) := by decide +kernel
theorem dX7_init_58 : decode cX7_init 58 = .ok (.dup, 1) := by decide +kernel
theorem dX7_init_59 : decode cX7_init 59 = .ok (.invokespecial 37, 3) := by decide +kernel
theorem dX7_init_62 : decode cX7_init 62 = .ok (.aastore, 1) := by decide +kernel
theorem dX7_init_63 : decode cX7_init 63 = .ok (.iinc 1 1, 3) := by decide +kernel
theorem dX7_init_66 : decode cX7_init 66 = .ok (.goto (-22), 3) := by decide +kernel
theorem dX7_init_69 : decode cX7_init 69 = .ok (.return_, 1) := by decide +kernel
theorem dX7_start_0 : decode cX7_start 0 = .ok (.aload_n 0, 1) := by decide +kernel
theorem dX7_start_1 : decode cX7_start 1 = .ok (.iconst 1, 1) := by decide +kernel
theorem dX7_start_2 : decode cX7_start 2 = .ok (.putfield 38, 3) := by decide +kernel
theorem dX7_start_5 : decode cX7_start 5 = .ok (.aload_n 0, 1) := by decide +kernel
theorem dX7_start_6 : decode cX7_start 6 = .ok (.iload_n 1, 1) := by decide +kernel
theorem dX7_start_7 : decode cX7_start 7 = .ok (.putfield 42, 3) := by decide +kernel
theorem dX7_start_10 : decode cX7_start 10 = .ok (.aload_n 0, 1) := by decide +kernel
theorem dX7_start_11 : decode cX7_start 11 = .ok (.iconst 0, 1) := by decide +kernel
theorem dX7_start_12 : decode cX7_start 12 = .ok (.putfield 45, 3) := by decide +kernel
theorem dX7_start_15 : decode cX7_start 15 = .ok (.aload_n 0, 1) := by decide +kernel
theorem dX7_start_16 : decode cX7_start 16 = .ok (.iconst (-1), 1) := by decide +kernel
theorem dX7_start_17 : decode cX7_start 17 = .ok (.putfield 33, 3) := by decide +kernel
theorem dX7_start_20 : decode cX7_start 20 = .ok (.aload_n 0, 1) := by decide +kernel
theorem dX7_start_21 : decode cX7_start 21 = .ok (.getfield 22, 3) := by decide +kernel
theorem dX7_start_24 : decode cX7_start 24 = .ok (.iconst 0, 1) := by decide +kernel
theorem dX7_start_25 : decode cX7_start 25 = .ok (.putfield 48, 3) := by decide +kernel
theorem dX7_start_28 : decode cX7_start 28 = .ok (.return_, 1) := by decide +kernel
theorem dX7_become_0 : decode cX7_become 0 = .ok (.aload_n 0, 1) := by decide +kernel
theorem dX7_become_1 : decode cX7_become 1 = .ok (.aload_n 1, 1) := by decide +kernel
theorem dX7_become_2 : decode cX7_become 2 = .ok (.getfield 38, 3) := by decide +kernel
theorem dX7_become_5 : decode cX7_become 5 = .ok (.putfield 38, 3) := by decide +kernel
theorem dX7_become_8 : decode cX7_become 8 = .ok (.aload_n 0, 1) := by decide +kernel
theorem dX7_become_9 : decode cX7_become 9 = .ok (.aload_n 1, 1) := by decide +kernel
theorem dX7_become_10 : decode cX7_become 10 = .ok (.getfield 42, 3) := by decide +kernel
theorem dX7_become_13 : decode cX7_become 13 = .ok (.putfield 42, 3) := by decide +kernel
theorem dX7_become_16 : decode cX7_become 16 = .ok (.aload_n 0, 1) := by decide +kernel
theorem dX7_become_17 : decode cX7_become 17 = .ok (.aload_n 1, 1) := by decide +kernel
theorem dX7_become_18 : decode cX7_become 18 = .ok (.getfield 45, 3) := by decide +kernel
theorem dX7_become_21 : decode cX7_become 21 = .ok (.putfield 45, 3) := by decide +kernel
theorem dX7_become_24 : decode cX7_become 24 = .ok (.aload_n 0, 1) := by decide +kernel
theorem dX7_become_25 : decode cX7_become 25 = .ok (.aload_n 1, 1) := by decide +kernel
theorem dX7_become_26 : decode cX7_become 26 = .ok (.getfield 33, 3) := by decide +kernel
theorem dX7_become_29 : decode cX7_become 29 = .ok (.putfield 33, 3) := by decide +kernel
theorem dX7_become_32 : decode cX7_become 32 = .ok (.aload_n 0, 1) := by decide +kernel
theorem dX7_become_33 : decode cX7_become 33 = .ok (.getfield 22, 3) := by decide +kernel
theorem dX7_become_36 : decode cX7_become 36 = .ok (.aload_n 1, 1) := by decide +kernel
theorem dX7_become_37 : decode cX7_become 37 = .ok (.getfield 22, 3) := by decide +kernel
theorem dX7_become_40 : decode cX7_become 40 = .ok (.invokevirtual 49, 3) := by decide +kernel
theorem dX7_become_43 : decode cX7_become 43 = .ok (.aload_n 0, 1) := by decide +kernel
theorem dX7_become_44 : decode cX7_become 44 = .ok (.getfield 29, 3) := by decide +kernel
theorem dX7_become_47 : decode cX7_become 47 = .ok (.aload_n 1, 1) := by decide +kernel
theorem dX7_become_48 : decode cX7_become 48 = .ok (.getfield 29, 3) := by decide +kernel
theorem dX7_become_51 : decode cX7_become 51 = .ok (.invokevirtual 53, 3) := by decide +kernel
theorem dX7_become_54 : decode cX7_become 54 = .ok (.iconst 0, 1) := by decide +kernel
theorem dX7_become_55 : decode cX7_become 55 = .ok (.istore_n 2, 1) := by decide +kernel
theorem dX7_become_56 : decode cX7_become 56 = .ok (.iload_n 2, 1) := by decide +kernel
theorem dX7_become_57 : decode cX7_become 57 = .ok (.aload_n 0, 1) := by decide +kernel
theorem dX7_become_58 : decode cX7_become 58 = .ok (.getfield 45, 3) := by decide +kernel
theorem dX7_become_61 : decode cX7_become 61 = .ok (.if_icmp .ge 24, 3) := by decide +kernel
theorem dX7_become_64 : decode cX7_become 64 = .ok (.aload_n 0, 1) := by decide +kernel
theorem dX7_become_65 : decode cX7_become 65 = .ok (.getfield 11, 3) := by decide +kernel
theorem dX7_become_68 : decode cX7_become 68 = .ok (.iload_n 2, 1) := by decide +kernel
theorem dX7_become_69 : decode cX7_become 69 = .ok (.aaload, 1) := by decide +kernel
theorem dX7_become_70 : decode cX7_become 70 = .ok (.aload_n 1, 1) := by decide +kernel
theorem dX7_become_71 : decode cX7_become 71 = .ok (.getfield 11, 3) := by decide +kernel
theorem dX7_become_74 : decode cX7_become 74 = .ok (.iload_n 2, 1) := by decide +kernel
theorem dX7_become_75 : decode cX7_become 75 = .ok (.aaload, 1) := by decide +kernel
theorem dX7_become_76 : decode cX7_become 76 = .ok (.invokevirtual 56, 3) := by decide +kernel
theorem dX7_become_79 : decode cX7_become 79 = .ok (.iinc 2 1, 3) := by decide +kernel
theorem dX7_become_82 : decode cX7_become 82 = .ok (.goto (-26), 3) := by decide +kernel
theorem dX7_become_85 : decode cX7_become 85 = .ok (.return_, 1) := by decide +kernel
theorem dX7_openBlock_0 : decode cX7_openBlock 0 = .ok (.aload_n 0, 1) := by decide +kernel
theorem dX7_openBlock_1 : decode cX7_openBlock 1 = .ok (.getfield 45, 3) := by decide +kernel
theorem dX7_openBlock_4 : decode cX7_openBlock 4 = .ok (.ifCond .le 34, 3) := by decide +kernel
theorem dX7_openBlock_7 : decode cX7_openBlock 7 = .ok (.aload_n 0, 1) := by decide +kernel
theorem dX7_openBlock_8 : decode cX7_openBlock 8 = .ok (.getfield 11, 3) := by decide +kernel
theorem dX7_openBlock_11 : decode cX7_openBlock 11 = .ok (.aload_n 0, 1) := by decide +kernel
theorem dX7_openBlock_12 : decode cX7_openBlock 12 = .ok (.getfield 45, 3) := by decide +kernel
theorem dX7_openBlock_15 : decode cX7_openBlock 15 = .ok (.iconst 1, 1) := by decide +kernel
theorem dX7_openBlock_16 : decode cX7_openBlock 16 = .ok (.isub, 1) := by decide +kernel
theorem dX7_openBlock_17 : decode cX7_openBlock 17 = .ok (.aaload, 1) := by decide +kernel
theorem dX7_openBlock_18 : decode cX7_openBlock 18 = .ok (.getfield 59, 3) := by decide +kernel
theorem dX7_openBlock_21 : decode cX7_openBlock 21 = .ok (.ifCond .ne 17, 3) := by decide +kernel
theorem dX7_openBlock_24 : decode cX7_openBlock 24 = .ok (.aload_n 0, 1) := by decide +kernel
theorem dX7_openBlock_25 : decode cX7_openBlock 25 = .ok (.getfield 11, 3) := by decide +kernel
theorem dX7_openBlock_28 : decode cX7_openBlock 28 = .ok (.aload_n 0, 1) := by decide +kernel
theorem dX7_openBlock_29 : decode cX7_openBlock 29 = .ok (.getfield 45, 3) := by decide +kernel
theorem dX7_openBlock_32 : decode cX7_openBlock 32 = .ok (.iconst 1, 1) := by decide +kernel
theorem dX7_openBlock_33 : decode cX7_openBlock 33 = .ok (.isub, 1) := by decide +kernel
theorem dX7_openBlock_34 : decode cX7_openBlock 34 = .ok (.aaload, 1) := by decide +kernel
theorem dX7_openBlock_35 : decode cX7_openBlock 35 = .ok (.goto 4, 3) := by decide +kernel
theorem dX7_openBlock_38 : decode cX7_openBlock 38 = .ok (.aconst_null, 1) := by decide +kernel
theorem dX7_openBlock_39 : decode cX7_openBlock 39 = .ok (.areturn, 1) := by decide +kernel
theorem dX7_fits_0 : decode cX7_fits 0 = .ok (.aload_n 0, 1) := by decide +kernel
theorem dX7_fits_1 : decode cX7_fits 1 = .ok (.invokevirtual 62, 3) := by decide +kernel
theorem dX7_fits_4 : decode cX7_fits 4 = .ok (.astore 4, 2) := by decide +kernel
theorem dX7_fits_6 : decode cX7_fits 6 = .ok (.aload 4, 2) := by decide +kernel
theorem dX7_fits_8 : decode cX7_fits 8 = .ok (.ifnonnull 5, 3) := by decide +kernel
theorem dX7_fits_11 : decode cX7_fits 11 = .ok (.iconst 0, 1) := by decide +kernel
theorem dX7_fits_12 : decode cX7_fits 12 = .ok (.ireturn, 1) := by decide +kernel
theorem dX7_fits_13 : decode cX7_fits 13 = .ok (.aload_n 0, 1) := by decide +kernel
theorem dX7_fits_14 : decode cX7_fits 14 = .ok (.getfield 29, 3) := by decide +kernel
theorem dX7_fits_17 : decode cX7_fits 17 = .ok (.iload_n 1, 1) := by decide +kernel
theorem dX7_fits_18 : decode cX7_fits 18 = .ok (.lload_n 2, 1) := by decide +kernel
theorem dX7_fits_19 : decode cX7_fits 19 = .ok (.invokevirtual 66, 3) := by decide +kernel
theorem dX7_fits_22 : decode cX7_fits 22 = .ok (.aload 4, 2) := by decide +kernel
theorem dX7_fits_24 : decode cX7_fits 24 = .ok (.getfield 70, 3) := by decide +kernel
theorem dX7_fits_27 : decode cX7_fits 27 = .ok (.aload_n 0, 1) := by decide +kernel
theorem dX7_fits_28 : decode cX7_fits 28 = .ok (.getfield 29, 3) := by decide +kernel
theorem dX7_fits_31 : decode cX7_fits 31 = .ok (.getfield 73, 3) := by decide +kernel
theorem dX7_fits_34 : decode cX7_fits 34 = .ok (.iadd, 1) := by decide +kernel
theorem dX7_fits_35 : decode cX7_fits 35 = .ok (.invokestatic 76, 3) := by decide +kernel
theorem dX7_fits_38 : decode cX7_fits 38 = .ok (.aload_n 0, 1) := by decide +kernel
theorem dX7_fits_39 : decode cX7_fits 39 = .ok (.getfield 42, 3) := by decide +kernel
theorem dX7_fits_42 : decode cX7_fits 42 = .ok (.if_icmp .gt 7, 3) := by decide +kernel
theorem dX7_fits_45 : decode cX7_fits 45 = .ok (.iconst 1, 1) := by decide +kernel
theorem dX7_fits_46 : decode cX7_fits 46 = .ok (.goto 4, 3) := by decide +kernel
theorem dX7_fits_49 : decode cX7_fits 49 = .ok (.iconst 0, 1) := by decide +kernel
theorem dX7_fits_50 : decode cX7_fits 50 = .ok (.ireturn, 1) := by decide +kernel
theorem dX7_put_0 : decode cX7_put 0 = .ok (.aload_n 0, 1) := by decide +kernel
theorem dX7_put_1 : decode cX7_put 1 = .ok (.iload_n 1, 1) := by decide +kernel
theorem dX7_put_2 : decode cX7_put 2 = .ok (.lload_n 2, 1) := by decide +kernel
theorem dX7_put_3 : decode cX7_put 3 = .ok (.invokevirtual 80, 3) := by decide +kernel
theorem dX7_put_6 : decode cX7_put 6 = .ok (.ifCond .eq 31, 3) := by decide +kernel
theorem dX7_put_9 : decode cX7_put 9 = .ok (.aload_n 0, 1) := by decide +kernel
theorem dX7_put_10 : decode cX7_put 10 = .ok (.getfield 11, 3) := by decide +kernel
theorem dX7_put_13 : decode cX7_put 13 = .ok (.aload_n 0, 1) := by decide +kernel
theorem dX7_put_14 : decode cX7_put 14 = .ok (.getfield 45, 3) := by decide +kernel
theorem dX7_put_17 : decode cX7_put 17 = .ok (.iconst 1, 1) := by decide +kernel
theorem dX7_put_18 : decode cX7_put 18 = .ok (.isub, 1) := by decide +kernel
theorem dX7_put_19 : decode cX7_put 19 = .ok (.aaload, 1) := by decide +kernel
theorem dX7_put_20 : decode cX7_put 20 = .ok (.aload_n 0, 1) := by decide +kernel
theorem dX7_put_21 : decode cX7_put 21 = .ok (.getfield 29, 3) := by decide +kernel
theorem dX7_put_24 : decode cX7_put 24 = .ok (.invokevirtual 84, 3) := by decide +kernel
theorem dX7_put_27 : decode cX7_put 27 = .ok (.aload_n 0, 1) := by decide +kernel
theorem dX7_put_28 : decode cX7_put 28 = .ok (.getfield 29, 3) := by decide +kernel
theorem dX7_put_31 : decode cX7_put 31 = .ok (.invokevirtual 87, 3) := by decide +kernel
theorem dX7_put_34 : decode cX7_put 34 = .ok (.goto 52, 3) := by decide +kernel
theorem dX7_put_37 : decode cX7_put 37 = .ok (.aload_n 0, 1) := by decide +kernel
theorem dX7_put_38 : decode cX7_put 38 = .ok (.getfield 45, 3) := by decide +kernel
theorem dX7_put_41 : decode cX7_put 41 = .ok (.bipush 16, 2) := by decide +kernel
theorem dX7_put_43 : decode cX7_put 43 = .ok (.if_icmp .lt 6, 3) := by decide +kernel
theorem dX7_put_46 : decode cX7_put 46 = .ok (.bipush (-4), 2) := by decide +kernel
theorem dX7_put_48 : decode cX7_put 48 = .ok (.ireturn, 1) := by decide +kernel
theorem dX7_put_49 : decode cX7_put 49 = .ok (.aload_n 0, 1) := by decide +kernel
theorem dX7_put_50 : decode cX7_put 50 = .ok (.invokevirtual 90, 3) := by decide +kernel
theorem dX7_put_53 : decode cX7_put 53 = .ok (.aload_n 0, 1) := by decide +kernel
theorem dX7_put_54 : decode cX7_put 54 = .ok (.getfield 11, 3) := by decide +kernel
theorem dX7_put_57 : decode cX7_put 57 = .ok (.aload_n 0, 1) := by decide +kernel
theorem dX7_put_58 : decode cX7_put 58 = .ok (.getfield 45, 3) := by decide +kernel
theorem dX7_put_61 : decode cX7_put 61 = .ok (.aaload, 1) := by decide +kernel
theorem dX7_put_62 : decode cX7_put 62 = .ok (.iload_n 1, 1) := by decide +kernel
theorem dX7_put_63 : decode cX7_put 63 = .ok (.lload_n 2, 1) := by decide +kernel
theorem dX7_put_64 : decode cX7_put 64 = .ok (.invokevirtual 93, 3) := by decide +kernel
theorem dX7_put_67 : decode cX7_put 67 = .ok (.aload_n 0, 1) := by decide +kernel
theorem dX7_put_68 : decode cX7_put 68 = .ok (.getfield 29, 3) := by decide +kernel
theorem dX7_put_71 : decode cX7_put 71 = .ok (.iload_n 1, 1) := by decide +kernel
theorem dX7_put_72 : decode cX7_put 72 = .ok (.lload_n 2, 1) := by decide +kernel
theorem dX7_put_73 : decode cX7_put 73 = .ok (.invokevirtual 96, 3) := by decide +kernel
theorem dX7_put_76 : decode cX7_put 76 = .ok (.aload_n 0, 1) := by decide +kernel
theorem dX7_put_77 : decode cX7_put 77 = .ok (.dup, 1) := by decide +kernel
theorem dX7_put_78 : decode cX7_put 78 = .ok (.getfield 45, 3) := by decide +kernel
theorem dX7_put_81 : decode cX7_put 81 = .ok (.iconst 1, 1) := by decide +kernel
theorem dX7_put_82 : decode cX7_put 82 = .ok (.iadd, 1) := by decide +kernel
theorem dX7_put_83 : decode cX7_put 83 = .ok (.putfield 45, 3) := by decide +kernel
theorem dX7_put_86 : decode cX7_put 86 = .ok (.aload_n 0, 1) := by decide +kernel
theorem dX7_put_87 : decode cX7_put 87 = .ok (.iload_n 1, 1) := by decide +kernel
theorem dX7_put_88 : decode cX7_put 88 = .ok (.putfield 33, 3) := by decide +kernel
theorem dX7_put_91 : decode cX7_put 91 = .ok (.aload_n 0, 1) := by decide +kernel
theorem dX7_put_92 : decode cX7_put 92 = .ok (.getfield 45, 3) := by decide +kernel
theorem dX7_put_95 : decode cX7_put 95 = .ok (.iconst 1, 1) := by decide +kernel
theorem dX7_put_96 : decode cX7_put 96 = .ok (.isub, 1) := by decide +kernel
theorem dX7_put_97 : decode cX7_put 97 = .ok (.ireturn, 1) := by decide +kernel
theorem dX7_take_0 : decode cX7_take 0 = .ok (.aload_n 0, 1) := by decide +kernel
theorem dX7_take_1 : decode cX7_take 1 = .ok (.getfield 45, 3) := by decide +kernel
theorem dX7_take_4 : decode cX7_take 4 = .ok (.bipush 16, 2) := by decide +kernel
theorem dX7_take_6 : decode cX7_take 6 = .ok (.if_icmp .lt 6, 3) := by decide +kernel
theorem dX7_take_9 : decode cX7_take 9 = .ok (.bipush (-4), 2) := by decide +kernel
theorem dX7_take_11 : decode cX7_take 11 = .ok (.ireturn, 1) := by decide +kernel
theorem dX7_take_12 : decode cX7_take 12 = .ok (.aload_n 0, 1) := by decide +kernel
theorem dX7_take_13 : decode cX7_take 13 = .ok (.invokevirtual 90, 3) := by decide +kernel
theorem dX7_take_16 : decode cX7_take 16 = .ok (.aload_n 0, 1) := by decide +kernel
theorem dX7_take_17 : decode cX7_take 17 = .ok (.getfield 11, 3) := by decide +kernel
theorem dX7_take_20 : decode cX7_take 20 = .ok (.aload_n 0, 1) := by decide +kernel
theorem dX7_take_21 : decode cX7_take 21 = .ok (.getfield 45, 3) := by decide +kernel
theorem dX7_take_24 : decode cX7_take 24 = .ok (.aaload, 1) := by decide +kernel
theorem dX7_take_25 : decode cX7_take 25 = .ok (.aload_n 1, 1) := by decide +kernel
theorem dX7_take_26 : decode cX7_take 26 = .ok (.invokevirtual 56, 3) := by decide +kernel
theorem dX7_take_29 : decode cX7_take 29 = .ok (.aload_n 0, 1) := by decide +kernel
theorem dX7_take_30 : decode cX7_take 30 = .ok (.dup, 1) := by decide +kernel
theorem dX7_take_31 : decode cX7_take 31 = .ok (.getfield 45, 3) := by decide +kernel
theorem dX7_take_34 : decode cX7_take 34 = .ok (.iconst 1, 1) := by decide +kernel
theorem dX7_take_35 : decode cX7_take 35 = .ok (.iadd, 1) := by decide +kernel
theorem dX7_take_36 : decode cX7_take 36 = .ok (.putfield 45, 3) := by decide +kernel
theorem dX7_take_39 : decode cX7_take 39 = .ok (.aload_n 0, 1) := by decide +kernel
theorem dX7_take_40 : decode cX7_take 40 = .ok (.aload_n 1, 1) := by decide +kernel
theorem dX7_take_41 : decode cX7_take 41 = .ok (.getfield 97, 3) := by decide +kernel
theorem dX7_take_44 : decode cX7_take 44 = .ok (.putfield 33, 3) := by decide +kernel
theorem dX7_take_47 : decode cX7_take 47 = .ok (.aload_n 0, 1) := by decide +kernel
theorem dX7_take_48 : decode cX7_take 48 = .ok (.getfield 45, 3) := by decide +kernel
theorem dX7_take_51 : decode cX7_take 51 = .ok (.iconst 1, 1) := by decide +kernel
theorem dX7_take_52 : decode cX7_take 52 = .ok (.isub, 1) := by decide +kernel
theorem dX7_take_53 : decode cX7_take 53 = .ok (.ireturn, 1) := by decide +kernel
theorem dX7_closeOpen_0 : decode cX7_closeOpen 0 = .ok (.aload_n 0, 1) := by decide +kernel
theorem dX7_closeOpen_1 : decode cX7_closeOpen 1 = .ok (.invokevirtual 62, 3) := by decide +kernel
theorem dX7_closeOpen_4 : decode cX7_closeOpen 4 = .ok (.astore_n 1, 1) := by decide +kernel
theorem dX7_closeOpen_5 : decode cX7_closeOpen 5 = .ok (.aload_n 1, 1) := by decide +kernel
theorem dX7_closeOpen_6 : decode cX7_closeOpen 6 = .ok (.ifnull 7, 3) := by decide +kernel
theorem dX7_closeOpen_9 : decode cX7_closeOpen 9 = .ok (.aload_n 1, 1) := by decide +kernel
theorem dX7_closeOpen_10 : decode cX7_closeOpen 10 = .ok (.invokevirtual 98, 3) := by decide +kernel
theorem dX7_closeOpen_13 : decode cX7_closeOpen 13 = .ok (.return_, 1) := by decide +kernel
theorem dX7_remove_0 : decode cX7_remove 0 = .ok (.aload_n 0, 1) := by decide +kernel
theorem dX7_remove_1 : decode cX7_remove 1 = .ok (.getfield 11, 3) := by decide +kernel
theorem dX7_remove_4 : decode cX7_remove 4 = .ok (.iload_n 1, 1) := by decide +kernel
theorem dX7_remove_5 : decode cX7_remove 5 = .ok (.aaload, 1) := by decide +kernel
theorem dX7_remove_6 : decode cX7_remove 6 = .ok (.astore_n 2, 1) := by decide +kernel
theorem dX7_remove_7 : decode cX7_remove 7 = .ok (.iload_n 1, 1) := by decide +kernel
theorem dX7_remove_8 : decode cX7_remove 8 = .ok (.istore_n 3, 1) := by decide +kernel
theorem dX7_remove_9 : decode cX7_remove 9 = .ok (.iload_n 3, 1) := by decide +kernel
theorem dX7_remove_10 : decode cX7_remove 10 = .ok (.aload_n 0, 1) := by decide +kernel
theorem dX7_remove_11 : decode cX7_remove 11 = .ok (.getfield 45, 3) := by decide +kernel
theorem dX7_remove_14 : decode cX7_remove 14 = .ok (.iconst 1, 1) := by decide +kernel
theorem dX7_remove_15 : decode cX7_remove 15 = .ok (.isub, 1) := by decide +kernel
theorem dX7_remove_16 : decode cX7_remove 16 = .ok (.if_icmp .ge 23, 3) := by decide +kernel
theorem dX7_remove_19 : decode cX7_remove 19 = .ok (.aload_n 0, 1) := by decide +kernel
theorem dX7_remove_20 : decode cX7_remove 20 = .ok (.getfield 11, 3) := by decide +kernel
theorem dX7_remove_23 : decode cX7_remove 23 = .ok (.iload_n 3, 1) := by decide +kernel
theorem dX7_remove_24 : decode cX7_remove 24 = .ok (.aload_n 0, 1) := by decide +kernel
theorem dX7_remove_25 : decode cX7_remove 25 = .ok (.getfield 11, 3) := by decide +kernel
theorem dX7_remove_28 : decode cX7_remove 28 = .ok (.iload_n 3, 1) := by decide +kernel
theorem dX7_remove_29 : decode cX7_remove 29 = .ok (.iconst 1, 1) := by decide +kernel
theorem dX7_remove_30 : decode cX7_remove 30 = .ok (.iadd, 1) := by decide +kernel
theorem dX7_remove_31 : decode cX7_remove 31 = .ok (.aaload, 1) := by decide +kernel
theorem dX7_remove_32 : decode cX7_remove 32 = .ok (.aastore, 1) := by decide +kernel
theorem dX7_remove_33 : decode cX7_remove 33 = .ok (.iinc 3 1, 3) := by decide +kernel
theorem dX7_remove_36 : decode cX7_remove 36 = .ok (.goto (-27), 3) := by decide +kernel
theorem dX7_remove_39 : decode cX7_remove 39 = .ok (.aload_n 0, 1) := by decide +kernel
theorem dX7_remove_40 : decode cX7_remove 40 = .ok (.getfield 11, 3) := by decide +kernel
theorem dX7_remove_43 : decode cX7_remove 43 = .ok (.aload_n 0, 1) := by decide +kernel
theorem dX7_remove_44 : decode cX7_remove 44 = .ok (.getfield 45, 3) := by decide +kernel
theorem dX7_remove_47 : decode cX7_remove 47 = .ok (.iconst 1, 1) := by decide +kernel
theorem dX7_remove_48 : decode cX7_remove 48 = .ok (.isub, 1) := by decide +kernel
theorem dX7_remove_49 : decode cX7_remove 49 = .ok (.aload_n 2, 1) := by decide +kernel
theorem dX7_remove_50 : decode cX7_remove 50 = .ok (.aastore, 1) := by decide +kernel
theorem dX7_remove_51 : decode cX7_remove 51 = .ok (.aload_n 0, 1) := by decide +kernel
theorem dX7_remove_52 : decode cX7_remove 52 = .ok (.dup, 1) := by decide +kernel
theorem dX7_remove_53 : decode cX7_remove 53 = .ok (.getfield 45, 3) := by decide +kernel
theorem dX7_remove_56 : decode cX7_remove 56 = .ok (.iconst 1, 1) := by decide +kernel
theorem dX7_remove_57 : decode cX7_remove 57 = .ok (.isub, 1) := by decide +kernel
theorem dX7_remove_58 : decode cX7_remove 58 = .ok (.putfield 45, 3) := by decide +kernel
theorem dX7_remove_61 : decode cX7_remove 61 = .ok (.aload_n 0, 1) := by decide +kernel
theorem dX7_remove_62 : decode cX7_remove 62 = .ok (.getfield 45, 3) := by decide +kernel
theorem dX7_remove_65 : decode cX7_remove 65 = .ok (.ireturn, 1) := by decide +kernel
theorem dX7_soundPoints_0 : decode cX7_soundPoints 0 = .ok (.iconst 0, 1) := by decide +kernel
theorem dX7_soundPoints_1 : decode cX7_soundPoints 1 = .ok (.istore_n 1, 1) := by decide +kernel
theorem dX7_soundPoints_2 : decode cX7_soundPoints 2 = .ok (.iconst 0, 1) := by decide +kernel
theorem dX7_soundPoints_3 : decode cX7_soundPoints 3 = .ok (.istore_n 2, 1) := by decide +kernel
theorem dX7_soundPoints_4 : decode cX7_soundPoints 4 = .ok (.iload_n 2, 1) := by decide +kernel
theorem dX7_soundPoints_5 : decode cX7_soundPoints 5 = .ok (.aload_n 0, 1) := by decide +kernel
theorem dX7_soundPoints_6 : decode cX7_soundPoints 6 = .ok (.getfield 45, 3) := by decide +kernel
theorem dX7_soundPoints_9 : decode cX7_soundPoints 9 = .ok (.if_icmp .ge 33, 3) := by decide +kernel
theorem dX7_soundPoints_12 : decode cX7_soundPoints 12 = .ok (.aload_n 0, 1) := by decide +kernel
theorem dX7_soundPoints_13 : decode cX7_soundPoints 13 = .ok (.getfield 11, 3) := by decide +kernel
theorem dX7_soundPoints_16 : decode cX7_soundPoints 16 = .ok (.iload_n 2, 1) := by decide +kernel
theorem dX7_soundPoints_17 : decode cX7_soundPoints 17 = .ok (.aaload, 1) := by decide +kernel
theorem dX7_soundPoints_18 : decode cX7_soundPoints 18 = .ok (.getfield 101, 3) := by decide +kernel
theorem dX7_soundPoints_21 : decode cX7_soundPoints 21 = .ok (.ifCond .ne 15, 3) := by decide +kernel
theorem dX7_soundPoints_24 : decode cX7_soundPoints 24 = .ok (.iload_n 1, 1) := by decide +kernel
theorem dX7_soundPoints_25 : decode cX7_soundPoints 25 = .ok (.aload_n 0, 1) := by decide +kernel
theorem dX7_soundPoints_26 : decode cX7_soundPoints 26 = .ok (.getfield 11, 3) := by decide +kernel
theorem dX7_soundPoints_29 : decode cX7_soundPoints 29 = .ok (.iload_n 2, 1) := by decide +kernel
theorem dX7_soundPoints_30 : decode cX7_soundPoints 30 = .ok (.aaload, 1) := by decide +kernel
theorem dX7_soundPoints_31 : decode cX7_soundPoints 31 = .ok (.getfield 104, 3) := by decide +kernel
theorem dX7_soundPoints_34 : decode cX7_soundPoints 34 = .ok (.iadd, 1) := by decide +kernel
theorem dX7_soundPoints_35 : decode cX7_soundPoints 35 = .ok (.istore_n 1, 1) := by decide +kernel
theorem dX7_soundPoints_36 : decode cX7_soundPoints 36 = .ok (.iinc 2 1, 3) := by decide +kernel
theorem dX7_soundPoints_39 : decode cX7_soundPoints 39 = .ok (.goto (-35), 3) := by decide +kernel
theorem dX7_soundPoints_42 : decode cX7_soundPoints 42 = .ok (.iload_n 1, 1) := by decide +kernel
theorem dX7_soundPoints_43 : decode cX7_soundPoints 43 = .ok (.ireturn, 1) := by decide +kernel
theorem dX7_bytes_0 : decode cX7_bytes 0 = .ok (.iconst 0, 1) := by decide +kernel
theorem dX7_bytes_1 : decode cX7_bytes 1 = .ok (.istore_n 1, 1) := by decide +kernel
theorem dX7_bytes_2 : decode cX7_bytes 2 = .ok (.iconst 0, 1) := by decide +kernel
theorem dX7_bytes_3 : decode cX7_bytes 3 = .ok (.istore_n 2, 1) := by decide +kernel
theorem dX7_bytes_4 : decode cX7_bytes 4 = .ok (.iload_n 2, 1) := by decide +kernel
theorem dX7_bytes_5 : decode cX7_bytes 5 = .ok (.aload_n 0, 1) := by decide +kernel
theorem dX7_bytes_6 : decode cX7_bytes 6 = .ok (.getfield 45, 3) := by decide +kernel
theorem dX7_bytes_9 : decode cX7_bytes 9 = .ok (.if_icmp .ge 21, 3) := by decide +kernel
theorem dX7_bytes_12 : decode cX7_bytes 12 = .ok (.iload_n 1, 1) := by decide +kernel
theorem dX7_bytes_13 : decode cX7_bytes 13 = .ok (.aload_n 0, 1) := by decide +kernel
theorem dX7_bytes_14 : decode cX7_bytes 14 = .ok (.getfield 11, 3) := by decide +kernel
theorem dX7_bytes_17 : decode cX7_bytes 17 = .ok (.iload_n 2, 1) := by decide +kernel
theorem dX7_bytes_18 : decode cX7_bytes 18 = .ok (.aaload, 1) := by decide +kernel
theorem dX7_bytes_19 : decode cX7_bytes 19 = .ok (.getfield 107, 3) := by decide +kernel
theorem dX7_bytes_22 : decode cX7_bytes 22 = .ok (.iadd, 1) := by decide +kernel
theorem dX7_bytes_23 : decode cX7_bytes 23 = .ok (.istore_n 1, 1) := by decide +kernel
theorem dX7_bytes_24 : decode cX7_bytes 24 = .ok (.iinc 2 1, 3) := by decide +kernel
theorem dX7_bytes_27 : decode cX7_bytes 27 = .ok (.goto (-23), 3) := by decide +kernel
theorem dX7_bytes_30 : decode cX7_bytes 30 = .ok (.iload_n 1, 1) := by decide +kernel
theorem dX7_bytes_31 : decode cX7_bytes 31 = .ok (.ireturn, 1) := by decide +kernel
theorem dX7_broken_0 : decode cX7_broken 0 = .ok (.iconst 0, 1) := by decide +kernel
theorem dX7_broken_1 : decode cX7_broken 1 = .ok (.istore_n 1, 1) := by decide +kernel
theorem dX7_broken_2 : decode cX7_broken 2 = .ok (.iconst 0, 1) := by decide +kernel
theorem dX7_broken_3 : decode cX7_broken 3 = .ok (.istore_n 2, 1) := by decide +kernel
theorem dX7_broken_4 : decode cX7_broken 4 = .ok (.iload_n 2, 1) := by decide +kernel
theorem dX7_broken_5 : decode cX7_broken 5 = .ok (.aload_n 0, 1) := by decide +kernel
theorem dX7_broken_6 : decode cX7_broken 6 = .ok (.getfield 45, 3) := by decide +kernel
theorem dX7_broken_9 : decode cX7_broken 9 = .ok (.if_icmp .ge 27, 3) := by decide +kernel
theorem dX7_broken_12 : decode cX7_broken 12 = .ok (.aload_n 0, 1) := by decide +kernel
theorem dX7_broken_13 : decode cX7_broken 13 = .ok (.getfield 11, 3) := by decide +kernel
theorem dX7_broken_16 : decode cX7_broken 16 = .ok (.iload_n 2, 1) := by decide +kernel
theorem dX7_broken_17 : decode cX7_broken 17 = .ok (.aaload, 1) := by decide +kernel
theorem dX7_broken_18 : decode cX7_broken 18 = .ok (.getfield 101, 3) := by decide +kernel
theorem dX7_broken_21 : decode cX7_broken 21 = .ok (.ifCond .eq 9, 3) := by decide +kernel
theorem dX7_broken_24 : decode cX7_broken 24 = .ok (.iload_n 1, 1) := by decide +kernel
theorem dX7_broken_25 : decode cX7_broken 25 = .ok (.iconst 1, 1) := by decide +kernel
theorem dX7_broken_26 : decode cX7_broken 26 = .ok (.iload_n 2, 1) := by decide +kernel
theorem dX7_broken_27 : decode cX7_broken 27 = .ok (.ishl, 1) := by decide +kernel
theorem dX7_broken_28 : decode cX7_broken 28 = .ok (.ior, 1) := by decide +kernel
theorem dX7_broken_29 : decode cX7_broken 29 = .ok (.istore_n 1, 1) := by decide +kernel
theorem dX7_broken_30 : decode cX7_broken 30 = .ok (.iinc 2 1, 3) := by decide +kernel
theorem dX7_broken_33 : decode cX7_broken 33 = .ok (.goto (-29), 3) := by decide +kernel
theorem dX7_broken_36 : decode cX7_broken 36 = .ok (.iload_n 1, 1) := by decide +kernel
theorem dX7_broken_37 : decode cX7_broken 37 = .ok (.ireturn, 1) := by decide +kernel
theorem dX7_opened_0 : decode cX7_opened 0 = .ok (.iconst 0, 1) := by decide +kernel
theorem dX7_opened_1 : decode cX7_opened 1 = .ok (.istore_n 3, 1) := by decide +kernel
theorem dX7_opened_2 : decode cX7_opened 2 = .ok (.iconst 0, 1) := by decide +kernel
theorem dX7_opened_3 : decode cX7_opened 3 = .ok (.istore 4, 2) := by decide +kernel
theorem dX7_opened_5 : decode cX7_opened 5 = .ok (.iload 4, 2) := by decide +kernel
theorem dX7_opened_7 : decode cX7_opened 7 = .ok (.aload_n 0, 1) := by decide +kernel
theorem dX7_opened_8 : decode cX7_opened 8 = .ok (.getfield 45, 3) := by decide +kernel
theorem dX7_opened_11 : decode cX7_opened 11 = .ok (.if_icmp .ge 27, 3) := by decide +kernel
theorem dX7_opened_14 : decode cX7_opened 14 = .ok (.aload_n 0, 1) := by decide +kernel
theorem dX7_opened_15 : decode cX7_opened 15 = .ok (.getfield 11, 3) := by decide +kernel
theorem dX7_opened_18 : decode cX7_opened 18 = .ok (.iload 4, 2) := by decide +kernel
theorem dX7_opened_20 : decode cX7_opened 20 = .ok (.aaload, 1) := by decide +kernel
theorem dX7_opened_21 : decode cX7_opened 21 = .ok (.iload_n 1, 1) := by decide +kernel
theorem dX7_opened_22 : decode cX7_opened 22 = .ok (.iload_n 2, 1) := by decide +kernel
theorem dX7_opened_23 : decode cX7_opened 23 = .ok (.invokevirtual 108, 3) := by decide +kernel
theorem dX7_opened_26 : decode cX7_opened 26 = .ok (.ifCond .eq 6, 3) := by decide +kernel
theorem dX7_opened_29 : decode cX7_opened 29 = .ok (.iinc 3 1, 3) := by decide +kernel
theorem dX7_opened_32 : decode cX7_opened 32 = .ok (.iinc 4 1, 3) := by decide +kernel
theorem dX7_opened_35 : decode cX7_opened 35 = .ok (.goto (-30), 3) := by decide +kernel
theorem dX7_opened_38 : decode cX7_opened 38 = .ok (.iload_n 3, 1) := by decide +kernel
theorem dX7_opened_39 : decode cX7_opened 39 = .ok (.ireturn, 1) := by decide +kernel
theorem dX7_gather_0 : decode cX7_gather 0 = .ok (.aload 4, 2) := by decide +kernel
theorem dX7_gather_2 : decode cX7_gather 2 = .ok (.iconst 0, 1) := by decide +kernel
theorem dX7_gather_3 : decode cX7_gather 3 = .ok (.putfield 48, 3) := by decide +kernel
theorem dX7_gather_6 : decode cX7_gather 6 = .ok (.aload_n 0, 1) := by decide +kernel
theorem dX7_gather_7 : decode cX7_gather 7 = .ok (.getfield 22, 3) := by decide +kernel
theorem dX7_gather_10 : decode cX7_gather 10 = .ok (.iload_n 1, 1) := by decide +kernel
theorem dX7_gather_11 : decode cX7_gather 11 = .ok (.invokevirtual 112, 3) := by decide +kernel
theorem dX7_gather_14 : decode cX7_gather 14 = .ok (.istore 5, 2) := by decide +kernel
theorem dX7_gather_16 : decode cX7_gather 16 = .ok (.iconst 0, 1) := by decide +kernel
theorem dX7_gather_17 : decode cX7_gather 17 = .ok (.istore 6, 2) := by decide +kernel
theorem dX7_gather_19 : decode cX7_gather 19 = .ok (.iload 6, 2) := by decide +kernel
theorem dX7_gather_21 : decode cX7_gather 21 = .ok (.aload_n 0, 1) := by decide +kernel
theorem dX7_gather_22 : decode cX7_gather 22 = .ok (.getfield 45, 3) := by decide +kernel
theorem dX7_gather_25 : decode cX7_gather 25 = .ok (.if_icmp .ge 44, 3) := by decide +kernel
theorem dX7_gather_28 : decode cX7_gather 28 = .ok (.aload_n 0, 1) := by decide +kernel
theorem dX7_gather_29 : decode cX7_gather 29 = .ok (.getfield 11, 3) := by decide +kernel
theorem dX7_gather_32 : decode cX7_gather 32 = .ok (.iload 6, 2) := by decide +kernel
theorem dX7_gather_34 : decode cX7_gather 34 = .ok (.aaload, 1) := by decide +kernel
theorem dX7_gather_35 : decode cX7_gather 35 = .ok (.iload_n 1, 1) := by decide +kernel
theorem dX7_gather_36 : decode cX7_gather 36 = .ok (.iload_n 2, 1) := by decide +kernel
theorem dX7_gather_37 : decode cX7_gather 37 = .ok (.invokevirtual 108, 3) := by decide +kernel
theorem dX7_gather_40 : decode cX7_gather 40 = .ok (.ifCond .eq 23, 3) := by decide +kernel
theorem dX7_gather_43 : decode cX7_gather 43 = .ok (.aload_n 0, 1) := by decide +kernel
theorem dX7_gather_44 : decode cX7_gather 44 = .ok (.aload_n 0, 1) := by decide +kernel
theorem dX7_gather_45 : decode cX7_gather 45 = .ok (.getfield 11, 3) := by decide +kernel
theorem dX7_gather_48 : decode cX7_gather 48 = .ok (.iload 6, 2) := by decide +kernel
theorem dX7_gather_50 : decode cX7_gather 50 = .ok (.aaload, 1) := by decide +kernel
theorem dX7_gather_51 : decode cX7_gather 51 = .ok (.iload_n 1, 1) := by decide +kernel
theorem dX7_gather_52 : decode cX7_gather 52 = .ok (.iload_n 2, 1) := by decide +kernel
theorem dX7_gather_53 : decode cX7_gather 53 = .ok (.iload 5, 2) := by decide +kernel
theorem dX7_gather_55 : decode cX7_gather 55 = .ok (.aload_n 3, 1) := by decide +kernel
theorem dX7_gather_56 : decode cX7_gather 56 = .ok (.aload 4, 2) := by decide +kernel
theorem dX7_gather_58 : decode cX7_gather 58 = .ok (.invokevirtual 115, 3) := by decide +kernel
theorem dX7_gather_61 : decode cX7_gather 61 = .ok (.istore 5, 2) := by decide +kernel
theorem dX7_gather_63 : decode cX7_gather 63 = .ok (.iinc 6 1, 3) := by decide +kernel
theorem dX7_gather_66 : decode cX7_gather 66 = .ok (.goto (-47), 3) := by decide +kernel
theorem dX7_gather_69 : decode cX7_gather 69 = .ok (.iload 5, 2) := by decide +kernel
theorem dX7_gather_71 : decode cX7_gather 71 = .ok (.aload_n 0, 1) := by decide +kernel
theorem dX7_gather_72 : decode cX7_gather 72 = .ok (.getfield 22, 3) := by decide +kernel
theorem dX7_gather_75 : decode cX7_gather 75 = .ok (.getfield 48, 3) := by decide +kernel
theorem dX7_gather_78 : decode cX7_gather 78 = .ok (.if_icmp .ge 48, 3) := by decide +kernel
theorem dX7_gather_81 : decode cX7_gather 81 = .ok (.aload_n 0, 1) := by decide +kernel
theorem dX7_gather_82 : decode cX7_gather 82 = .ok (.getfield 22, 3) := by decide +kernel
theorem dX7_gather_85 : decode cX7_gather 85 = .ok (.getfield 119, 3) := by decide +kernel
theorem dX7_gather_88 : decode cX7_gather 88 = .ok (.iload 5, 2) := by decide +kernel
theorem dX7_gather_90 : decode cX7_gather 90 = .ok (.iaload, 1) := by decide +kernel
theorem dX7_gather_91 : decode cX7_gather 91 = .ok (.iload_n 2, 1) := by decide +kernel
theorem dX7_gather_92 : decode cX7_gather 92 = .ok (.if_icmp .gt 34, 3) := by decide +kernel
theorem dX7_gather_95 : decode cX7_gather 95 = .ok (.aload 4, 2) := by decide +kernel
theorem dX7_gather_97 : decode cX7_gather 97 = .ok (.aload_n 0, 1) := by decide +kernel
theorem dX7_gather_98 : decode cX7_gather 98 = .ok (.getfield 22, 3) := by decide +kernel
theorem dX7_gather_101 : decode cX7_gather 101 = .ok (.getfield 119, 3) := by decide +kernel
theorem dX7_gather_104 : decode cX7_gather 104 = .ok (.iload 5, 2) := by decide +kernel
theorem dX7_gather_106 : decode cX7_gather 106 = .ok (.iaload, 1) := by decide +kernel
theorem dX7_gather_107 : decode cX7_gather 107 = .ok (.aload_n 0, 1) := by decide +kernel
theorem dX7_gather_108 : decode cX7_gather 108 = .ok (.getfield 22, 3) := by decide +kernel
theorem dX7_gather_111 : decode cX7_gather 111 = .ok (.getfield 123, 3) := by decide +kernel
theorem dX7_gather_114 : decode cX7_gather 114 = .ok (.iload 5, 2) := by decide +kernel
theorem dX7_gather_116 : decode cX7_gather 116 = .ok (.laload, 1) := by decide +kernel
theorem dX7_gather_117 : decode cX7_gather 117 = .ok (.invokevirtual 126, 3) := by decide +kernel
theorem dX7_gather_120 : decode cX7_gather 120 = .ok (.iinc 5 1, 3) := by decide +kernel
theorem dX7_gather_123 : decode cX7_gather 123 = .ok (.goto (-54), 3) := by decide +kernel
theorem dX7_gather_126 : decode cX7_gather 126 = .ok (.return_, 1) := by decide +kernel
theorem dX7_gatherBlock_0 : decode cX7_gatherBlock 0 = .ok (.iload 4, 2) := by decide +kernel
theorem dX7_gatherBlock_2 : decode cX7_gatherBlock 2 = .ok (.istore 7, 2) := by decide +kernel
theorem dX7_gatherBlock_4 : decode cX7_gatherBlock 4 = .ok (.aload 5, 2) := by decide +kernel
theorem dX7_gatherBlock_6 : decode cX7_gatherBlock 6 = .ok (.aload_n 1, 1) := by decide +kernel
theorem dX7_gatherBlock_7 : decode cX7_gatherBlock 7 = .ok (.invokevirtual 129, 3) := by decide +kernel
theorem dX7_gatherBlock_10 : decode cX7_gatherBlock 10 = .ok (.iconst 0, 1) := by decide +kernel
theorem dX7_gatherBlock_11 : decode cX7_gatherBlock 11 = .ok (.istore 8, 2) := by decide +kernel
theorem dX7_gatherBlock_13 : decode cX7_gatherBlock 13 = .ok (.iload 8, 2) := by decide +kernel
theorem dX7_gatherBlock_15 : decode cX7_gatherBlock 15 = .ok (.aload_n 1, 1) := by decide +kernel
theorem dX7_gatherBlock_16 : decode cX7_gatherBlock 16 = .ok (.getfield 104, 3) := by decide +kernel
theorem dX7_gatherBlock_19 : decode cX7_gatherBlock 19 = .ok (.if_icmp .ge 153, 3) := by decide +kernel
theorem dX7_gatherBlock_22 : decode cX7_gatherBlock 22 = .ok (.iload 8, 2) := by decide +kernel
theorem dX7_gatherBlock_24 : decode cX7_gatherBlock 24 = .ok (.ifCond .le 14, 3) := by decide +kernel
theorem dX7_gatherBlock_27 : decode cX7_gatherBlock 27 = .ok (.aload 5, 2) := by decide +kernel
theorem dX7_gatherBlock_29 : decode cX7_gatherBlock 29 = .ok (.invokevirtual 134, 3) := by decide +kernel
theorem dX7_gatherBlock_32 : decode cX7_gatherBlock 32 = .ok (.ifCond .eq 6, 3) := by decide +kernel
theorem dX7_gatherBlock_35 : decode cX7_gatherBlock 35 = .ok (.goto 137, 3) := by decide +kernel
theorem dX7_gatherBlock_38 : decode cX7_gatherBlock 38 = .ok (.aload 5, 2) := by decide +kernel
theorem dX7_gatherBlock_40 : decode cX7_gatherBlock 40 = .ok (.getfield 138, 3) := by decide +kernel
theorem dX7_gatherBlock_43 : decode cX7_gatherBlock 43 = .ok (.getfield 139, 3) := by decide +kernel
theorem dX7_gatherBlock_46 : decode cX7_gatherBlock 46 = .ok (.istore 9, 2) := by decide +kernel
theorem dX7_gatherBlock_48 : decode cX7_gatherBlock 48 = .ok (.iload 9, 2) := by decide +kernel
theorem dX7_gatherBlock_50 : decode cX7_gatherBlock 50 = .ok (.iload_n 3, 1) := by decide +kernel
theorem dX7_gatherBlock_51 : decode cX7_gatherBlock 51 = .ok (.if_icmp .le 6, 3) := by decide +kernel
theorem dX7_gatherBlock_54 : decode cX7_gatherBlock 54 = .ok (.goto 118, 3) := by decide +kernel
theorem dX7_gatherBlock_57 : decode cX7_gatherBlock 57 = .ok (.iload 9, 2) := by decide +kernel
theorem dX7_gatherBlock_59 : decode cX7_gatherBlock 59 = .ok (.iload_n 2, 1) := by decide +kernel
theorem dX7_gatherBlock_60 : decode cX7_gatherBlock 60 = .ok (.if_icmp .ge 6, 3) := by decide +kernel
theorem dX7_gatherBlock_63 : decode cX7_gatherBlock 63 = .ok (.goto 103, 3) := by decide +kernel
theorem dX7_gatherBlock_66 : decode cX7_gatherBlock 66 = .ok (.iload 7, 2) := by decide +kernel
theorem dX7_gatherBlock_68 : decode cX7_gatherBlock 68 = .ok (.aload_n 0, 1) := by decide +kernel
theorem dX7_gatherBlock_69 : decode cX7_gatherBlock 69 = .ok (.getfield 22, 3) := by decide +kernel
theorem dX7_gatherBlock_72 : decode cX7_gatherBlock 72 = .ok (.getfield 48, 3) := by decide +kernel
theorem dX7_gatherBlock_75 : decode cX7_gatherBlock 75 = .ok (.if_icmp .ge 49, 3) := by decide +kernel
theorem dX7_gatherBlock_78 : decode cX7_gatherBlock 78 = .ok (.aload_n 0, 1) := by decide +kernel
theorem dX7_gatherBlock_79 : decode cX7_gatherBlock 79 = .ok (.getfield 22, 3) := by decide +kernel
theorem dX7_gatherBlock_82 : decode cX7_gatherBlock 82 = .ok (.getfield 119, 3) := by decide +kernel
theorem dX7_gatherBlock_85 : decode cX7_gatherBlock 85 = .ok (.iload 7, 2) := by decide +kernel
theorem dX7_gatherBlock_87 : decode cX7_gatherBlock 87 = .ok (.iaload, 1) := by decide +kernel
theorem dX7_gatherBlock_88 : decode cX7_gatherBlock 88 = .ok (.iload 9, 2) := by decide +kernel
theorem dX7_gatherBlock_90 : decode cX7_gatherBlock 90 = .ok (.if_icmp .ge 34, 3) := by decide +kernel
theorem dX7_gatherBlock_93 : decode cX7_gatherBlock 93 = .ok (.aload 6, 2) := by decide +kernel
theorem dX7_gatherBlock_95 : decode cX7_gatherBlock 95 = .ok (.aload_n 0, 1) := by decide +kernel
theorem dX7_gatherBlock_96 : decode cX7_gatherBlock 96 = .ok (.getfield 22, 3) := by decide +kernel
theorem dX7_gatherBlock_99 : decode cX7_gatherBlock 99 = .ok (.getfield 119, 3) := by decide +kernel
theorem dX7_gatherBlock_102 : decode cX7_gatherBlock 102 = .ok (.iload 7, 2) := by decide +kernel
theorem dX7_gatherBlock_104 : decode cX7_gatherBlock 104 = .ok (.iaload, 1) := by decide +kernel
theorem dX7_gatherBlock_105 : decode cX7_gatherBlock 105 = .ok (.aload_n 0, 1) := by decide +kernel
theorem dX7_gatherBlock_106 : decode cX7_gatherBlock 106 = .ok (.getfield 22, 3) := by decide +kernel
theorem dX7_gatherBlock_109 : decode cX7_gatherBlock 109 = .ok (.getfield 123, 3) := by decide +kernel
theorem dX7_gatherBlock_112 : decode cX7_gatherBlock 112 = .ok (.iload 7, 2) := by decide +kernel
theorem dX7_gatherBlock_114 : decode cX7_gatherBlock 114 = .ok (.laload, 1) := by decide +kernel
theorem dX7_gatherBlock_115 : decode cX7_gatherBlock 115 = .ok (.invokevirtual 126, 3) := by decide +kernel
theorem dX7_gatherBlock_118 : decode cX7_gatherBlock 118 = .ok (.iinc 7 1, 3) := by decide +kernel
theorem dX7_gatherBlock_121 : decode cX7_gatherBlock 121 = .ok (.goto (-55), 3) := by decide +kernel
theorem dX7_gatherBlock_124 : decode cX7_gatherBlock 124 = .ok (.iload 7, 2) := by decide +kernel
theorem dX7_gatherBlock_126 : decode cX7_gatherBlock 126 = .ok (.aload_n 0, 1) := by decide +kernel
theorem dX7_gatherBlock_127 : decode cX7_gatherBlock 127 = .ok (.getfield 22, 3) := by decide +kernel
theorem dX7_gatherBlock_130 : decode cX7_gatherBlock 130 = .ok (.getfield 48, 3) := by decide +kernel
theorem dX7_gatherBlock_133 : decode cX7_gatherBlock 133 = .ok (.if_icmp .ge 18, 3) := by decide +kernel
theorem dX7_gatherBlock_136 : decode cX7_gatherBlock 136 = .ok (.aload_n 0, 1) := by decide +kernel
theorem dX7_gatherBlock_137 : decode cX7_gatherBlock 137 = .ok (.getfield 22, 3) := by decide +kernel
theorem dX7_gatherBlock_140 : decode cX7_gatherBlock 140 = .ok (.getfield 119, 3) := by decide +kernel
theorem dX7_gatherBlock_143 : decode cX7_gatherBlock 143 = .ok (.iload 7, 2) := by decide +kernel
theorem dX7_gatherBlock_145 : decode cX7_gatherBlock 145 = .ok (.iaload, 1) := by decide +kernel
theorem dX7_gatherBlock_146 : decode cX7_gatherBlock 146 = .ok (.iload 9, 2) := by decide +kernel
theorem dX7_gatherBlock_148 : decode cX7_gatherBlock 148 = .ok (.if_icmp .eq 18, 3) := by decide +kernel
theorem dX7_gatherBlock_151 : decode cX7_gatherBlock 151 = .ok (.aload 6, 2) := by decide +kernel
theorem dX7_gatherBlock_153 : decode cX7_gatherBlock 153 = .ok (.iload 9, 2) := by decide +kernel
theorem dX7_gatherBlock_155 : decode cX7_gatherBlock 155 = .ok (.aload 5, 2) := by decide +kernel
theorem dX7_gatherBlock_157 : decode cX7_gatherBlock 157 = .ok (.getfield 138, 3) := by decide +kernel
theorem dX7_gatherBlock_160 : decode cX7_gatherBlock 160 = .ok (.getfield 142, 3) := by decide +kernel
theorem dX7_gatherBlock_163 : decode cX7_gatherBlock 163 = .ok (.invokevirtual 126, 3) := by decide +kernel
theorem dX7_gatherBlock_166 : decode cX7_gatherBlock 166 = .ok (.iinc 8 1, 3) := by decide +kernel
theorem dX7_gatherBlock_169 : decode cX7_gatherBlock 169 = .ok (.goto (-156), 3) := by decide +kernel
theorem dX7_gatherBlock_172 : decode cX7_gatherBlock 172 = .ok (.iload 7, 2) := by decide +kernel
theorem dX7_gatherBlock_174 : decode cX7_gatherBlock 174 = .ok (.ireturn, 1) := by decide +kernel
theorem dX8_init_0 : decode cX8_init 0 = .ok (.aload_n 0, 1) := by decide +kernel
theorem dX8_init_1 : decode cX8_init 1 = .ok (.invokespecial 3, 3) := by decide +kernel
theorem dX8_init_4 : decode cX8_init 4 = .ok (.aload_n 0, 1) := by decide +kernel
theorem dX8_init_5 : decode cX8_init 5 = .ok (.iconst 4, 1) := by decide +kernel
theorem dX8_init_6 : decode cX8_init 6 = .ok (.anewarray 9, 3) := by decide +kernel
theorem dX8_init_9 : decode cX8_init 9 = .ok (.putfield 11, 3) := by decide +kernel
theorem dX8_init_12 : decode cX8_init 12 = .ok (.iconst 0, 1) := by decide +kernel
theorem dX8_init_13 : decode cX8_init 13 = .ok (.istore_n 1, 1) := by decide +kernel
theorem dX8_init_14 : decode cX8_init 14 = .ok (.iload_n 1, 1) := by decide +kernel
theorem dX8_init_15 : decode cX8_init 15 = .ok (.iconst 4, 1) := by decide +kernel
theorem dX8_init_16 : decode cX8_init 16 = .ok (.if_icmp .ge 22, 3) := by decide +kernel
theorem dX8_init_19 : decode cX8_init 19 = .ok (.aload_n 0, 1) := by decide +kernel
theorem dX8_init_20 : decode cX8_init 20 = .ok (.getfield 11, 3) := by decide +kernel
theorem dX8_init_23 : decode cX8_init 23 = .ok (.iload_n 1, 1) := by decide +kernel
theorem dX8_init_24 : decode cX8_init 24 = .ok (.new 9, 3) := by decide +kernel
theorem dX8_init_27 : decode cX8_init 27 = .ok (.dup, 1) := by decide +kernel
theorem dX8_init_28 : decode cX8_init 28 = .ok (.invokespecial 15, 3) := by decide +kernel
theorem dX8_init_31 : decode cX8_init 31 = .ok (.aastore, 1) := by decide +kernel
theorem dX8_init_32 : decode cX8_init 32 = .ok (.iinc 1 1, 3) := by decide +kernel
theorem dX8_init_35 : decode cX8_init 35 = .ok (.goto (-21), 3) := by decide +kernel
theorem dX8_init_38 : decode cX8_init 38 = .ok (.aload_n 0, 1) := by decide +kernel
theorem dX8_init_39 : decode cX8_init 39 = .ok (.new 9, 3) := by decide +kernel
theorem dX8_init_42 : decode cX8_init 42 = .ok (.dup, 1) := by decide +kernel
theorem dX8_init_43 : decode cX8_init 43 = .ok (.invokespecial 15, 3) := by decide +kernel
theorem dX8_init_46 : decode cX8_init 46 = .ok (.putfield 16, 3) := by decide +kernel
theorem dX8_init_49 : decode cX8_init 49 = .ok (.aload_n 0, 1) := by decide +kernel
theorem dX8_init_50 : decode cX8_init 50 = .ok (.new 20, 3) := by decide +kernel
theorem dX8_init_53 : decode cX8_init 53 = .ok (.dup, 1) := by decide +kernel
theorem dX8_init_54 : decode cX8_init 54 = .ok (.sipush 11812, 3) := by decide +kernel
theorem dX8_init_57 : decode cX8_init 57 = .ok (.invokespecial 22, 3) := by decide +kernel
theorem dX8_init_60 : decode cX8_init 60 = .ok (.putfield 25, 3) := by decide +kernel
theorem dX8_init_63 : decode cX8_init 63 = .ok (.aload_n 0, 1) := by decide +kernel
theorem dX8_init_64 : decode cX8_init 64 = .ok (.new 20, 3) := by decide +kernel
theorem dX8_init_67 : decode cX8_init 67 = .ok (.dup, 1) := by decide +kernel
theorem dX8_init_68 : decode cX8_init 68 = .ok (.sipush 11812, 3) := by decide +kernel
theorem dX8_init_71 : decode cX8_init 71 = .ok (.invokespecial 22, 3) := by decide +kernel
theorem dX8_init_74 : decode cX8_init 74 = .ok (.putfield 29, 3) := by decide +kernel
theorem dX8_init_77 : decode cX8_init 77 = .ok (.aload_n 0, 1) := by decide +kernel
theorem dX8_init_78 : decode cX8_init 78 = .ok (.new 32, 3) := by decide +kernel
theorem dX8_init_81 : decode cX8_init 81 = .ok (.dup, 1) := by decide +kernel
theorem dX8_init_82 : decode cX8_init 82 = .ok (.aload_n 0, 1) := by decide +kernel
theorem dX8_init_83 : decode cX8_init 83 = .ok (.getfield 25, 3) := by decide +kernel
theorem dX8_init_86 : decode cX8_init 86 = .ok (.aload_n 0, 1) := by decide +kernel
theorem dX8_init_87 : decode cX8_init 87 = .ok (.getfield 29, 3) := by decide +kernel
theorem dX8_init_90 : decode cX8_init 90 = .ok (.invokespecial 34, 3) := by decide +kernel
theorem dX8_init_93 : decode cX8_init 93 = .ok (.putfield 37, 3) := by decide +kernel
theorem dX8_init_96 : decode cX8_init 96 = .ok (.aload_n 0, 1) := by decide +kernel
theorem dX8_init_97 : decode cX8_init 97 = .ok (.new 41, 3) := by decide +kernel
theorem dX8_init_100 : decode cX8_init 100 = .ok (.dup, 1) := by decide +kernel
theorem dX8_init_101 : decode cX8_init 101 = .ok (.invokespecial 43, 3) := by decide +kernel
theorem dX8_init_104 : decode cX8_init 104 = .ok (.putfield 44, 3) := by decide +kernel
theorem dX8_init_107 : decode cX8_init 107 = .ok (.aload_n 0, 1) := by decide +kernel
theorem dX8_init_108 : decode cX8_init 108 = .ok (.new 48, 3) := by decide +kernel
theorem dX8_init_111 : decode cX8_init 111 = .ok (.dup, 1) := by decide +kernel
theorem dX8_init_112 : decode cX8_init 112 = .ok (.invokespecial 50, 3) := by decide +kernel
theorem dX8_init_115 : decode cX8_init 115 = .ok (.putfield 51, 3) := by decide +kernel
theorem dX8_init_118 : decode cX8_init 118 = .ok (.aload_n 0, 1) := by decide +kernel
theorem dX8_init_119 : decode cX8_init 119 = .ok (.new 55, 3) := by decide +kernel
theorem dX8_init_122 : decode cX8_init 122 = .ok (.dup, 1) := by decide +kernel
theorem dX8_init_123 : decode cX8_init 123 = .ok (.aload_n 0, 1) := by decide +kernel
theorem dX8_init_124 : decode cX8_init 124 = .ok (.getfield 44, 3) := by decide +kernel
theorem dX8_init_127 : decode cX8_init 127 = .ok (.invokespecial 57, 3) := by decide +kernel
theorem dX8_init_130 : decode cX8_init 130 = .ok (.putfield 60, 3) := by decide +kernel
theorem dX8_init_133 : decode cX8_init 133 = .ok (.aload_n 0, 1) := by decide +kernel
theorem dX8_init_134 : decode cX8_init 134 = .ok (.new 64, 3) := by decide +kernel
theorem dX8_init_137 : decode cX8_init 137 = .ok (.dup, 1) := by decide +kernel
theorem dX8_init_138 : decode cX8_init 138 = .ok (.invokespecial 66, 3) := by decide +kernel
theorem dX8_init_141 : decode cX8_init 141 = .ok (.putfield 67, 3) := by decide +kernel
theorem dX8_init_144 : decode cX8_init 144 = .ok (.return_, 1) := by decide +kernel
theorem dX8_begins_0 : decode cX8_begins 0 = .ok (.iload_n 1, 1) := by decide +kernel
theorem dX8_begins_1 : decode cX8_begins 1 = .ok (.invokestatic 71, 3) := by decide +kernel
theorem dX8_begins_4 : decode cX8_begins 4 = .ok (.ifCond .eq 10, 3) := by decide +kernel
theorem dX8_begins_7 : decode cX8_begins 7 = .ok (.iload_n 2, 1) := by decide +kernel
theorem dX8_begins_8 : decode cX8_begins 8 = .ok (.invokestatic 75, 3) := by decide +kernel
theorem dX8_begins_11 : decode cX8_begins 11 = .ok (.ifCond .ne 6, 3) := by decide +kernel
theorem dX8_begins_14 : decode cX8_begins 14 = .ok (.bipush (-2), 2) := by decide +kernel
theorem dX8_begins_16 : decode cX8_begins 16 = .ok (.ireturn, 1) := by decide +kernel
theorem dX8_begins_17 : decode cX8_begins 17 = .ok (.aload_n 0, 1) := by decide +kernel
theorem dX8_begins_18 : decode cX8_begins 18 = .ok (.getfield 11, 3) := by decide +kernel
theorem dX8_begins_21 : decode cX8_begins 21 = .ok (.iload_n 1, 1) := by decide +kernel
theorem dX8_begins_22 : decode cX8_begins 22 = .ok (.aaload, 1) := by decide +kernel
theorem dX8_begins_23 : decode cX8_begins 23 = .ok (.iload_n 2, 1) := by decide +kernel
theorem dX8_begins_24 : decode cX8_begins 24 = .ok (.invokevirtual 78, 3) := by decide +kernel
theorem dX8_begins_27 : decode cX8_begins 27 = .ok (.iconst 0, 1) := by decide +kernel
theorem dX8_begins_28 : decode cX8_begins 28 = .ok (.ireturn, 1) := by decide +kernel
theorem dX8_add_0 : decode cX8_add 0 = .ok (.aload_n 0, 1) := by decide +kernel
theorem dX8_add_1 : decode cX8_add 1 = .ok (.iload_n 1, 1) := by decide +kernel
theorem dX8_add_2 : decode cX8_add 2 = .ok (.invokevirtual 81, 3) := by decide +kernel
theorem dX8_add_5 : decode cX8_add 5 = .ok (.ifCond .ne 10, 3) := by decide +kernel
theorem dX8_add_8 : decode cX8_add 8 = .ok (.iload_n 2, 1) := by decide +kernel
theorem dX8_add_9 : decode cX8_add 9 = .ok (.invokestatic 84, 3) := by decide +kernel
theorem dX8_add_12 : decode cX8_add 12 = .ok (.ifCond .ne 6, 3) := by decide +kernel
theorem dX8_add_15 : decode cX8_add 15 = .ok (.bipush (-2), 2) := by decide +kernel
theorem dX8_add_17 : decode cX8_add 17 = .ok (.ireturn, 1) := by decide +kernel
theorem dX8_add_18 : decode cX8_add 18 = .ok (.iload_n 2, 1) := by decide +kernel
theorem dX8_add_19 : decode cX8_add 19 = .ok (.aload_n 0, 1) := by decide +kernel
theorem dX8_add_20 : decode cX8_add 20 = .ok (.getfield 11, 3) := by decide +kernel
theorem dX8_add_23 : decode cX8_add 23 = .ok (.iload_n 1, 1) := by decide +kernel
theorem dX8_add_24 : decode cX8_add 24 = .ok (.aaload, 1) := by decide +kernel
theorem dX8_add_25 : decode cX8_add 25 = .ok (.getfield 87, 3) := by decide +kernel
theorem dX8_add_28 : decode cX8_add 28 = .ok (.if_icmp .gt 6, 3) := by decide +kernel
theorem dX8_add_31 : decode cX8_add 31 = .ok (.bipush (-5), 2) := by decide +kernel
theorem dX8_add_33 : decode cX8_add 33 = .ok (.ireturn, 1) := by decide +kernel
theorem dX8_add_34 : decode cX8_add 34 = .ok (.aload_n 0, 1) := by decide +kernel
theorem dX8_add_35 : decode cX8_add 35 = .ok (.getfield 11, 3) := by decide +kernel
theorem dX8_add_38 : decode cX8_add 38 = .ok (.iload_n 1, 1) := by decide +kernel
theorem dX8_add_39 : decode cX8_add 39 = .ok (.aaload, 1) := by decide +kernel
theorem dX8_add_40 : decode cX8_add 40 = .ok (.iload_n 2, 1) := by decide +kernel
theorem dX8_add_41 : decode cX8_add 41 = .ok (.lload_n 3, 1) := by decide +kernel
theorem dX8_add_42 : decode cX8_add 42 = .ok (.invokevirtual 91, 3) := by decide +kernel
theorem dX8_add_45 : decode cX8_add 45 = .ok (.ireturn, 1) := by decide +kernel
theorem dX8_late_0 : decode cX8_late 0 = .ok (.aload_n 0, 1) := by decide +kernel
theorem dX8_late_1 : decode cX8_late 1 = .ok (.iload_n 1, 1) := by decide +kernel
theorem dX8_late_2 : decode cX8_late 2 = .ok (.invokevirtual 81, 3) := by decide +kernel
theorem dX8_late_5 : decode cX8_late 5 = .ok (.ifCond .ne 10, 3) := by decide +kernel
theorem dX8_late_8 : decode cX8_late 8 = .ok (.iload_n 2, 1) := by decide +kernel
theorem dX8_late_9 : decode cX8_late 9 = .ok (.invokestatic 84, 3) := by decide +kernel
theorem dX8_late_12 : decode cX8_late 12 = .ok (.ifCond .ne 6, 3) := by decide +kernel
theorem dX8_late_15 : decode cX8_late 15 = .ok (.bipush (-2), 2) := by decide +kernel
theorem dX8_late_17 : decode cX8_late 17 = .ok (.ireturn, 1) := by decide +kernel
theorem dX8_late_18 : decode cX8_late 18 = .ok (.aload_n 0, 1) := by decide +kernel
theorem dX8_late_19 : decode cX8_late 19 = .ok (.getfield 11, 3) := by decide +kernel
theorem dX8_late_22 : decode cX8_late 22 = .ok (.iload_n 1, 1) := by decide +kernel
theorem dX8_late_23 : decode cX8_late 23 = .ok (.aaload, 1) := by decide +kernel
theorem dX8_late_24 : decode cX8_late 24 = .ok (.astore 5, 2) := by decide +kernel
theorem dX8_late_26 : decode cX8_late 26 = .ok (.iload_n 2, 1) := by decide +kernel
theorem dX8_late_27 : decode cX8_late 27 = .ok (.aload 5, 2) := by decide +kernel
theorem dX8_late_29 : decode cX8_late 29 = .ok (.getfield 87, 3) := by decide +kernel
theorem dX8_late_32 : decode cX8_late 32 = .ok (.if_icmp .le 6, 3) := by decide +kernel
theorem dX8_late_35 : decode cX8_late 35 = .ok (.bipush (-5), 2) := by decide +kernel
theorem dX8_late_37 : decode cX8_late 37 = .ok (.ireturn, 1) := by decide +kernel
theorem dX8_late_38 : decode cX8_late 38 = .ok (.aload 5, 2) := by decide +kernel
theorem dX8_late_40 : decode cX8_late 40 = .ok (.getfield 95, 3) := by decide +kernel
theorem dX8_late_43 : decode cX8_late 43 = .ok (.iload_n 2, 1) := by decide +kernel
theorem dX8_late_44 : decode cX8_late 44 = .ok (.lload_n 3, 1) := by decide +kernel
theorem dX8_late_45 : decode cX8_late 45 = .ok (.invokevirtual 98, 3) := by decide +kernel
theorem dX8_late_48 : decode cX8_late 48 = .ok (.ifCond .eq 14, 3) := by decide +kernel
theorem dX8_late_51 : decode cX8_late 51 = .ok (.aload 5, 2) := by decide +kernel
theorem dX8_late_53 : decode cX8_late 53 = .ok (.getfield 95, 3) := by decide +kernel
theorem dX8_late_56 : decode cX8_late 56 = .ok (.getfield 102, 3) := by decide +kernel
theorem dX8_late_59 : decode cX8_late 59 = .ok (.goto 5, 3) := by decide +kernel
theorem dX8_late_62 : decode cX8_late 62 = .ok (.bipush (-4), 2) := by decide +kernel
theorem dX8_late_64 : decode cX8_late 64 = .ok (.ireturn, 1) := by decide +kernel
theorem dX8_would_0 : decode cX8_would 0 = .ok (.aload_n 0, 1) := by decide +kernel
theorem dX8_would_1 : decode cX8_would 1 = .ok (.iload_n 1, 1) := by decide +kernel
theorem dX8_would_2 : decode cX8_would 2 = .ok (.invokevirtual 81, 3) := by decide +kernel
theorem dX8_would_5 : decode cX8_would 5 = .ok (.ifCond .ne 10, 3) := by decide +kernel
theorem dX8_would_8 : decode cX8_would 8 = .ok (.iload_n 2, 1) := by decide +kernel
theorem dX8_would_9 : decode cX8_would 9 = .ok (.invokestatic 84, 3) := by decide +kernel
theorem dX8_would_12 : decode cX8_would 12 = .ok (.ifCond .ne 6, 3) := by decide +kernel
theorem dX8_would_15 : decode cX8_would 15 = .ok (.bipush (-2), 2) := by decide +kernel
theorem dX8_would_17 : decode cX8_would 17 = .ok (.ireturn, 1) := by decide +kernel
theorem dX8_would_18 : decode cX8_would 18 = .ok (.aload_n 0, 1) := by decide +kernel
theorem dX8_would_19 : decode cX8_would 19 = .ok (.getfield 11, 3) := by decide +kernel
theorem dX8_would_22 : decode cX8_would 22 = .ok (.iload_n 1, 1) := by decide +kernel
theorem dX8_would_23 : decode cX8_would 23 = .ok (.aaload, 1) := by decide +kernel
theorem dX8_would_24 : decode cX8_would 24 = .ok (.astore 5, 2) := by decide +kernel
theorem dX8_would_26 : decode cX8_would 26 = .ok (.iload_n 2, 1) := by decide +kernel
theorem dX8_would_27 : decode cX8_would 27 = .ok (.aload 5, 2) := by decide +kernel
theorem dX8_would_29 : decode cX8_would 29 = .ok (.getfield 87, 3) := by decide +kernel
theorem dX8_would_32 : decode cX8_would 32 = .ok (.if_icmp .gt 6, 3) := by decide +kernel
theorem dX8_would_35 : decode cX8_would 35 = .ok (.bipush (-5), 2) := by decide +kernel
theorem dX8_would_37 : decode cX8_would 37 = .ok (.ireturn, 1) := by decide +kernel
theorem dX8_would_38 : decode cX8_would 38 = .ok (.aload 5, 2) := by decide +kernel
theorem dX8_would_40 : decode cX8_would 40 = .ok (.iload_n 2, 1) := by decide +kernel
theorem dX8_would_41 : decode cX8_would 41 = .ok (.lload_n 3, 1) := by decide +kernel
theorem dX8_would_42 : decode cX8_would 42 = .ok (.invokevirtual 105, 3) := by decide +kernel
theorem dX8_would_45 : decode cX8_would 45 = .ok (.ifCond .eq 14, 3) := by decide +kernel
theorem dX8_would_48 : decode cX8_would 48 = .ok (.aload 5, 2) := by decide +kernel
theorem dX8_would_50 : decode cX8_would 50 = .ok (.getfield 108, 3) := by decide +kernel
theorem dX8_would_53 : decode cX8_would 53 = .ok (.getfield 111, 3) := by decide +kernel
theorem dX8_would_56 : decode cX8_would 56 = .ok (.goto 4, 3) := by decide +kernel
theorem dX8_would_59 : decode cX8_would 59 = .ok (.iconst 0, 1) := by decide +kernel
theorem dX8_would_60 : decode cX8_would 60 = .ok (.ireturn, 1) := by decide +kernel
theorem dX8_seals_0 : decode cX8_seals 0 = .ok (.aload_n 0, 1) := by decide +kernel
theorem dX8_seals_1 : decode cX8_seals 1 = .ok (.iload_n 1, 1) := by decide +kernel
theorem dX8_seals_2 : decode cX8_seals 2 = .ok (.invokevirtual 81, 3) := by decide +kernel
theorem dX8_seals_5 : decode cX8_seals 5 = .ok (.ifCond .eq 6, 3) := by decide +kernel
theorem dX8_seals_8 : decode cX8_seals 8 = .ok (.bipush (-2), 2) := by decide +kernel
theorem dX8_seals_10 : decode cX8_seals 10 = .ok (.ireturn, 1) := by decide +kernel
theorem dX8_seals_11 : decode cX8_seals 11 = .ok (.aload_n 0, 1) := by decide +kernel
theorem dX8_seals_12 : decode cX8_seals 12 = .ok (.getfield 11, 3) := by decide +kernel
theorem dX8_seals_15 : decode cX8_seals 15 = .ok (.iload_n 1, 1) := by decide +kernel
theorem dX8_seals_16 : decode cX8_seals 16 = .ok (.aaload, 1) := by decide +kernel
theorem dX8_seals_17 : decode cX8_seals 17 = .ok (.invokevirtual 114, 3) := by decide +kernel
theorem dX8_seals_20 : decode cX8_seals 20 = .ok (.astore_n 2, 1) := by decide +kernel
theorem dX8_seals_21 : decode cX8_seals 21 = .ok (.aload_n 2, 1) := by decide +kernel
theorem dX8_seals_22 : decode cX8_seals 22 = .ok (.ifnonnull 6, 3) := by decide +kernel
theorem dX8_seals_25 : decode cX8_seals 25 = .ok (.bipush (-5), 2) := by decide +kernel
theorem dX8_seals_27 : decode cX8_seals 27 = .ok (.ireturn, 1) := by decide +kernel
theorem dX8_seals_28 : decode cX8_seals 28 = .ok (.aload_n 2, 1) := by decide +kernel
theorem dX8_seals_29 : decode cX8_seals 29 = .ok (.invokevirtual 118, 3) := by decide +kernel
theorem dX8_seals_32 : decode cX8_seals 32 = .ok (.aload_n 2, 1) := by decide +kernel
theorem dX8_seals_33 : decode cX8_seals 33 = .ok (.getfield 121, 3) := by decide +kernel
theorem dX8_seals_36 : decode cX8_seals 36 = .ok (.ireturn, 1) := by decide +kernel
theorem dX8_drops_0 : decode cX8_drops 0 = .ok (.aload_n 0, 1) := by decide +kernel
theorem dX8_drops_1 : decode cX8_drops 1 = .ok (.iload_n 1, 1) := by decide +kernel
theorem dX8_drops_2 : decode cX8_drops 2 = .ok (.iload_n 2, 1) := by decide +kernel
theorem dX8_drops_3 : decode cX8_drops 3 = .ok (.invokevirtual 122, 3) := by decide +kernel
theorem dX8_drops_6 : decode cX8_drops 6 = .ok (.ifnonnull 6, 3) := by decide +kernel
theorem dX8_drops_9 : decode cX8_drops 9 = .ok (.bipush (-2), 2) := by decide +kernel
theorem dX8_drops_11 : decode cX8_drops 11 = .ok (.ireturn, 1) := by decide +kernel
theorem dX8_drops_12 : decode cX8_drops 12 = .ok (.aload_n 0, 1) := by decide +kernel
theorem dX8_drops_13 : decode cX8_drops 13 = .ok (.getfield 11, 3) := by decide +kernel
theorem dX8_drops_16 : decode cX8_drops 16 = .ok (.iload_n 1, 1) := by decide +kernel
theorem dX8_drops_17 : decode cX8_drops 17 = .ok (.aaload, 1) := by decide +kernel
theorem dX8_drops_18 : decode cX8_drops 18 = .ok (.iload_n 2, 1) := by decide +kernel
theorem dX8_drops_19 : decode cX8_drops 19 = .ok (.invokevirtual 126, 3) := by decide +kernel
theorem dX8_drops_22 : decode cX8_drops 22 = .ok (.ireturn, 1) := by decide +kernel
theorem dX8_feed_0 : decode cX8_feed 0 = .ok (.aload_n 0, 1) := by decide +kernel
theorem dX8_feed_1 : decode cX8_feed 1 = .ok (.getfield 67, 3) := by decide +kernel
theorem dX8_feed_4 : decode cX8_feed 4 = .ok (.getfield 121, 3) := by decide +kernel
theorem dX8_feed_7 : decode cX8_feed 7 = .ok (.bipush 20, 2) := by decide +kernel
theorem dX8_feed_9 : decode cX8_feed 9 = .ok (.iadd, 1) := by decide +kernel
theorem dX8_feed_10 : decode cX8_feed 10 = .ok (.sipush 200, 3) := by decide +kernel
theorem dX8_feed_13 : decode cX8_feed 13 = .ok (.if_icmp .le 5, 3) := by decide +kernel
theorem dX8_feed_16 : decode cX8_feed 16 = .ok (.iconst (-1), 1) := by decide +kernel
theorem dX8_feed_17 : decode cX8_feed 17 = .ok (.ireturn, 1) := by decide +kernel
theorem dX8_feed_18 : decode cX8_feed 18 = .ok (.aload_n 0, 1) := by decide +kernel
theorem dX8_feed_19 : decode cX8_feed 19 = .ok (.getfield 67, 3) := by decide +kernel
theorem dX8_feed_22 : decode cX8_feed 22 = .ok (.iload_n 1, 1) := by decide +kernel
theorem dX8_feed_23 : decode cX8_feed 23 = .ok (.invokevirtual 130, 3) := by decide +kernel
theorem dX8_feed_26 : decode cX8_feed 26 = .ok (.aload_n 0, 1) := by decide +kernel
theorem dX8_feed_27 : decode cX8_feed 27 = .ok (.getfield 67, 3) := by decide +kernel
theorem dX8_feed_30 : decode cX8_feed 30 = .ok (.iload_n 2, 1) := by decide +kernel
theorem dX8_feed_31 : decode cX8_feed 31 = .ok (.invokevirtual 130, 3) := by decide +kernel
theorem dX8_feed_34 : decode cX8_feed 34 = .ok (.aload_n 0, 1) := by decide +kernel
theorem dX8_feed_35 : decode cX8_feed 35 = .ok (.getfield 67, 3) := by decide +kernel
theorem dX8_feed_38 : decode cX8_feed 38 = .ok (.iload_n 3, 1) := by decide +kernel
theorem dX8_feed_39 : decode cX8_feed 39 = .ok (.invokevirtual 130, 3) := by decide +kernel
theorem dX8_feed_42 : decode cX8_feed 42 = .ok (.aload_n 0, 1) := by decide +kernel
theorem dX8_feed_43 : decode cX8_feed 43 = .ok (.getfield 67, 3) := by decide +kernel
theorem dX8_feed_46 : decode cX8_feed 46 = .ok (.iload 4, 2) := by decide +kernel
theorem dX8_feed_48 : decode cX8_feed 48 = .ok (.invokevirtual 130, 3) := by decide +kernel
theorem dX8_feed_51 : decode cX8_feed 51 = .ok (.aload_n 0, 1) := by decide +kernel
theorem dX8_feed_52 : decode cX8_feed 52 = .ok (.getfield 67, 3) := by decide +kernel
theorem dX8_feed_55 : decode cX8_feed 55 = .ok (.iload 5, 2) := by decide +kernel
theorem dX8_feed_57 : decode cX8_feed 57 = .ok (.invokevirtual 130, 3) := by decide +kernel
theorem dX8_feed_60 : decode cX8_feed 60 = .ok (.aload_n 0, 1) := by decide +kernel
theorem dX8_feed_61 : decode cX8_feed 61 = .ok (.getfield 67, 3) := by decide +kernel
theorem dX8_feed_64 : decode cX8_feed 64 = .ok (.getfield 121, 3) := by decide +kernel
theorem dX8_feed_67 : decode cX8_feed 67 = .ok (.ireturn, 1) := by decide +kernel
theorem dX8_end_0 : decode cX8_end 0 = .ok (.iload_n 1, 1) := by decide +kernel
theorem dX8_end_1 : decode cX8_end 1 = .ok (.ifCond .lt 14, 3) := by decide +kernel
theorem dX8_end_4 : decode cX8_end 4 = .ok (.iload_n 1, 1) := by decide +kernel
theorem dX8_end_5 : decode cX8_end 5 = .ok (.aload_n 0, 1) := by decide +kernel
theorem dX8_end_6 : decode cX8_end 6 = .ok (.getfield 67, 3) := by decide +kernel
theorem dX8_end_9 : decode cX8_end 9 = .ok (.getfield 121, 3) := by decide +kernel
theorem dX8_end_12 : decode cX8_end 12 = .ok (.if_icmp .le 5, 3) := by decide +kernel
theorem dX8_end_15 : decode cX8_end 15 = .ok (.iconst (-1), 1) := by decide +kernel
theorem dX8_end_16 : decode cX8_end 16 = .ok (.ireturn, 1) := by decide +kernel
theorem dX8_end_17 : decode cX8_end 17 = .ok (.aload_n 0, 1) := by decide +kernel
theorem dX8_end_18 : decode cX8_end 18 = .ok (.getfield 67, 3) := by decide +kernel
theorem dX8_end_21 : decode cX8_end 21 = .ok (.iload_n 1, 1) := by decide +kernel
theorem dX8_end_22 : decode cX8_end 22 = .ok (.putfield 121, 3) := by decide +kernel
theorem dX8_end_25 : decode cX8_end 25 = .ok (.iload_n 1, 1) := by decide +kernel
theorem dX8_end_26 : decode cX8_end 26 = .ok (.ireturn, 1) := by decide +kernel
theorem dX8_taped_0 : decode cX8_taped 0 = .ok (.aload_n 0, 1) := by decide +kernel
theorem dX8_taped_1 : decode cX8_taped 1 = .ok (.getfield 67, 3) := by decide +kernel
theorem dX8_taped_4 : decode cX8_taped 4 = .ok (.getfield 121, 3) := by decide +kernel
theorem dX8_taped_7 : decode cX8_taped 7 = .ok (.ireturn, 1) := by decide +kernel
theorem dX8_takes_0 : decode cX8_takes 0 = .ok (.aload_n 0, 1) := by decide +kernel
theorem dX8_takes_1 : decode cX8_takes 1 = .ok (.iload_n 1, 1) := by decide +kernel
theorem dX8_takes_2 : decode cX8_takes 2 = .ok (.invokevirtual 81, 3) := by decide +kernel
theorem dX8_takes_5 : decode cX8_takes 5 = .ok (.ifCond .eq 6, 3) := by decide +kernel
theorem dX8_takes_8 : decode cX8_takes 8 = .ok (.bipush (-2), 2) := by decide +kernel
theorem dX8_takes_10 : decode cX8_takes 10 = .ok (.ireturn, 1) := by decide +kernel
theorem dX8_takes_11 : decode cX8_takes 11 = .ok (.aload_n 0, 1) := by decide +kernel
theorem dX8_takes_12 : decode cX8_takes 12 = .ok (.getfield 67, 3) := by decide +kernel
theorem dX8_takes_15 : decode cX8_takes 15 = .ok (.iconst 1, 1) := by decide +kernel
theorem dX8_takes_16 : decode cX8_takes 16 = .ok (.putfield 133, 3) := by decide +kernel
theorem dX8_takes_19 : decode cX8_takes 19 = .ok (.aload_n 0, 1) := by decide +kernel
theorem dX8_takes_20 : decode cX8_takes 20 = .ok (.aload_n 0, 1) := by decide +kernel
theorem dX8_takes_21 : decode cX8_takes 21 = .ok (.getfield 11, 3) := by decide +kernel
theorem dX8_takes_24 : decode cX8_takes 24 = .ok (.iload_n 1, 1) := by decide +kernel
theorem dX8_takes_25 : decode cX8_takes 25 = .ok (.aaload, 1) := by decide +kernel
theorem dX8_takes_26 : decode cX8_takes 26 = .ok (.invokevirtual 137, 3) := by decide +kernel
theorem dX8_takes_29 : decode cX8_takes 29 = .ok (.istore_n 2, 1) := by decide +kernel
theorem dX8_takes_30 : decode cX8_takes 30 = .ok (.aload_n 0, 1) := by decide +kernel
theorem dX8_takes_31 : decode cX8_takes 31 = .ok (.getfield 67, 3) := by decide +kernel
theorem dX8_takes_34 : decode cX8_takes 34 = .ok (.iconst 0, 1) := by decide +kernel
theorem dX8_takes_35 : decode cX8_takes 35 = .ok (.putfield 121, 3) := by decide +kernel
theorem dX8_takes_38 : decode cX8_takes 38 = .ok (.iload_n 2, 1) := by decide +kernel
theorem dX8_takes_39 : decode cX8_takes 39 = .ok (.ireturn, 1) := by decide +kernel
theorem dX8_takenBy_0 : decode cX8_takenBy 0 = .ok (.aload_n 0, 1) := by decide +kernel
theorem dX8_takenBy_1 : decode cX8_takenBy 1 = .ok (.getfield 44, 3) := by decide +kernel
theorem dX8_takenBy_4 : decode cX8_takenBy 4 = .ok (.aload_n 0, 1) := by decide +kernel
theorem dX8_takenBy_5 : decode cX8_takenBy 5 = .ok (.getfield 67, 3) := by decide +kernel
theorem dX8_takenBy_8 : decode cX8_takenBy 8 = .ok (.iconst 0, 1) := by decide +kernel
theorem dX8_takenBy_9 : decode cX8_takenBy 9 = .ok (.invokevirtual 141, 3) := by decide +kernel
theorem dX8_takenBy_12 : decode cX8_takenBy 12 = .ok (.istore_n 2, 1) := by decide +kernel
theorem dX8_takenBy_13 : decode cX8_takenBy 13 = .ok (.iload_n 2, 1) := by decide +kernel
theorem dX8_takenBy_14 : decode cX8_takenBy 14 = .ok (.ifCond .eq 8, 3) := by decide +kernel
theorem dX8_takenBy_17 : decode cX8_takenBy 17 = .ok (.bipush (-10), 2) := by decide +kernel
theorem dX8_takenBy_19 : decode cX8_takenBy 19 = .ok (.iload_n 2, 1) := by decide +kernel
theorem dX8_takenBy_20 : decode cX8_takenBy 20 = .ok (.isub, 1) := by decide +kernel
theorem dX8_takenBy_21 : decode cX8_takenBy 21 = .ok (.ireturn, 1) := by decide +kernel
theorem dX8_takenBy_22 : decode cX8_takenBy 22 = .ok (.aload_n 0, 1) := by decide +kernel
theorem dX8_takenBy_23 : decode cX8_takenBy 23 = .ok (.getfield 67, 3) := by decide +kernel
theorem dX8_takenBy_26 : decode cX8_takenBy 26 = .ok (.getfield 121, 3) := by decide +kernel
theorem dX8_takenBy_29 : decode cX8_takenBy 29 = .ok (.aload_n 1, 1) := by decide +kernel
theorem dX8_takenBy_30 : decode cX8_takenBy 30 = .ok (.getfield 145, 3) := by decide +kernel
theorem dX8_takenBy_33 : decode cX8_takenBy 33 = .ok (.if_icmp .le 6, 3) := by decide +kernel
theorem dX8_takenBy_36 : decode cX8_takenBy 36 = .ok (.bipush (-3), 2) := by decide +kernel
theorem dX8_takenBy_38 : decode cX8_takenBy 38 = .ok (.ireturn, 1) := by decide +kernel
theorem dX8_takenBy_39 : decode cX8_takenBy 39 = .ok (.aload_n 0, 1) := by decide +kernel
theorem dX8_takenBy_40 : decode cX8_takenBy 40 = .ok (.getfield 44, 3) := by decide +kernel
theorem dX8_takenBy_43 : decode cX8_takenBy 43 = .ok (.getfield 148, 3) := by decide +kernel
theorem dX8_takenBy_46 : decode cX8_takenBy 46 = .ok (.aload_n 1, 1) := by decide +kernel
theorem dX8_takenBy_47 : decode cX8_takenBy 47 = .ok (.getfield 87, 3) := by decide +kernel
theorem dX8_takenBy_50 : decode cX8_takenBy 50 = .ok (.if_icmp .gt 6, 3) := by decide +kernel
theorem dX8_takenBy_53 : decode cX8_takenBy 53 = .ok (.bipush (-5), 2) := by decide +kernel
theorem dX8_takenBy_55 : decode cX8_takenBy 55 = .ok (.ireturn, 1) := by decide +kernel
theorem dX8_takenBy_56 : decode cX8_takenBy 56 = .ok (.aload_n 0, 1) := by decide +kernel
theorem dX8_takenBy_57 : decode cX8_takenBy 57 = .ok (.getfield 67, 3) := by decide +kernel
theorem dX8_takenBy_60 : decode cX8_takenBy 60 = .ok (.aload_n 0, 1) := by decide +kernel
theorem dX8_takenBy_61 : decode cX8_takenBy 61 = .ok (.getfield 44, 3) := by decide +kernel
theorem dX8_takenBy_64 : decode cX8_takenBy 64 = .ok (.getfield 148, 3) := by decide +kernel
theorem dX8_takenBy_67 : decode cX8_takenBy 67 = .ok (.putfield 151, 3) := by decide +kernel
theorem dX8_takenBy_70 : decode cX8_takenBy 70 = .ok (.aload_n 0, 1) := by decide +kernel
theorem dX8_takenBy_71 : decode cX8_takenBy 71 = .ok (.getfield 67, 3) := by decide +kernel
theorem dX8_takenBy_74 : decode cX8_takenBy 74 = .ok (.aload_n 0, 1) := by decide +kernel
theorem dX8_takenBy_75 : decode cX8_takenBy 75 = .ok (.getfield 44, 3) := by decide +kernel
theorem dX8_takenBy_78 : decode cX8_takenBy 78 = .ok (.getfield 152, 3) := by decide +kernel
theorem dX8_takenBy_81 : decode cX8_takenBy 81 = .ok (.getfield 153, 3) := by decide +kernel
theorem dX8_takenBy_84 : decode cX8_takenBy 84 = .ok (.putfield 156, 3) := by decide +kernel
theorem dX8_takenBy_87 : decode cX8_takenBy 87 = .ok (.aload_n 0, 1) := by decide +kernel
theorem dX8_takenBy_88 : decode cX8_takenBy 88 = .ok (.getfield 67, 3) := by decide +kernel
theorem dX8_takenBy_91 : decode cX8_takenBy 91 = .ok (.iconst 0, 1) := by decide +kernel
theorem dX8_takenBy_92 : decode cX8_takenBy 92 = .ok (.aload_n 0, 1) := by decide +kernel
theorem dX8_takenBy_93 : decode cX8_takenBy 93 = .ok (.getfield 44, 3) := by decide +kernel
theorem dX8_takenBy_96 : decode cX8_takenBy 96 = .ok (.invokevirtual 157, 3) := by decide +kernel
theorem dX8_takenBy_99 : decode cX8_takenBy 99 = .ok (.aload_n 1, 1) := by decide +kernel
theorem dX8_takenBy_100 : decode cX8_takenBy 100 = .ok (.aload_n 0, 1) := by decide +kernel
theorem dX8_takenBy_101 : decode cX8_takenBy 101 = .ok (.getfield 67, 3) := by decide +kernel
theorem dX8_takenBy_104 : decode cX8_takenBy 104 = .ok (.invokevirtual 161, 3) := by decide +kernel
theorem dX8_takenBy_107 : decode cX8_takenBy 107 = .ok (.ireturn, 1) := by decide +kernel
theorem dX8_count_0 : decode cX8_count 0 = .ok (.aload_n 0, 1) := by decide +kernel
theorem dX8_count_1 : decode cX8_count 1 = .ok (.iload_n 1, 1) := by decide +kernel
theorem dX8_count_2 : decode cX8_count 2 = .ok (.invokevirtual 81, 3) := by decide +kernel
theorem dX8_count_5 : decode cX8_count 5 = .ok (.ifCond .ne 13, 3) := by decide +kernel
theorem dX8_count_8 : decode cX8_count 8 = .ok (.iload_n 2, 1) := by decide +kernel
theorem dX8_count_9 : decode cX8_count 9 = .ok (.ifCond .lt 9, 3) := by decide +kernel
theorem dX8_count_12 : decode cX8_count 12 = .ok (.iload_n 2, 1) := by decide +kernel
theorem dX8_count_13 : decode cX8_count 13 = .ok (.bipush 7, 2) := by decide +kernel
theorem dX8_count_15 : decode cX8_count 15 = .ok (.if_icmp .le 6, 3) := by decide +kernel
theorem dX8_count_18 : decode cX8_count 18 = .ok (.bipush (-2), 2) := by decide +kernel
theorem dX8_count_20 : decode cX8_count 20 = .ok (.ireturn, 1) := by decide +kernel
theorem dX8_count_21 : decode cX8_count 21 = .ok (.aload_n 0, 1) := by decide +kernel
theorem dX8_count_22 : decode cX8_count 22 = .ok (.getfield 11, 3) := by decide +kernel
theorem dX8_count_25 : decode cX8_count 25 = .ok (.iload_n 1, 1) := by decide +kernel
theorem dX8_count_26 : decode cX8_count 26 = .ok (.aaload, 1) := by decide +kernel
theorem dX8_count_27 : decode cX8_count 27 = .ok (.astore_n 3, 1) := by decide +kernel
theorem dX8_count_28 : decode cX8_count 28 = .ok (.iload_n 2, 1) := by decide +kernel
theorem dX8_count_29 : decode cX8_count 29 = .ok (.tableswitch 85 0 6 #[43, 48, 53, 58, 66, 71, 76], 43) := by decide +kernel
theorem dX8_count_72 : decode cX8_count 72 = .ok (.aload_n 3, 1) := by decide +kernel
theorem dX8_count_73 : decode cX8_count 73 = .ok (.getfield 145, 3) := by decide +kernel
theorem dX8_count_76 : decode cX8_count 76 = .ok (.ireturn, 1) := by decide +kernel
theorem dX8_count_77 : decode cX8_count 77 = .ok (.aload_n 3, 1) := by decide +kernel
theorem dX8_count_78 : decode cX8_count 78 = .ok (.invokevirtual 165, 3) := by decide +kernel
theorem dX8_count_81 : decode cX8_count 81 = .ok (.ireturn, 1) := by decide +kernel
theorem dX8_count_82 : decode cX8_count 82 = .ok (.aload_n 3, 1) := by decide +kernel
theorem dX8_count_83 : decode cX8_count 83 = .ok (.getfield 169, 3) := by decide +kernel
theorem dX8_count_86 : decode cX8_count 86 = .ok (.ireturn, 1) := by decide +kernel
theorem dX8_count_87 : decode cX8_count 87 = .ok (.aload_n 3, 1) := by decide +kernel
theorem dX8_count_88 : decode cX8_count 88 = .ok (.getfield 95, 3) := by decide +kernel
theorem dX8_count_91 : decode cX8_count 91 = .ok (.getfield 102, 3) := by decide +kernel
theorem dX8_count_94 : decode cX8_count 94 = .ok (.ireturn, 1) := by decide +kernel
theorem dX8_count_95 : decode cX8_count 95 = .ok (.aload_n 3, 1) := by decide +kernel
theorem dX8_count_96 : decode cX8_count 96 = .ok (.invokevirtual 170, 3) := by decide +kernel
theorem dX8_count_99 : decode cX8_count 99 = .ok (.ireturn, 1) := by decide +kernel
theorem dX8_count_100 : decode cX8_count 100 = .ok (.aload_n 3, 1) := by decide +kernel
theorem dX8_count_101 : decode cX8_count 101 = .ok (.invokevirtual 173, 3) := by decide +kernel
theorem dX8_count_104 : decode cX8_count 104 = .ok (.ireturn, 1) := by decide +kernel
theorem dX8_count_105 : decode cX8_count 105 = .ok (.aload_n 0, 1) := by decide +kernel
theorem dX8_count_106 : decode cX8_count 106 = .ok (.iload_n 1, 1) := by decide +kernel
theorem dX8_count_107 : decode cX8_count 107 = .ok (.invokevirtual 176, 3) := by decide +kernel
theorem dX8_count_110 : decode cX8_count 110 = .ok (.getfield 102, 3) := by decide +kernel
theorem dX8_count_113 : decode cX8_count 113 = .ok (.ireturn, 1) := by decide +kernel
theorem dX8_count_114 : decode cX8_count 114 = .ok (.aload_n 3, 1) := by decide +kernel
theorem dX8_count_115 : decode cX8_count 115 = .ok (.getfield 87, 3) := by decide +kernel
theorem dX8_count_118 : decode cX8_count 118 = .ok (.ireturn, 1) := by decide +kernel
theorem dX8_block_0 : decode cX8_block 0 = .ok (.aload_n 0, 1) := by decide +kernel
theorem dX8_block_1 : decode cX8_block 1 = .ok (.iload_n 1, 1) := by decide +kernel
theorem dX8_block_2 : decode cX8_block 2 = .ok (.iload_n 2, 1) := by decide +kernel
theorem dX8_block_3 : decode cX8_block 3 = .ok (.invokevirtual 122, 3) := by decide +kernel
theorem dX8_block_6 : decode cX8_block 6 = .ok (.astore 4, 2) := by decide +kernel
theorem dX8_block_8 : decode cX8_block 8 = .ok (.aload 4, 2) := by decide +kernel
theorem dX8_block_10 : decode cX8_block 10 = .ok (.ifnull 12, 3) := by decide +kernel
theorem dX8_block_13 : decode cX8_block 13 = .ok (.iload_n 3, 1) := by decide +kernel
theorem dX8_block_14 : decode cX8_block 14 = .ok (.ifCond .lt 8, 3) := by decide +kernel
theorem dX8_block_17 : decode cX8_block 17 = .ok (.iload_n 3, 1) := by decide +kernel
theorem dX8_block_18 : decode cX8_block 18 = .ok (.iconst 5, 1) := by decide +kernel
theorem dX8_block_19 : decode cX8_block 19 = .ok (.if_icmp .le 6, 3) := by decide +kernel
theorem dX8_block_22 : decode cX8_block 22 = .ok (.bipush (-2), 2) := by decide +kernel
theorem dX8_block_24 : decode cX8_block 24 = .ok (.ireturn, 1) := by decide +kernel
theorem dX8_block_25 : decode cX8_block 25 = .ok (.iload_n 3, 1) := by decide +kernel
theorem dX8_block_26 : decode cX8_block 26 = .ok (.iconst 3, 1) := by decide +kernel
theorem dX8_block_27 : decode cX8_block 27 = .ok (.if_icmp .ne 9, 3) := by decide +kernel
theorem dX8_block_30 : decode cX8_block 30 = .ok (.aload 4, 2) := by decide +kernel
theorem dX8_block_32 : decode cX8_block 32 = .ok (.getfield 121, 3) := by decide +kernel
theorem dX8_block_35 : decode cX8_block 35 = .ok (.ireturn, 1) := by decide +kernel
theorem dX8_block_36 : decode cX8_block 36 = .ok (.iload_n 3, 1) := by decide +kernel
theorem dX8_block_37 : decode cX8_block 37 = .ok (.iconst 5, 1) := by decide +kernel
theorem dX8_block_38 : decode cX8_block 38 = .ok (.if_icmp .ne 17, 3) := by decide +kernel
theorem dX8_block_41 : decode cX8_block 41 = .ok (.aload 4, 2) := by decide +kernel
theorem dX8_block_43 : decode cX8_block 43 = .ok (.getfield 133, 3) := by decide +kernel
theorem dX8_block_46 : decode cX8_block 46 = .ok (.ifCond .eq 7, 3) := by decide +kernel
theorem dX8_block_49 : decode cX8_block 49 = .ok (.iconst 1, 1) := by decide +kernel
theorem dX8_block_50 : decode cX8_block 50 = .ok (.goto 4, 3) := by decide +kernel
theorem dX8_block_53 : decode cX8_block 53 = .ok (.iconst 0, 1) := by decide +kernel
theorem dX8_block_54 : decode cX8_block 54 = .ok (.ireturn, 1) := by decide +kernel
theorem dX8_block_55 : decode cX8_block 55 = .ok (.aload 4, 2) := by decide +kernel
theorem dX8_block_57 : decode cX8_block 57 = .ok (.getfield 180, 3) := by decide +kernel
theorem dX8_block_60 : decode cX8_block 60 = .ok (.ifCond .eq 6, 3) := by decide +kernel
theorem dX8_block_63 : decode cX8_block 63 = .ok (.bipush (-6), 2) := by decide +kernel
theorem dX8_block_65 : decode cX8_block 65 = .ok (.ireturn, 1) := by decide +kernel
theorem dX8_block_66 : decode cX8_block 66 = .ok (.iload_n 3, 1) := by decide +kernel
theorem dX8_block_67 : decode cX8_block 67 = .ok (.tableswitch 43 0 2 #[25, 31, 37], 25) := by decide +kernel
theorem dX8_block_92 : decode cX8_block 92 = .ok (.aload 4, 2) := by decide +kernel
theorem dX8_block_94 : decode cX8_block 94 = .ok (.getfield 151, 3) := by decide +kernel
theorem dX8_block_97 : decode cX8_block 97 = .ok (.ireturn, 1) := by decide +kernel
theorem dX8_block_98 : decode cX8_block 98 = .ok (.aload 4, 2) := by decide +kernel
theorem dX8_block_100 : decode cX8_block 100 = .ok (.getfield 156, 3) := by decide +kernel
theorem dX8_block_103 : decode cX8_block 103 = .ok (.ireturn, 1) := by decide +kernel
theorem dX8_block_104 : decode cX8_block 104 = .ok (.aload 4, 2) := by decide +kernel
theorem dX8_block_106 : decode cX8_block 106 = .ok (.getfield 183, 3) := by decide +kernel
theorem dX8_block_109 : decode cX8_block 109 = .ok (.ireturn, 1) := by decide +kernel
theorem dX8_block_110 : decode cX8_block 110 = .ok (.aload 4, 2) := by decide +kernel
theorem dX8_block_112 : decode cX8_block 112 = .ok (.getfield 186, 3) := by decide +kernel
theorem dX8_block_115 : decode cX8_block 115 = .ok (.ireturn, 1) := by decide +kernel
theorem dX8_octet_0 : decode cX8_octet 0 = .ok (.aload_n 0, 1) := by decide +kernel
theorem dX8_octet_1 : decode cX8_octet 1 = .ok (.iload_n 1, 1) := by decide +kernel
theorem dX8_octet_2 : decode cX8_octet 2 = .ok (.iload_n 2, 1) := by decide +kernel
theorem dX8_octet_3 : decode cX8_octet 3 = .ok (.invokevirtual 122, 3) := by decide +kernel
theorem dX8_octet_6 : decode cX8_octet 6 = .ok (.astore 4, 2) := by decide +kernel
theorem dX8_octet_8 : decode cX8_octet 8 = .ok (.aload 4, 2) := by decide +kernel
theorem dX8_octet_10 : decode cX8_octet 10 = .ok (.ifnonnull 6, 3) := by decide +kernel
theorem dX8_octet_13 : decode cX8_octet 13 = .ok (.bipush (-2), 2) := by decide +kernel
theorem dX8_octet_15 : decode cX8_octet 15 = .ok (.ireturn, 1) := by decide +kernel
theorem dX8_octet_16 : decode cX8_octet 16 = .ok (.iload_n 3, 1) := by decide +kernel
theorem dX8_octet_17 : decode cX8_octet 17 = .ok (.ifCond .lt 12, 3) := by decide +kernel
theorem dX8_octet_20 : decode cX8_octet 20 = .ok (.iload_n 3, 1) := by decide +kernel
theorem dX8_octet_21 : decode cX8_octet 21 = .ok (.aload 4, 2) := by decide +kernel
theorem dX8_octet_23 : decode cX8_octet 23 = .ok (.getfield 121, 3) := by decide +kernel
theorem dX8_octet_26 : decode cX8_octet 26 = .ok (.if_icmp .lt 7, 3) := by decide +kernel
theorem dX8_octet_29 : decode cX8_octet 29 = .ok (.iconst (-1), 1) := by decide +kernel
theorem dX8_octet_30 : decode cX8_octet 30 = .ok (.goto 10, 3) := by decide +kernel
theorem dX8_octet_33 : decode cX8_octet 33 = .ok (.aload 4, 2) := by decide +kernel
theorem dX8_octet_35 : decode cX8_octet 35 = .ok (.getfield 189, 3) := by decide +kernel
theorem dX8_octet_38 : decode cX8_octet 38 = .ok (.iload_n 3, 1) := by decide +kernel
theorem dX8_octet_39 : decode cX8_octet 39 = .ok (.iaload, 1) := by decide +kernel
theorem dX8_octet_40 : decode cX8_octet 40 = .ok (.ireturn, 1) := by decide +kernel
theorem dX8_fault_0 : decode cX8_fault 0 = .ok (.aload_n 0, 1) := by decide +kernel
theorem dX8_fault_1 : decode cX8_fault 1 = .ok (.iload_n 1, 1) := by decide +kernel
theorem dX8_fault_2 : decode cX8_fault 2 = .ok (.iload_n 2, 1) := by decide +kernel
theorem dX8_fault_3 : decode cX8_fault 3 = .ok (.invokevirtual 122, 3) := by decide +kernel
theorem dX8_fault_6 : decode cX8_fault 6 = .ok (.astore 4, 2) := by decide +kernel
theorem dX8_fault_8 : decode cX8_fault 8 = .ok (.aload 4, 2) := by decide +kernel
theorem dX8_fault_10 : decode cX8_fault 10 = .ok (.ifnull 12, 3) := by decide +kernel
theorem dX8_fault_13 : decode cX8_fault 13 = .ok (.iload_n 3, 1) := by decide +kernel
theorem dX8_fault_14 : decode cX8_fault 14 = .ok (.ifCond .lt 8, 3) := by decide +kernel
theorem dX8_fault_17 : decode cX8_fault 17 = .ok (.iload_n 3, 1) := by decide +kernel
theorem dX8_fault_18 : decode cX8_fault 18 = .ok (.iconst 1, 1) := by decide +kernel
theorem dX8_fault_19 : decode cX8_fault 19 = .ok (.if_icmp .le 6, 3) := by decide +kernel
theorem dX8_fault_22 : decode cX8_fault 22 = .ok (.bipush (-2), 2) := by decide +kernel
theorem dX8_fault_24 : decode cX8_fault 24 = .ok (.ireturn, 1) := by decide +kernel
theorem dX8_fault_25 : decode cX8_fault 25 = .ok (.iload_n 3, 1) := by decide +kernel
theorem dX8_fault_26 : decode cX8_fault 26 = .ok (.ifCond .ne 11, 3) := by decide +kernel
theorem dX8_fault_29 : decode cX8_fault 29 = .ok (.aload 4, 2) := by decide +kernel
theorem dX8_fault_31 : decode cX8_fault 31 = .ok (.getfield 180, 3) := by decide +kernel
theorem dX8_fault_34 : decode cX8_fault 34 = .ok (.goto 8, 3) := by decide +kernel
theorem dX8_fault_37 : decode cX8_fault 37 = .ok (.aload 4, 2) := by decide +kernel
theorem dX8_fault_39 : decode cX8_fault 39 = .ok (.getfield 192, 3) := by decide +kernel
theorem dX8_fault_42 : decode cX8_fault 42 = .ok (.ireturn, 1) := by decide +kernel
theorem dX8_damage_0 : decode cX8_damage 0 = .ok (.aload_n 0, 1) := by decide +kernel
theorem dX8_damage_1 : decode cX8_damage 1 = .ok (.iload_n 1, 1) := by decide +kernel
theorem dX8_damage_2 : decode cX8_damage 2 = .ok (.iload_n 2, 1) := by decide +kernel
theorem dX8_damage_3 : decode cX8_damage 3 = .ok (.invokevirtual 122, 3) := by decide +kernel
theorem dX8_damage_6 : decode cX8_damage 6 = .ok (.astore 5, 2) := by decide +kernel
theorem dX8_damage_8 : decode cX8_damage 8 = .ok (.aload 5, 2) := by decide +kernel
theorem dX8_damage_10 : decode cX8_damage 10 = .ok (.ifnull 29, 3) := by decide +kernel
theorem dX8_damage_13 : decode cX8_damage 13 = .ok (.iload_n 3, 1) := by decide +kernel
theorem dX8_damage_14 : decode cX8_damage 14 = .ok (.ifCond .lt 25, 3) := by decide +kernel
theorem dX8_damage_17 : decode cX8_damage 17 = .ok (.iload_n 3, 1) := by decide +kernel
theorem dX8_damage_18 : decode cX8_damage 18 = .ok (.aload 5, 2) := by decide +kernel
theorem dX8_damage_20 : decode cX8_damage 20 = .ok (.getfield 121, 3) := by decide +kernel
theorem dX8_damage_23 : decode cX8_damage 23 = .ok (.if_icmp .ge 16, 3) := by decide +kernel
theorem dX8_damage_26 : decode cX8_damage 26 = .ok (.iload 4, 2) := by decide +kernel
theorem dX8_damage_28 : decode cX8_damage 28 = .ok (.ifCond .lt 11, 3) := by decide +kernel
theorem dX8_damage_31 : decode cX8_damage 31 = .ok (.iload 4, 2) := by decide +kernel
theorem dX8_damage_33 : decode cX8_damage 33 = .ok (.sipush 255, 3) := by decide +kernel
theorem dX8_damage_36 : decode cX8_damage 36 = .ok (.if_icmp .le 6, 3) := by decide +kernel
theorem dX8_damage_39 : decode cX8_damage 39 = .ok (.bipush (-2), 2) := by decide +kernel
theorem dX8_damage_41 : decode cX8_damage 41 = .ok (.ireturn, 1) := by decide +kernel
theorem dX8_damage_42 : decode cX8_damage 42 = .ok (.aload 5, 2) := by decide +kernel
theorem dX8_damage_44 : decode cX8_damage 44 = .ok (.getfield 133, 3) := by decide +kernel
theorem dX8_damage_47 : decode cX8_damage 47 = .ok (.ifCond .ne 6, 3) := by decide +kernel
theorem dX8_damage_50 : decode cX8_damage 50 = .ok (.bipush (-5), 2) := by decide +kernel
theorem dX8_damage_52 : decode cX8_damage 52 = .ok (.ireturn, 1) := by decide +kernel
theorem dX8_damage_53 : decode cX8_damage 53 = .ok (.aload 5, 2) := by decide +kernel
theorem dX8_damage_55 : decode cX8_damage 55 = .ok (.getfield 189, 3) := by decide +kernel
theorem dX8_damage_58 : decode cX8_damage 58 = .ok (.iload_n 3, 1) := by decide +kernel
theorem dX8_damage_59 : decode cX8_damage 59 = .ok (.iaload, 1) := by decide +kernel
theorem dX8_damage_60 : decode cX8_damage 60 = .ok (.istore 6, 2) := by decide +kernel
theorem dX8_damage_62 : decode cX8_damage 62 = .ok (.aload 5, 2) := by decide +kernel
theorem dX8_damage_64 : decode cX8_damage 64 = .ok (.getfield 189, 3) := by decide +kernel
theorem dX8_damage_67 : decode cX8_damage 67 = .ok (.iload_n 3, 1) := by decide +kernel
theorem dX8_damage_68 : decode cX8_damage 68 = .ok (.iload 4, 2) := by decide +kernel
theorem dX8_damage_70 : decode cX8_damage 70 = .ok (.iastore, 1) := by decide +kernel
theorem dX8_damage_71 : decode cX8_damage 71 = .ok (.aload 5, 2) := by decide +kernel
theorem dX8_damage_73 : decode cX8_damage 73 = .ok (.aload_n 0, 1) := by decide +kernel
theorem dX8_damage_74 : decode cX8_damage 74 = .ok (.getfield 44, 3) := by decide +kernel
theorem dX8_damage_77 : decode cX8_damage 77 = .ok (.aload 5, 2) := by decide +kernel
theorem dX8_damage_79 : decode cX8_damage 79 = .ok (.iconst 1, 1) := by decide +kernel
theorem dX8_damage_80 : decode cX8_damage 80 = .ok (.invokevirtual 141, 3) := by decide +kernel
theorem dX8_damage_83 : decode cX8_damage 83 = .ok (.aload_n 0, 1) := by decide +kernel
theorem dX8_damage_84 : decode cX8_damage 84 = .ok (.getfield 44, 3) := by decide +kernel
theorem dX8_damage_87 : decode cX8_damage 87 = .ok (.invokevirtual 157, 3) := by decide +kernel
theorem dX8_damage_90 : decode cX8_damage 90 = .ok (.iload 6, 2) := by decide +kernel
theorem dX8_damage_92 : decode cX8_damage 92 = .ok (.ireturn, 1) := by decide +kernel
theorem dX8_mends_0 : decode cX8_mends 0 = .ok (.aload_n 0, 1) := by decide +kernel
theorem dX8_mends_1 : decode cX8_mends 1 = .ok (.iload_n 1, 1) := by decide +kernel
theorem dX8_mends_2 : decode cX8_mends 2 = .ok (.iload_n 2, 1) := by decide +kernel
theorem dX8_mends_3 : decode cX8_mends 3 = .ok (.invokevirtual 122, 3) := by decide +kernel
theorem dX8_mends_6 : decode cX8_mends 6 = .ok (.astore_n 3, 1) := by decide +kernel
theorem dX8_mends_7 : decode cX8_mends 7 = .ok (.aload_n 3, 1) := by decide +kernel
theorem dX8_mends_8 : decode cX8_mends 8 = .ok (.ifnonnull 8, 3) := by decide +kernel
theorem dX8_mends_11 : decode cX8_mends 11 = .ok (.bipush (-2), 2) := by decide +kernel
theorem dX8_mends_13 : decode cX8_mends 13 = .ok (.goto 12, 3) := by decide +kernel
theorem dX8_mends_16 : decode cX8_mends 16 = .ok (.aload_n 0, 1) := by decide +kernel
theorem dX8_mends_17 : decode cX8_mends 17 = .ok (.getfield 60, 3) := by decide +kernel
theorem dX8_mends_20 : decode cX8_mends 20 = .ok (.aload_n 3, 1) := by decide +kernel
theorem dX8_mends_21 : decode cX8_mends 21 = .ok (.iconst (-1), 1) := by decide +kernel
theorem dX8_mends_22 : decode cX8_mends 22 = .ok (.invokevirtual 195, 3) := by decide +kernel
theorem dX8_mends_25 : decode cX8_mends 25 = .ok (.ireturn, 1) := by decide +kernel
theorem dX8_mend_0 : decode cX8_mend 0 = .ok (.aload_n 0, 1) := by decide +kernel
theorem dX8_mend_1 : decode cX8_mend 1 = .ok (.iload_n 1, 1) := by decide +kernel
theorem dX8_mend_2 : decode cX8_mend 2 = .ok (.iload_n 2, 1) := by decide +kernel
theorem dX8_mend_3 : decode cX8_mend 3 = .ok (.invokevirtual 122, 3) := by decide +kernel
theorem dX8_mend_6 : decode cX8_mend 6 = .ok (.astore 5, 2) := by decide +kernel
theorem dX8_mend_8 : decode cX8_mend 8 = .ok (.aload 5, 2) := by decide +kernel
theorem dX8_mend_10 : decode cX8_mend 10 = .ok (.ifnull 14, 3) := by decide +kernel
theorem dX8_mend_13 : decode cX8_mend 13 = .ok (.iload 4, 2) := by decide +kernel
theorem dX8_mend_15 : decode cX8_mend 15 = .ok (.ifCond .lt 9, 3) := by decide +kernel
theorem dX8_mend_18 : decode cX8_mend 18 = .ok (.iload 4, 2) := by decide +kernel
theorem dX8_mend_20 : decode cX8_mend 20 = .ok (.iconst 1, 1) := by decide +kernel
theorem dX8_mend_21 : decode cX8_mend 21 = .ok (.if_icmp .le 6, 3) := by decide +kernel
theorem dX8_mend_24 : decode cX8_mend 24 = .ok (.bipush (-2), 2) := by decide +kernel
theorem dX8_mend_26 : decode cX8_mend 26 = .ok (.ireturn, 1) := by decide +kernel
theorem dX8_mend_27 : decode cX8_mend 27 = .ok (.iload_n 3, 1) := by decide +kernel
theorem dX8_mend_28 : decode cX8_mend 28 = .ok (.ifCond .lt 17, 3) := by decide +kernel
theorem dX8_mend_31 : decode cX8_mend 31 = .ok (.aload_n 0, 1) := by decide +kernel
theorem dX8_mend_32 : decode cX8_mend 32 = .ok (.getfield 60, 3) := by decide +kernel
theorem dX8_mend_35 : decode cX8_mend 35 = .ok (.aload 5, 2) := by decide +kernel
theorem dX8_mend_37 : decode cX8_mend 37 = .ok (.iload_n 3, 1) := by decide +kernel
theorem dX8_mend_38 : decode cX8_mend 38 = .ok (.invokevirtual 195, 3) := by decide +kernel
theorem dX8_mend_41 : decode cX8_mend 41 = .ok (.iload_n 3, 1) := by decide +kernel
theorem dX8_mend_42 : decode cX8_mend 42 = .ok (.if_icmp .gt 5, 3) := by decide +kernel
theorem dX8_mend_45 : decode cX8_mend 45 = .ok (.iconst (-1), 1) := by decide +kernel
theorem dX8_mend_46 : decode cX8_mend 46 = .ok (.ireturn, 1) := by decide +kernel
theorem dX8_mend_47 : decode cX8_mend 47 = .ok (.iload 4, 2) := by decide +kernel
theorem dX8_mend_49 : decode cX8_mend 49 = .ok (.ifCond .ne 13, 3) := by decide +kernel
theorem dX8_mend_52 : decode cX8_mend 52 = .ok (.aload_n 0, 1) := by decide +kernel
theorem dX8_mend_53 : decode cX8_mend 53 = .ok (.getfield 60, 3) := by decide +kernel
theorem dX8_mend_56 : decode cX8_mend 56 = .ok (.getfield 199, 3) := by decide +kernel
theorem dX8_mend_59 : decode cX8_mend 59 = .ok (.goto 10, 3) := by decide +kernel
theorem dX8_mend_62 : decode cX8_mend 62 = .ok (.aload_n 0, 1) := by decide +kernel
theorem dX8_mend_63 : decode cX8_mend 63 = .ok (.getfield 60, 3) := by decide +kernel
theorem dX8_mend_66 : decode cX8_mend 66 = .ok (.getfield 202, 3) := by decide +kernel
theorem dX8_mend_69 : decode cX8_mend 69 = .ok (.ireturn, 1) := by decide +kernel
theorem dX8_ways_0 : decode cX8_ways 0 = .ok (.aload_n 0, 1) := by decide +kernel
theorem dX8_ways_1 : decode cX8_ways 1 = .ok (.iload_n 1, 1) := by decide +kernel
theorem dX8_ways_2 : decode cX8_ways 2 = .ok (.invokevirtual 81, 3) := by decide +kernel
theorem dX8_ways_5 : decode cX8_ways 5 = .ok (.ifCond .ne 13, 3) := by decide +kernel
theorem dX8_ways_8 : decode cX8_ways 8 = .ok (.iload_n 2, 1) := by decide +kernel
theorem dX8_ways_9 : decode cX8_ways 9 = .ok (.ifCond .lt 9, 3) := by decide +kernel
theorem dX8_ways_12 : decode cX8_ways 12 = .ok (.iload_n 2, 1) := by decide +kernel
theorem dX8_ways_13 : decode cX8_ways 13 = .ok (.bipush 7, 2) := by decide +kernel
theorem dX8_ways_15 : decode cX8_ways 15 = .ok (.if_icmp .le 6, 3) := by decide +kernel
theorem dX8_ways_18 : decode cX8_ways 18 = .ok (.bipush (-2), 2) := by decide +kernel
theorem dX8_ways_20 : decode cX8_ways 20 = .ok (.ireturn, 1) := by decide +kernel
theorem dX8_ways_21 : decode cX8_ways 21 = .ok (.aload_n 0, 1) := by decide +kernel
theorem dX8_ways_22 : decode cX8_ways 22 = .ok (.getfield 11, 3) := by decide +kernel
theorem dX8_ways_25 : decode cX8_ways 25 = .ok (.iload_n 1, 1) := by decide +kernel
theorem dX8_ways_26 : decode cX8_ways 26 = .ok (.aaload, 1) := by decide +kernel
theorem dX8_ways_27 : decode cX8_ways 27 = .ok (.astore_n 3, 1) := by decide +kernel
theorem dX8_ways_28 : decode cX8_ways 28 = .ok (.iconst 0, 1) := by decide +kernel
theorem dX8_ways_29 : decode cX8_ways 29 = .ok (.istore 4, 2) := by decide +kernel
theorem dX8_ways_31 : decode cX8_ways 31 = .ok (.iconst 0, 1) := by decide +kernel
theorem dX8_ways_32 : decode cX8_ways 32 = .ok (.istore 5, 2) := by decide +kernel
theorem dX8_ways_34 : decode cX8_ways 34 = .ok (.iload 5, 2) := by decide +kernel
theorem dX8_ways_36 : decode cX8_ways 36 = .ok (.aload_n 3, 1) := by decide +kernel
theorem dX8_ways_37 : decode cX8_ways 37 = .ok (.getfield 169, 3) := by decide +kernel
theorem dX8_ways_40 : decode cX8_ways 40 = .ok (.if_icmp .ge 41, 3) := by decide +kernel
theorem dX8_ways_43 : decode cX8_ways 43 = .ok (.aload_n 3, 1) := by decide +kernel
theorem dX8_ways_44 : decode cX8_ways 44 = .ok (.getfield 205, 3) := by decide +kernel
theorem dX8_ways_47 : decode cX8_ways 47 = .ok (.iload 5, 2) := by decide +kernel
theorem dX8_ways_49 : decode cX8_ways 49 = .ok (.aaload, 1) := by decide +kernel
theorem dX8_ways_50 : decode cX8_ways 50 = .ok (.astore 6, 2) := by decide +kernel
theorem dX8_ways_52 : decode cX8_ways 52 = .ok (.aload 6, 2) := by decide +kernel
theorem dX8_ways_54 : decode cX8_ways 54 = .ok (.getfield 180, 3) := by decide +kernel
theorem dX8_ways_57 : decode cX8_ways 57 = .ok (.ifCond .ne 18, 3) := by decide +kernel
theorem dX8_ways_60 : decode cX8_ways 60 = .ok (.iload 4, 2) := by decide +kernel
theorem dX8_ways_62 : decode cX8_ways 62 = .ok (.aload_n 0, 1) := by decide +kernel
theorem dX8_ways_63 : decode cX8_ways 63 = .ok (.getfield 44, 3) := by decide +kernel
theorem dX8_ways_66 : decode cX8_ways 66 = .ok (.aload 6, 2) := by decide +kernel
theorem dX8_ways_68 : decode cX8_ways 68 = .ok (.iload_n 2, 1) := by decide +kernel
theorem dX8_ways_69 : decode cX8_ways 69 = .ok (.invokevirtual 209, 3) := by decide +kernel
theorem dX8_ways_72 : decode cX8_ways 72 = .ok (.iadd, 1) := by decide +kernel
theorem dX8_ways_73 : decode cX8_ways 73 = .ok (.istore 4, 2) := by decide +kernel
theorem dX8_ways_75 : decode cX8_ways 75 = .ok (.iinc 5 1, 3) := by decide +kernel
theorem dX8_ways_78 : decode cX8_ways 78 = .ok (.goto (-44), 3) := by decide +kernel
theorem dX8_ways_81 : decode cX8_ways 81 = .ok (.iload 4, 2) := by decide +kernel
theorem dX8_ways_83 : decode cX8_ways 83 = .ok (.ireturn, 1) := by decide +kernel
theorem dX8_window_0 : decode cX8_window 0 = .ok (.aload_n 0, 1) := by decide +kernel
theorem dX8_window_1 : decode cX8_window 1 = .ok (.iload_n 1, 1) := by decide +kernel
theorem dX8_window_2 : decode cX8_window 2 = .ok (.invokevirtual 81, 3) := by decide +kernel
theorem dX8_window_5 : decode cX8_window 5 = .ok (.ifCond .ne 12, 3) := by decide +kernel
theorem dX8_window_8 : decode cX8_window 8 = .ok (.iload_n 2, 1) := by decide +kernel
theorem dX8_window_9 : decode cX8_window 9 = .ok (.ifCond .lt 8, 3) := by decide +kernel
theorem dX8_window_12 : decode cX8_window 12 = .ok (.iload_n 2, 1) := by decide +kernel
theorem dX8_window_13 : decode cX8_window 13 = .ok (.iconst 1, 1) := by decide +kernel
theorem dX8_window_14 : decode cX8_window 14 = .ok (.if_icmp .le 6, 3) := by decide +kernel
theorem dX8_window_17 : decode cX8_window 17 = .ok (.bipush (-2), 2) := by decide +kernel
theorem dX8_window_19 : decode cX8_window 19 = .ok (.ireturn, 1) := by decide +kernel
theorem dX8_window_20 : decode cX8_window 20 = .ok (.aload_n 0, 1) := by decide +kernel
theorem dX8_window_21 : decode cX8_window 21 = .ok (.getfield 11, 3) := by decide +kernel
theorem dX8_window_24 : decode cX8_window 24 = .ok (.iload_n 1, 1) := by decide +kernel
theorem dX8_window_25 : decode cX8_window 25 = .ok (.aaload, 1) := by decide +kernel
theorem dX8_window_26 : decode cX8_window 26 = .ok (.astore_n 3, 1) := by decide +kernel
theorem dX8_window_27 : decode cX8_window 27 = .ok (.aload_n 3, 1) := by decide +kernel
theorem dX8_window_28 : decode cX8_window 28 = .ok (.invokevirtual 114, 3) := by decide +kernel
theorem dX8_window_31 : decode cX8_window 31 = .ok (.ifnull 14, 3) := by decide +kernel
theorem dX8_window_34 : decode cX8_window 34 = .ok (.aload_n 3, 1) := by decide +kernel
theorem dX8_window_35 : decode cX8_window 35 = .ok (.getfield 108, 3) := by decide +kernel
theorem dX8_window_38 : decode cX8_window 38 = .ok (.getfield 212, 3) := by decide +kernel
theorem dX8_window_41 : decode cX8_window 41 = .ok (.iconst (-1), 1) := by decide +kernel
theorem dX8_window_42 : decode cX8_window 42 = .ok (.if_icmp .ne 5, 3) := by decide +kernel
theorem dX8_window_45 : decode cX8_window 45 = .ok (.iconst (-1), 1) := by decide +kernel
theorem dX8_window_46 : decode cX8_window 46 = .ok (.ireturn, 1) := by decide +kernel
theorem dX8_window_47 : decode cX8_window 47 = .ok (.iload_n 2, 1) := by decide +kernel
theorem dX8_window_48 : decode cX8_window 48 = .ok (.ifCond .ne 13, 3) := by decide +kernel
theorem dX8_window_51 : decode cX8_window 51 = .ok (.aload_n 3, 1) := by decide +kernel
theorem dX8_window_52 : decode cX8_window 52 = .ok (.getfield 108, 3) := by decide +kernel
theorem dX8_window_55 : decode cX8_window 55 = .ok (.getfield 212, 3) := by decide +kernel
theorem dX8_window_58 : decode cX8_window 58 = .ok (.goto 10, 3) := by decide +kernel
theorem dX8_window_61 : decode cX8_window 61 = .ok (.aload_n 3, 1) := by decide +kernel
theorem dX8_window_62 : decode cX8_window 62 = .ok (.getfield 108, 3) := by decide +kernel
theorem dX8_window_65 : decode cX8_window 65 = .ok (.getfield 215, 3) := by decide +kernel
theorem dX8_window_68 : decode cX8_window 68 = .ok (.ireturn, 1) := by decide +kernel
theorem dX8_dearest_0 : decode cX8_dearest 0 = .ok (.aload_n 0, 1) := by decide +kernel
theorem dX8_dearest_1 : decode cX8_dearest 1 = .ok (.iload_n 1, 1) := by decide +kernel
theorem dX8_dearest_2 : decode cX8_dearest 2 = .ok (.invokevirtual 81, 3) := by decide +kernel
theorem dX8_dearest_5 : decode cX8_dearest 5 = .ok (.ifCond .ne 12, 3) := by decide +kernel
theorem dX8_dearest_8 : decode cX8_dearest 8 = .ok (.iload_n 2, 1) := by decide +kernel
theorem dX8_dearest_9 : decode cX8_dearest 9 = .ok (.ifCond .lt 8, 3) := by decide +kernel
theorem dX8_dearest_12 : decode cX8_dearest 12 = .ok (.iload_n 2, 1) := by decide +kernel
theorem dX8_dearest_13 : decode cX8_dearest 13 = .ok (.iconst 1, 1) := by decide +kernel
theorem dX8_dearest_14 : decode cX8_dearest 14 = .ok (.if_icmp .le 6, 3) := by decide +kernel
theorem dX8_dearest_17 : decode cX8_dearest 17 = .ok (.bipush (-2), 2) := by decide +kernel
theorem dX8_dearest_19 : decode cX8_dearest 19 = .ok (.ireturn, 1) := by decide +kernel
theorem dX8_dearest_20 : decode cX8_dearest 20 = .ok (.aload_n 0, 1) := by decide +kernel
theorem dX8_dearest_21 : decode cX8_dearest 21 = .ok (.getfield 11, 3) := by decide +kernel
theorem dX8_dearest_24 : decode cX8_dearest 24 = .ok (.iload_n 1, 1) := by decide +kernel
theorem dX8_dearest_25 : decode cX8_dearest 25 = .ok (.aaload, 1) := by decide +kernel
theorem dX8_dearest_26 : decode cX8_dearest 26 = .ok (.astore_n 3, 1) := by decide +kernel
theorem dX8_dearest_27 : decode cX8_dearest 27 = .ok (.iconst 0, 1) := by decide +kernel
theorem dX8_dearest_28 : decode cX8_dearest 28 = .ok (.istore 4, 2) := by decide +kernel
theorem dX8_dearest_30 : decode cX8_dearest 30 = .ok (.iconst (-1), 1) := by decide +kernel
theorem dX8_dearest_31 : decode cX8_dearest 31 = .ok (.istore 5, 2) := by decide +kernel
theorem dX8_dearest_33 : decode cX8_dearest 33 = .ok (.iconst 0, 1) := by decide +kernel
theorem dX8_dearest_34 : decode cX8_dearest 34 = .ok (.istore 6, 2) := by decide +kernel
theorem dX8_dearest_36 : decode cX8_dearest 36 = .ok (.iload 6, 2) := by decide +kernel
theorem dX8_dearest_38 : decode cX8_dearest 38 = .ok (.aload_n 3, 1) := by decide +kernel
theorem dX8_dearest_39 : decode cX8_dearest 39 = .ok (.getfield 169, 3) := by decide +kernel
theorem dX8_dearest_42 : decode cX8_dearest 42 = .ok (.if_icmp .ge 58, 3) := by decide +kernel
theorem dX8_dearest_45 : decode cX8_dearest 45 = .ok (.aload_n 3, 1) := by decide +kernel
theorem dX8_dearest_46 : decode cX8_dearest 46 = .ok (.getfield 205, 3) := by decide +kernel
theorem dX8_dearest_49 : decode cX8_dearest 49 = .ok (.iload 6, 2) := by decide +kernel
theorem dX8_dearest_51 : decode cX8_dearest 51 = .ok (.aaload, 1) := by decide +kernel
theorem dX8_dearest_52 : decode cX8_dearest 52 = .ok (.astore 7, 2) := by decide +kernel
theorem dX8_dearest_54 : decode cX8_dearest 54 = .ok (.aload 7, 2) := by decide +kernel
theorem dX8_dearest_56 : decode cX8_dearest 56 = .ok (.getfield 180, 3) := by decide +kernel
theorem dX8_dearest_59 : decode cX8_dearest 59 = .ok (.ifCond .ne 35, 3) := by decide +kernel
theorem dX8_dearest_62 : decode cX8_dearest 62 = .ok (.aload_n 0, 1) := by decide +kernel
theorem dX8_dearest_63 : decode cX8_dearest 63 = .ok (.getfield 44, 3) := by decide +kernel
theorem dX8_dearest_66 : decode cX8_dearest 66 = .ok (.aload 7, 2) := by decide +kernel
theorem dX8_dearest_68 : decode cX8_dearest 68 = .ok (.iload 4, 2) := by decide +kernel
theorem dX8_dearest_70 : decode cX8_dearest 70 = .ok (.invokevirtual 218, 3) := by decide +kernel
theorem dX8_dearest_73 : decode cX8_dearest 73 = .ok (.ifCond .eq 21, 3) := by decide +kernel
theorem dX8_dearest_76 : decode cX8_dearest 76 = .ok (.aload_n 0, 1) := by decide +kernel
theorem dX8_dearest_77 : decode cX8_dearest 77 = .ok (.getfield 44, 3) := by decide +kernel
theorem dX8_dearest_80 : decode cX8_dearest 80 = .ok (.getfield 222, 3) := by decide +kernel
theorem dX8_dearest_83 : decode cX8_dearest 83 = .ok (.istore 4, 2) := by decide +kernel
theorem dX8_dearest_85 : decode cX8_dearest 85 = .ok (.aload_n 0, 1) := by decide +kernel
theorem dX8_dearest_86 : decode cX8_dearest 86 = .ok (.getfield 44, 3) := by decide +kernel
theorem dX8_dearest_89 : decode cX8_dearest 89 = .ok (.getfield 225, 3) := by decide +kernel
theorem dX8_dearest_92 : decode cX8_dearest 92 = .ok (.istore 5, 2) := by decide +kernel
theorem dX8_dearest_94 : decode cX8_dearest 94 = .ok (.iinc 6 1, 3) := by decide +kernel
theorem dX8_dearest_97 : decode cX8_dearest 97 = .ok (.goto (-61), 3) := by decide +kernel
theorem dX8_dearest_100 : decode cX8_dearest 100 = .ok (.iload_n 2, 1) := by decide +kernel
theorem dX8_dearest_101 : decode cX8_dearest 101 = .ok (.ifCond .eq 9, 3) := by decide +kernel
theorem dX8_dearest_104 : decode cX8_dearest 104 = .ok (.iload 5, 2) := by decide +kernel
theorem dX8_dearest_106 : decode cX8_dearest 106 = .ok (.iconst (-1), 1) := by decide +kernel
theorem dX8_dearest_107 : decode cX8_dearest 107 = .ok (.if_icmp .ne 8, 3) := by decide +kernel
theorem dX8_dearest_110 : decode cX8_dearest 110 = .ok (.iload 5, 2) := by decide +kernel
theorem dX8_dearest_112 : decode cX8_dearest 112 = .ok (.goto 5, 3) := by decide +kernel
theorem dX8_dearest_115 : decode cX8_dearest 115 = .ok (.iload 4, 2) := by decide +kernel
theorem dX8_dearest_117 : decode cX8_dearest 117 = .ok (.ireturn, 1) := by decide +kernel
theorem dX8_has_0 : decode cX8_has 0 = .ok (.aload_n 0, 1) := by decide +kernel
theorem dX8_has_1 : decode cX8_has 1 = .ok (.iload_n 1, 1) := by decide +kernel
theorem dX8_has_2 : decode cX8_has 2 = .ok (.invokevirtual 81, 3) := by decide +kernel
theorem dX8_has_5 : decode cX8_has 5 = .ok (.ifCond .ne 10, 3) := by decide +kernel
theorem dX8_has_8 : decode cX8_has 8 = .ok (.iload_n 2, 1) := by decide +kernel
theorem dX8_has_9 : decode cX8_has 9 = .ok (.invokestatic 84, 3) := by decide +kernel
theorem dX8_has_12 : decode cX8_has 12 = .ok (.ifCond .ne 6, 3) := by decide +kernel
theorem dX8_has_15 : decode cX8_has 15 = .ok (.bipush (-2), 2) := by decide +kernel
theorem dX8_has_17 : decode cX8_has 17 = .ok (.ireturn, 1) := by decide +kernel
theorem dX8_has_18 : decode cX8_has 18 = .ok (.aload_n 0, 1) := by decide +kernel
theorem dX8_has_19 : decode cX8_has 19 = .ok (.getfield 11, 3) := by decide +kernel
theorem dX8_has_22 : decode cX8_has 22 = .ok (.iload_n 1, 1) := by decide +kernel
theorem dX8_has_23 : decode cX8_has 23 = .ok (.aaload, 1) := by decide +kernel
theorem dX8_has_24 : decode cX8_has 24 = .ok (.iload_n 2, 1) := by decide +kernel
theorem dX8_has_25 : decode cX8_has 25 = .ok (.iload_n 2, 1) := by decide +kernel
theorem dX8_has_26 : decode cX8_has 26 = .ok (.aload_n 0, 1) := by decide +kernel
theorem dX8_has_27 : decode cX8_has 27 = .ok (.getfield 44, 3) := by decide +kernel
theorem dX8_has_30 : decode cX8_has 30 = .ok (.aload_n 0, 1) := by decide +kernel
theorem dX8_has_31 : decode cX8_has 31 = .ok (.getfield 25, 3) := by decide +kernel
theorem dX8_has_34 : decode cX8_has 34 = .ok (.invokevirtual 228, 3) := by decide +kernel
theorem dX8_has_37 : decode cX8_has 37 = .ok (.aload_n 0, 1) := by decide +kernel
theorem dX8_has_38 : decode cX8_has 38 = .ok (.getfield 25, 3) := by decide +kernel
theorem dX8_has_41 : decode cX8_has 41 = .ok (.getfield 102, 3) := by decide +kernel
theorem dX8_has_44 : decode cX8_has 44 = .ok (.ifCond .le 7, 3) := by decide +kernel
theorem dX8_has_47 : decode cX8_has 47 = .ok (.iconst 1, 1) := by decide +kernel
theorem dX8_has_48 : decode cX8_has 48 = .ok (.goto 4, 3) := by decide +kernel
theorem dX8_has_51 : decode cX8_has 51 = .ok (.iconst 0, 1) := by decide +kernel
theorem dX8_has_52 : decode cX8_has 52 = .ok (.ireturn, 1) := by decide +kernel
theorem dX8_at_0 : decode cX8_at 0 = .ok (.aload_n 0, 1) := by decide +kernel
theorem dX8_at_1 : decode cX8_at 1 = .ok (.iload_n 1, 1) := by decide +kernel
theorem dX8_at_2 : decode cX8_at 2 = .ok (.invokevirtual 81, 3) := by decide +kernel
theorem dX8_at_5 : decode cX8_at 5 = .ok (.ifCond .ne 10, 3) := by decide +kernel
theorem dX8_at_8 : decode cX8_at 8 = .ok (.iload_n 2, 1) := by decide +kernel
theorem dX8_at_9 : decode cX8_at 9 = .ok (.invokestatic 84, 3) := by decide +kernel
theorem dX8_at_12 : decode cX8_at 12 = .ok (.ifCond .ne 5, 3) := by decide +kernel
theorem dX8_at_15 : decode cX8_at 15 = .ok (.lconst 0, 1) := by decide +kernel
theorem dX8_at_16 : decode cX8_at 16 = .ok (.lreturn, 1) := by decide +kernel
theorem dX8_at_17 : decode cX8_at 17 = .ok (.aload_n 0, 1) := by decide +kernel
theorem dX8_at_18 : decode cX8_at 18 = .ok (.getfield 11, 3) := by decide +kernel
theorem dX8_at_21 : decode cX8_at 21 = .ok (.iload_n 1, 1) := by decide +kernel
theorem dX8_at_22 : decode cX8_at 22 = .ok (.aaload, 1) := by decide +kernel
theorem dX8_at_23 : decode cX8_at 23 = .ok (.iload_n 2, 1) := by decide +kernel
theorem dX8_at_24 : decode cX8_at 24 = .ok (.iload_n 2, 1) := by decide +kernel
theorem dX8_at_25 : decode cX8_at 25 = .ok (.aload_n 0, 1) := by decide +kernel
theorem dX8_at_26 : decode cX8_at 26 = .ok (.getfield 44, 3) := by decide +kernel
theorem dX8_at_29 : decode cX8_at 29 = .ok (.aload_n 0, 1) := by decide +kernel
theorem dX8_at_30 : decode cX8_at 30 = .ok (.getfield 25, 3) := by decide +kernel
theorem dX8_at_33 : decode cX8_at 33 = .ok (.invokevirtual 228, 3) := by decide +kernel
theorem dX8_at_36 : decode cX8_at 36 = .ok (.aload_n 0, 1) := by decide +kernel
theorem dX8_at_37 : decode cX8_at 37 = .ok (.getfield 25, 3) := by decide +kernel
theorem dX8_at_40 : decode cX8_at 40 = .ok (.getfield 102, 3) := by decide +kernel
theorem dX8_at_43 : decode cX8_at 43 = .ok (.ifCond .le 15, 3) := by decide +kernel
theorem dX8_at_46 : decode cX8_at 46 = .ok (.aload_n 0, 1) := by decide +kernel
theorem dX8_at_47 : decode cX8_at 47 = .ok (.getfield 25, 3) := by decide +kernel
theorem dX8_at_50 : decode cX8_at 50 = .ok (.getfield 232, 3) := by decide +kernel
theorem dX8_at_53 : decode cX8_at 53 = .ok (.iconst 0, 1) := by decide +kernel
theorem dX8_at_54 : decode cX8_at 54 = .ok (.laload, 1) := by decide +kernel
theorem dX8_at_55 : decode cX8_at 55 = .ok (.goto 4, 3) := by decide +kernel
theorem dX8_at_58 : decode cX8_at 58 = .ok (.lconst 0, 1) := by decide +kernel
theorem dX8_at_59 : decode cX8_at 59 = .ok (.lreturn, 1) := by decide +kernel
theorem dX8_nearest_0 : decode cX8_nearest 0 = .ok (.aload_n 0, 1) := by decide +kernel
theorem dX8_nearest_1 : decode cX8_nearest 1 = .ok (.iload_n 1, 1) := by decide +kernel
theorem dX8_nearest_2 : decode cX8_nearest 2 = .ok (.invokevirtual 81, 3) := by decide +kernel
theorem dX8_nearest_5 : decode cX8_nearest 5 = .ok (.ifCond .ne 10, 3) := by decide +kernel
theorem dX8_nearest_8 : decode cX8_nearest 8 = .ok (.iload_n 2, 1) := by decide +kernel
theorem dX8_nearest_9 : decode cX8_nearest 9 = .ok (.invokestatic 84, 3) := by decide +kernel
theorem dX8_nearest_12 : decode cX8_nearest 12 = .ok (.ifCond .ne 6, 3) := by decide +kernel
theorem dX8_nearest_15 : decode cX8_nearest 15 = .ok (.bipush (-2), 2) := by decide +kernel
theorem dX8_nearest_17 : decode cX8_nearest 17 = .ok (.ireturn, 1) := by decide +kernel
theorem dX8_nearest_18 : decode cX8_nearest 18 = .ok (.aload_n 0, 1) := by decide +kernel
theorem dX8_nearest_19 : decode cX8_nearest 19 = .ok (.iload_n 1, 1) := by decide +kernel
theorem dX8_nearest_20 : decode cX8_nearest 20 = .ok (.invokevirtual 176, 3) := by decide +kernel
theorem dX8_nearest_23 : decode cX8_nearest 23 = .ok (.iload_n 2, 1) := by decide +kernel
theorem dX8_nearest_24 : decode cX8_nearest 24 = .ok (.invokevirtual 235, 3) := by decide +kernel
theorem dX8_nearest_27 : decode cX8_nearest 27 = .ok (.ireturn, 1) := by decide +kernel
theorem dX8_point_0 : decode cX8_point 0 = .ok (.aload_n 0, 1) := by decide +kernel
theorem dX8_point_1 : decode cX8_point 1 = .ok (.iload_n 1, 1) := by decide +kernel
theorem dX8_point_2 : decode cX8_point 2 = .ok (.invokevirtual 81, 3) := by decide +kernel
theorem dX8_point_5 : decode cX8_point 5 = .ok (.ifCond .ne 16, 3) := by decide +kernel
theorem dX8_point_8 : decode cX8_point 8 = .ok (.iload_n 3, 1) := by decide +kernel
theorem dX8_point_9 : decode cX8_point 9 = .ok (.ifCond .lt 12, 3) := by decide +kernel
theorem dX8_point_12 : decode cX8_point 12 = .ok (.iload_n 3, 1) := by decide +kernel
theorem dX8_point_13 : decode cX8_point 13 = .ok (.iconst 1, 1) := by decide +kernel
theorem dX8_point_14 : decode cX8_point 14 = .ok (.if_icmp .gt 7, 3) := by decide +kernel
theorem dX8_point_17 : decode cX8_point 17 = .ok (.iload_n 2, 1) := by decide +kernel
theorem dX8_point_18 : decode cX8_point 18 = .ok (.ifCond .ge 7, 3) := by decide +kernel
theorem dX8_point_21 : decode cX8_point 21 = .ok (.ldc2_w 238, 3) := by decide +kernel
theorem dX8_point_24 : decode cX8_point 24 = .ok (.lreturn, 1) := by decide +kernel
theorem dX8_point_25 : decode cX8_point 25 = .ok (.aload_n 0, 1) := by decide +kernel
theorem dX8_point_26 : decode cX8_point 26 = .ok (.iload_n 1, 1) := by decide +kernel
theorem dX8_point_27 : decode cX8_point 27 = .ok (.invokevirtual 176, 3) := by decide +kernel
theorem dX8_point_30 : decode cX8_point 30 = .ok (.astore 4, 2) := by decide +kernel
theorem dX8_point_32 : decode cX8_point 32 = .ok (.iload_n 2, 1) := by decide +kernel
theorem dX8_point_33 : decode cX8_point 33 = .ok (.aload 4, 2) := by decide +kernel
theorem dX8_point_35 : decode cX8_point 35 = .ok (.getfield 102, 3) := by decide +kernel
theorem dX8_point_38 : decode cX8_point 38 = .ok (.if_icmp .lt 7, 3) := by decide +kernel
theorem dX8_point_41 : decode cX8_point 41 = .ok (.ldc2_w 238, 3) := by decide +kernel
theorem dX8_point_44 : decode cX8_point 44 = .ok (.lreturn, 1) := by decide +kernel
theorem dX8_point_45 : decode cX8_point 45 = .ok (.iload_n 3, 1) := by decide +kernel
theorem dX8_point_46 : decode cX8_point 46 = .ok (.ifCond .ne 14, 3) := by decide +kernel
theorem dX8_point_49 : decode cX8_point 49 = .ok (.aload 4, 2) := by decide +kernel
theorem dX8_point_51 : decode cX8_point 51 = .ok (.getfield 240, 3) := by decide +kernel
theorem dX8_point_54 : decode cX8_point 54 = .ok (.iload_n 2, 1) := by decide +kernel
theorem dX8_point_55 : decode cX8_point 55 = .ok (.iaload, 1) := by decide +kernel
theorem dX8_point_56 : decode cX8_point 56 = .ok (.i2l, 1) := by decide +kernel
theorem dX8_point_57 : decode cX8_point 57 = .ok (.goto 10, 3) := by decide +kernel
theorem dX8_point_60 : decode cX8_point 60 = .ok (.aload 4, 2) := by decide +kernel
theorem dX8_point_62 : decode cX8_point 62 = .ok (.getfield 232, 3) := by decide +kernel
theorem dX8_point_65 : decode cX8_point 65 = .ok (.iload_n 2, 1) := by decide +kernel
theorem dX8_point_66 : decode cX8_point 66 = .ok (.laload, 1) := by decide +kernel
theorem dX8_point_67 : decode cX8_point 67 = .ok (.lreturn, 1) := by decide +kernel
theorem dX8_where_0 : decode cX8_where 0 = .ok (.aload_n 0, 1) := by decide +kernel
theorem dX8_where_1 : decode cX8_where 1 = .ok (.iload_n 1, 1) := by decide +kernel
theorem dX8_where_2 : decode cX8_where 2 = .ok (.invokevirtual 81, 3) := by decide +kernel
theorem dX8_where_5 : decode cX8_where 5 = .ok (.ifCond .ne 10, 3) := by decide +kernel
theorem dX8_where_8 : decode cX8_where 8 = .ok (.iload_n 2, 1) := by decide +kernel
theorem dX8_where_9 : decode cX8_where 9 = .ok (.invokestatic 84, 3) := by decide +kernel
theorem dX8_where_12 : decode cX8_where 12 = .ok (.ifCond .ne 6, 3) := by decide +kernel
theorem dX8_where_15 : decode cX8_where 15 = .ok (.bipush (-2), 2) := by decide +kernel
theorem dX8_where_17 : decode cX8_where 17 = .ok (.ireturn, 1) := by decide +kernel
theorem dX8_where_18 : decode cX8_where 18 = .ok (.aload_n 0, 1) := by decide +kernel
theorem dX8_where_19 : decode cX8_where 19 = .ok (.getfield 11, 3) := by decide +kernel
theorem dX8_where_22 : decode cX8_where 22 = .ok (.iload_n 1, 1) := by decide +kernel
theorem dX8_where_23 : decode cX8_where 23 = .ok (.aaload, 1) := by decide +kernel
theorem dX8_where_24 : decode cX8_where 24 = .ok (.astore_n 3, 1) := by decide +kernel
theorem dX8_where_25 : decode cX8_where 25 = .ok (.aload_n 3, 1) := by decide +kernel
theorem dX8_where_26 : decode cX8_where 26 = .ok (.getfield 95, 3) := by decide +kernel
theorem dX8_where_29 : decode cX8_where 29 = .ok (.iload_n 2, 1) := by decide +kernel
theorem dX8_where_30 : decode cX8_where 30 = .ok (.invokevirtual 243, 3) := by decide +kernel
theorem dX8_where_33 : decode cX8_where 33 = .ok (.ifCond .eq 5, 3) := by decide +kernel
theorem dX8_where_36 : decode cX8_where 36 = .ok (.iconst (-1), 1) := by decide +kernel
theorem dX8_where_37 : decode cX8_where 37 = .ok (.ireturn, 1) := by decide +kernel
theorem dX8_where_38 : decode cX8_where 38 = .ok (.iconst 0, 1) := by decide +kernel
theorem dX8_where_39 : decode cX8_where 39 = .ok (.istore 4, 2) := by decide +kernel
theorem dX8_where_41 : decode cX8_where 41 = .ok (.iload 4, 2) := by decide +kernel
theorem dX8_where_43 : decode cX8_where 43 = .ok (.aload_n 3, 1) := by decide +kernel
theorem dX8_where_44 : decode cX8_where 44 = .ok (.getfield 169, 3) := by decide +kernel
theorem dX8_where_47 : decode cX8_where 47 = .ok (.if_icmp .ge 55, 3) := by decide +kernel
theorem dX8_where_50 : decode cX8_where 50 = .ok (.aload_n 3, 1) := by decide +kernel
theorem dX8_where_51 : decode cX8_where 51 = .ok (.getfield 205, 3) := by decide +kernel
theorem dX8_where_54 : decode cX8_where 54 = .ok (.iload 4, 2) := by decide +kernel
theorem dX8_where_56 : decode cX8_where 56 = .ok (.aaload, 1) := by decide +kernel
theorem dX8_where_57 : decode cX8_where 57 = .ok (.iload_n 2, 1) := by decide +kernel
theorem dX8_where_58 : decode cX8_where 58 = .ok (.iload_n 2, 1) := by decide +kernel
theorem dX8_where_59 : decode cX8_where 59 = .ok (.invokevirtual 246, 3) := by decide +kernel
theorem dX8_where_62 : decode cX8_where 62 = .ok (.ifCond .eq 34, 3) := by decide +kernel
theorem dX8_where_65 : decode cX8_where 65 = .ok (.aload_n 3, 1) := by decide +kernel
theorem dX8_where_66 : decode cX8_where 66 = .ok (.iload_n 2, 1) := by decide +kernel
theorem dX8_where_67 : decode cX8_where 67 = .ok (.iload_n 2, 1) := by decide +kernel
theorem dX8_where_68 : decode cX8_where 68 = .ok (.aload_n 0, 1) := by decide +kernel
theorem dX8_where_69 : decode cX8_where 69 = .ok (.getfield 44, 3) := by decide +kernel
theorem dX8_where_72 : decode cX8_where 72 = .ok (.aload_n 0, 1) := by decide +kernel
theorem dX8_where_73 : decode cX8_where 73 = .ok (.getfield 25, 3) := by decide +kernel
theorem dX8_where_76 : decode cX8_where 76 = .ok (.invokevirtual 228, 3) := by decide +kernel
theorem dX8_where_79 : decode cX8_where 79 = .ok (.aload_n 0, 1) := by decide +kernel
theorem dX8_where_80 : decode cX8_where 80 = .ok (.getfield 25, 3) := by decide +kernel
theorem dX8_where_83 : decode cX8_where 83 = .ok (.getfield 102, 3) := by decide +kernel
theorem dX8_where_86 : decode cX8_where 86 = .ok (.ifCond .le 8, 3) := by decide +kernel
theorem dX8_where_89 : decode cX8_where 89 = .ok (.iload 4, 2) := by decide +kernel
theorem dX8_where_91 : decode cX8_where 91 = .ok (.goto 4, 3) := by decide +kernel
theorem dX8_where_94 : decode cX8_where 94 = .ok (.iconst (-1), 1) := by decide +kernel
theorem dX8_where_95 : decode cX8_where 95 = .ok (.ireturn, 1) := by decide +kernel
theorem dX8_where_96 : decode cX8_where 96 = .ok (.iinc 4 1, 3) := by decide +kernel
theorem dX8_where_99 : decode cX8_where 99 = .ok (.goto (-58), 3) := by decide +kernel
theorem dX8_where_102 : decode cX8_where 102 = .ok (.iconst (-1), 1) := by decide +kernel
theorem dX8_where_103 : decode cX8_where 103 = .ok (.ireturn, 1) := by decide +kernel
theorem dX8_since_0 : decode cX8_since 0 = .ok (.aload_n 0, 1) := by decide +kernel
theorem dX8_since_1 : decode cX8_since 1 = .ok (.iload_n 1, 1) := by decide +kernel
theorem dX8_since_2 : decode cX8_since 2 = .ok (.invokevirtual 81, 3) := by decide +kernel
theorem dX8_since_5 : decode cX8_since 5 = .ok (.ifCond .ne 10, 3) := by decide +kernel
theorem dX8_since_8 : decode cX8_since 8 = .ok (.iload_n 2, 1) := by decide +kernel
theorem dX8_since_9 : decode cX8_since 9 = .ok (.invokestatic 84, 3) := by decide +kernel
theorem dX8_since_12 : decode cX8_since 12 = .ok (.ifCond .ne 6, 3) := by decide +kernel
theorem dX8_since_15 : decode cX8_since 15 = .ok (.bipush (-2), 2) := by decide +kernel
theorem dX8_since_17 : decode cX8_since 17 = .ok (.ireturn, 1) := by decide +kernel
theorem dX8_since_18 : decode cX8_since 18 = .ok (.aload_n 0, 1) := by decide +kernel
theorem dX8_since_19 : decode cX8_since 19 = .ok (.getfield 11, 3) := by decide +kernel
theorem dX8_since_22 : decode cX8_since 22 = .ok (.iload_n 1, 1) := by decide +kernel
theorem dX8_since_23 : decode cX8_since 23 = .ok (.aaload, 1) := by decide +kernel
theorem dX8_since_24 : decode cX8_since 24 = .ok (.iconst 0, 1) := by decide +kernel
theorem dX8_since_25 : decode cX8_since 25 = .ok (.iload_n 2, 1) := by decide +kernel
theorem dX8_since_26 : decode cX8_since 26 = .ok (.aload_n 0, 1) := by decide +kernel
theorem dX8_since_27 : decode cX8_since 27 = .ok (.getfield 44, 3) := by decide +kernel
theorem dX8_since_30 : decode cX8_since 30 = .ok (.aload_n 0, 1) := by decide +kernel
theorem dX8_since_31 : decode cX8_since 31 = .ok (.getfield 25, 3) := by decide +kernel
theorem dX8_since_34 : decode cX8_since 34 = .ok (.invokevirtual 228, 3) := by decide +kernel
theorem dX8_since_37 : decode cX8_since 37 = .ok (.aload_n 0, 1) := by decide +kernel
theorem dX8_since_38 : decode cX8_since 38 = .ok (.getfield 25, 3) := by decide +kernel
theorem dX8_since_41 : decode cX8_since 41 = .ok (.invokevirtual 250, 3) := by decide +kernel
theorem dX8_since_44 : decode cX8_since 44 = .ok (.ireturn, 1) := by decide +kernel
theorem dX8_gap_0 : decode cX8_gap 0 = .ok (.aload_n 0, 1) := by decide +kernel
theorem dX8_gap_1 : decode cX8_gap 1 = .ok (.iload_n 1, 1) := by decide +kernel
theorem dX8_gap_2 : decode cX8_gap 2 = .ok (.invokevirtual 81, 3) := by decide +kernel
theorem dX8_gap_5 : decode cX8_gap 5 = .ok (.ifCond .ne 12, 3) := by decide +kernel
theorem dX8_gap_8 : decode cX8_gap 8 = .ok (.iload_n 2, 1) := by decide +kernel
theorem dX8_gap_9 : decode cX8_gap 9 = .ok (.ifCond .lt 8, 3) := by decide +kernel
theorem dX8_gap_12 : decode cX8_gap 12 = .ok (.iload_n 2, 1) := by decide +kernel
theorem dX8_gap_13 : decode cX8_gap 13 = .ok (.iconst 1, 1) := by decide +kernel
theorem dX8_gap_14 : decode cX8_gap 14 = .ok (.if_icmp .le 6, 3) := by decide +kernel
theorem dX8_gap_17 : decode cX8_gap 17 = .ok (.bipush (-2), 2) := by decide +kernel
theorem dX8_gap_19 : decode cX8_gap 19 = .ok (.ireturn, 1) := by decide +kernel
theorem dX8_gap_20 : decode cX8_gap 20 = .ok (.aload_n 0, 1) := by decide +kernel
theorem dX8_gap_21 : decode cX8_gap 21 = .ok (.iload_n 1, 1) := by decide +kernel
theorem dX8_gap_22 : decode cX8_gap 22 = .ok (.invokevirtual 176, 3) := by decide +kernel
theorem dX8_gap_25 : decode cX8_gap 25 = .ok (.iload_n 2, 1) := by decide +kernel
theorem dX8_gap_26 : decode cX8_gap 26 = .ok (.ifCond .ne 7, 3) := by decide +kernel
theorem dX8_gap_29 : decode cX8_gap 29 = .ok (.iconst 1, 1) := by decide +kernel
theorem dX8_gap_30 : decode cX8_gap 30 = .ok (.goto 4, 3) := by decide +kernel
theorem dX8_gap_33 : decode cX8_gap 33 = .ok (.iconst 0, 1) := by decide +kernel
theorem dX8_gap_34 : decode cX8_gap 34 = .ok (.invokevirtual 253, 3) := by decide +kernel
theorem dX8_gap_37 : decode cX8_gap 37 = .ok (.ireturn, 1) := by decide +kernel
theorem dX8_row_0 : decode cX8_row 0 = .ok (.aload_n 0, 1) := by decide +kernel
theorem dX8_row_1 : decode cX8_row 1 = .ok (.iload_n 1, 1) := by decide +kernel
theorem dX8_row_2 : decode cX8_row 2 = .ok (.invokevirtual 81, 3) := by decide +kernel
theorem dX8_row_5 : decode cX8_row 5 = .ok (.ifCond .ne 12, 3) := by decide +kernel
theorem dX8_row_8 : decode cX8_row 8 = .ok (.iload_n 2, 1) := by decide +kernel
theorem dX8_row_9 : decode cX8_row 9 = .ok (.ifCond .lt 8, 3) := by decide +kernel
theorem dX8_row_12 : decode cX8_row 12 = .ok (.iload_n 2, 1) := by decide +kernel
theorem dX8_row_13 : decode cX8_row 13 = .ok (.iconst 1, 1) := by decide +kernel
theorem dX8_row_14 : decode cX8_row 14 = .ok (.if_icmp .le 6, 3) := by decide +kernel
theorem dX8_row_17 : decode cX8_row 17 = .ok (.bipush (-2), 2) := by decide +kernel
theorem dX8_row_19 : decode cX8_row 19 = .ok (.ireturn, 1) := by decide +kernel
theorem dX8_row_20 : decode cX8_row 20 = .ok (.aload_n 0, 1) := by decide +kernel
theorem dX8_row_21 : decode cX8_row 21 = .ok (.iload_n 1, 1) := by decide +kernel
theorem dX8_row_22 : decode cX8_row 22 = .ok (.invokevirtual 176, 3) := by decide +kernel
theorem dX8_row_25 : decode cX8_row 25 = .ok (.astore_n 3, 1) := by decide +kernel
theorem dX8_row_26 : decode cX8_row 26 = .ok (.iload_n 2, 1) := by decide +kernel
theorem dX8_row_27 : decode cX8_row 27 = .ok (.ifCond .ne 10, 3) := by decide +kernel
theorem dX8_row_30 : decode cX8_row 30 = .ok (.aload_n 3, 1) := by decide +kernel
theorem dX8_row_31 : decode cX8_row 31 = .ok (.invokevirtual 257, 3) := by decide +kernel
theorem dX8_row_34 : decode cX8_row 34 = .ok (.goto 7, 3) := by decide +kernel
theorem dX8_row_37 : decode cX8_row 37 = .ok (.aload_n 3, 1) := by decide +kernel
theorem dX8_row_38 : decode cX8_row 38 = .ok (.invokevirtual 260, 3) := by decide +kernel
theorem dX8_row_41 : decode cX8_row 41 = .ok (.ireturn, 1) := by decide +kernel
theorem dX8_passes_0 : decode cX8_passes 0 = .ok (.aload_n 0, 1) := by decide +kernel
theorem dX8_passes_1 : decode cX8_passes 1 = .ok (.iload_n 1, 1) := by decide +kernel
theorem dX8_passes_2 : decode cX8_passes 2 = .ok (.invokevirtual 81, 3) := by decide +kernel
theorem dX8_passes_5 : decode cX8_passes 5 = .ok (.ifCond .eq 6, 3) := by decide +kernel
theorem dX8_passes_8 : decode cX8_passes 8 = .ok (.bipush (-2), 2) := by decide +kernel
theorem dX8_passes_10 : decode cX8_passes 10 = .ok (.ireturn, 1) := by decide +kernel
theorem dX8_passes_11 : decode cX8_passes 11 = .ok (.lload_n 2, 1) := by decide +kernel
theorem dX8_passes_12 : decode cX8_passes 12 = .ok (.invokestatic 263, 3) := by decide +kernel
theorem dX8_passes_15 : decode cX8_passes 15 = .ok (.ifCond .eq 15, 3) := by decide +kernel
theorem dX8_passes_18 : decode cX8_passes 18 = .ok (.aload_n 0, 1) := by decide +kernel
theorem dX8_passes_19 : decode cX8_passes 19 = .ok (.iload_n 1, 1) := by decide +kernel
theorem dX8_passes_20 : decode cX8_passes 20 = .ok (.invokevirtual 176, 3) := by decide +kernel
theorem dX8_passes_23 : decode cX8_passes 23 = .ok (.lload_n 2, 1) := by decide +kernel
theorem dX8_passes_24 : decode cX8_passes 24 = .ok (.invokevirtual 269, 3) := by decide +kernel
theorem dX8_passes_27 : decode cX8_passes 27 = .ok (.goto 4, 3) := by decide +kernel
theorem dX8_passes_30 : decode cX8_passes 30 = .ok (.iconst (-1), 1) := by decide +kernel
theorem dX8_passes_31 : decode cX8_passes 31 = .ok (.ireturn, 1) := by decide +kernel
theorem dX8_span_0 : decode cX8_span 0 = .ok (.aload_n 0, 1) := by decide +kernel
theorem dX8_span_1 : decode cX8_span 1 = .ok (.iload_n 1, 1) := by decide +kernel
theorem dX8_span_2 : decode cX8_span 2 = .ok (.invokevirtual 81, 3) := by decide +kernel
theorem dX8_span_5 : decode cX8_span 5 = .ok (.ifCond .ne 20, 3) := by decide +kernel
theorem dX8_span_8 : decode cX8_span 8 = .ok (.iload_n 2, 1) := by decide +kernel
theorem dX8_span_9 : decode cX8_span 9 = .ok (.iload_n 3, 1) := by decide +kernel
theorem dX8_span_10 : decode cX8_span 10 = .ok (.if_icmp .gt 15, 3) := by decide +kernel
theorem dX8_span_13 : decode cX8_span 13 = .ok (.iload 4, 2) := by decide +kernel
theorem dX8_span_15 : decode cX8_span 15 = .ok (.ifCond .lt 10, 3) := by decide +kernel
theorem dX8_span_18 : decode cX8_span 18 = .ok (.iload 4, 2) := by decide +kernel
theorem dX8_span_20 : decode cX8_span 20 = .ok (.bipush 6, 2) := by decide +kernel
theorem dX8_span_22 : decode cX8_span 22 = .ok (.if_icmp .le 6, 3) := by decide +kernel
theorem dX8_span_25 : decode cX8_span 25 = .ok (.bipush (-2), 2) := by decide +kernel
theorem dX8_span_27 : decode cX8_span 27 = .ok (.ireturn, 1) := by decide +kernel
theorem dX8_span_28 : decode cX8_span 28 = .ok (.iload 4, 2) := by decide +kernel
theorem dX8_span_30 : decode cX8_span 30 = .ok (.iconst 1, 1) := by decide +kernel
theorem dX8_span_31 : decode cX8_span 31 = .ok (.if_icmp .ne 15, 3) := by decide +kernel
theorem dX8_span_34 : decode cX8_span 34 = .ok (.aload_n 0, 1) := by decide +kernel
theorem dX8_span_35 : decode cX8_span 35 = .ok (.getfield 11, 3) := by decide +kernel
theorem dX8_span_38 : decode cX8_span 38 = .ok (.iload_n 1, 1) := by decide +kernel
theorem dX8_span_39 : decode cX8_span 39 = .ok (.aaload, 1) := by decide +kernel
theorem dX8_span_40 : decode cX8_span 40 = .ok (.iload_n 2, 1) := by decide +kernel
theorem dX8_span_41 : decode cX8_span 41 = .ok (.iload_n 3, 1) := by decide +kernel
theorem dX8_span_42 : decode cX8_span 42 = .ok (.invokevirtual 273, 3) := by decide +kernel
theorem dX8_span_45 : decode cX8_span 45 = .ok (.ireturn, 1) := by decide +kernel
theorem dX8_span_46 : decode cX8_span 46 = .ok (.aload_n 0, 1) := by decide +kernel
theorem dX8_span_47 : decode cX8_span 47 = .ok (.getfield 11, 3) := by decide +kernel
theorem dX8_span_50 : decode cX8_span 50 = .ok (.iload_n 1, 1) := by decide +kernel
theorem dX8_span_51 : decode cX8_span 51 = .ok (.aaload, 1) := by decide +kernel
theorem dX8_span_52 : decode cX8_span 52 = .ok (.iload_n 2, 1) := by decide +kernel
theorem dX8_span_53 : decode cX8_span 53 = .ok (.iload_n 3, 1) := by decide +kernel
theorem dX8_span_54 : decode cX8_span 54 = .ok (.aload_n 0, 1) := by decide +kernel
theorem dX8_span_55 : decode cX8_span 55 = .ok (.getfield 44, 3) := by decide +kernel
theorem dX8_span_58 : decode cX8_span 58 = .ok (.aload_n 0, 1) := by decide +kernel
theorem dX8_span_59 : decode cX8_span 59 = .ok (.getfield 25, 3) := by decide +kernel
theorem dX8_span_62 : decode cX8_span 62 = .ok (.invokevirtual 228, 3) := by decide +kernel
theorem dX8_span_65 : decode cX8_span 65 = .ok (.iload 4, 2) := by decide +kernel
theorem dX8_span_67 : decode cX8_span 67 = .ok (.tableswitch 69 0 3 #[29, 69, 37, 61], 29) := by decide +kernel
theorem dX8_span_96 : decode cX8_span 96 = .ok (.aload_n 0, 1) := by decide +kernel
theorem dX8_span_97 : decode cX8_span 97 = .ok (.getfield 25, 3) := by decide +kernel
theorem dX8_span_100 : decode cX8_span 100 = .ok (.getfield 102, 3) := by decide +kernel
theorem dX8_span_103 : decode cX8_span 103 = .ok (.ireturn, 1) := by decide +kernel
theorem dX8_span_104 : decode cX8_span 104 = .ok (.aload_n 0, 1) := by decide +kernel
theorem dX8_span_105 : decode cX8_span 105 = .ok (.getfield 25, 3) := by decide +kernel
theorem dX8_span_108 : decode cX8_span 108 = .ok (.getfield 102, 3) := by decide +kernel
theorem dX8_span_111 : decode cX8_span 111 = .ok (.ifCond .le 15, 3) := by decide +kernel
theorem dX8_span_114 : decode cX8_span 114 = .ok (.aload_n 0, 1) := by decide +kernel
theorem dX8_span_115 : decode cX8_span 115 = .ok (.getfield 25, 3) := by decide +kernel
theorem dX8_span_118 : decode cX8_span 118 = .ok (.getfield 240, 3) := by decide +kernel
theorem dX8_span_121 : decode cX8_span 121 = .ok (.iconst 0, 1) := by decide +kernel
theorem dX8_span_122 : decode cX8_span 122 = .ok (.iaload, 1) := by decide +kernel
theorem dX8_span_123 : decode cX8_span 123 = .ok (.goto 4, 3) := by decide +kernel
theorem dX8_span_126 : decode cX8_span 126 = .ok (.iconst (-1), 1) := by decide +kernel
theorem dX8_span_127 : decode cX8_span 127 = .ok (.ireturn, 1) := by decide +kernel
theorem dX8_span_128 : decode cX8_span 128 = .ok (.aload_n 0, 1) := by decide +kernel
theorem dX8_span_129 : decode cX8_span 129 = .ok (.getfield 25, 3) := by decide +kernel
theorem dX8_span_132 : decode cX8_span 132 = .ok (.invokevirtual 250, 3) := by decide +kernel
theorem dX8_span_135 : decode cX8_span 135 = .ok (.ireturn, 1) := by decide +kernel
theorem dX8_span_136 : decode cX8_span 136 = .ok (.aload_n 0, 1) := by decide +kernel
theorem dX8_span_137 : decode cX8_span 137 = .ok (.getfield 25, 3) := by decide +kernel
theorem dX8_span_140 : decode cX8_span 140 = .ok (.iload 4, 2) := by decide +kernel
theorem dX8_span_142 : decode cX8_span 142 = .ok (.invokevirtual 277, 3) := by decide +kernel
theorem dX8_span_145 : decode cX8_span 145 = .ok (.ireturn, 1) := by decide +kernel
theorem dX8_value_0 : decode cX8_value 0 = .ok (.aload_n 0, 1) := by decide +kernel
theorem dX8_value_1 : decode cX8_value 1 = .ok (.iload_n 1, 1) := by decide +kernel
theorem dX8_value_2 : decode cX8_value 2 = .ok (.invokevirtual 81, 3) := by decide +kernel
theorem dX8_value_5 : decode cX8_value 5 = .ok (.ifCond .ne 19, 3) := by decide +kernel
theorem dX8_value_8 : decode cX8_value 8 = .ok (.iload_n 2, 1) := by decide +kernel
theorem dX8_value_9 : decode cX8_value 9 = .ok (.iload_n 3, 1) := by decide +kernel
theorem dX8_value_10 : decode cX8_value 10 = .ok (.if_icmp .gt 14, 3) := by decide +kernel
theorem dX8_value_13 : decode cX8_value 13 = .ok (.iload 4, 2) := by decide +kernel
theorem dX8_value_15 : decode cX8_value 15 = .ok (.ifCond .lt 9, 3) := by decide +kernel
theorem dX8_value_18 : decode cX8_value 18 = .ok (.iload 4, 2) := by decide +kernel
theorem dX8_value_20 : decode cX8_value 20 = .ok (.iconst 4, 1) := by decide +kernel
theorem dX8_value_21 : decode cX8_value 21 = .ok (.if_icmp .le 7, 3) := by decide +kernel
theorem dX8_value_24 : decode cX8_value 24 = .ok (.ldc2_w 280, 3) := by decide +kernel
theorem dX8_value_27 : decode cX8_value 27 = .ok (.lreturn, 1) := by decide +kernel
theorem dX8_value_28 : decode cX8_value 28 = .ok (.aload_n 0, 1) := by decide +kernel
theorem dX8_value_29 : decode cX8_value 29 = .ok (.getfield 11, 3) := by decide +kernel
theorem dX8_value_32 : decode cX8_value 32 = .ok (.iload_n 1, 1) := by decide +kernel
theorem dX8_value_33 : decode cX8_value 33 = .ok (.aaload, 1) := by decide +kernel
theorem dX8_value_34 : decode cX8_value 34 = .ok (.iload_n 2, 1) := by decide +kernel
theorem dX8_value_35 : decode cX8_value 35 = .ok (.iload_n 3, 1) := by decide +kernel
theorem dX8_value_36 : decode cX8_value 36 = .ok (.aload_n 0, 1) := by decide +kernel
theorem dX8_value_37 : decode cX8_value 37 = .ok (.getfield 44, 3) := by decide +kernel
theorem dX8_value_40 : decode cX8_value 40 = .ok (.aload_n 0, 1) := by decide +kernel
theorem dX8_value_41 : decode cX8_value 41 = .ok (.getfield 25, 3) := by decide +kernel
theorem dX8_value_44 : decode cX8_value 44 = .ok (.invokevirtual 228, 3) := by decide +kernel
theorem dX8_value_47 : decode cX8_value 47 = .ok (.aload_n 0, 1) := by decide +kernel
theorem dX8_value_48 : decode cX8_value 48 = .ok (.getfield 25, 3) := by decide +kernel
theorem dX8_value_51 : decode cX8_value 51 = .ok (.invokevirtual 282, 3) := by decide +kernel
theorem dX8_value_54 : decode cX8_value 54 = .ok (.aload_n 0, 1) := by decide +kernel
theorem dX8_value_55 : decode cX8_value 55 = .ok (.getfield 25, 3) := by decide +kernel
theorem dX8_value_58 : decode cX8_value 58 = .ok (.getfield 102, 3) := by decide +kernel
theorem dX8_value_61 : decode cX8_value 61 = .ok (.ifCond .ne 7, 3) := by decide +kernel
theorem dX8_value_64 : decode cX8_value 64 = .ok (.ldc2_w 280, 3) := by decide +kernel
theorem dX8_value_67 : decode cX8_value 67 = .ok (.lreturn, 1) := by decide +kernel
theorem dX8_value_68 : decode cX8_value 68 = .ok (.iload 4, 2) := by decide +kernel
theorem dX8_value_70 : decode cX8_value 70 = .ok (.tableswitch 74 0 3 #[30, 40, 58, 66], 30) := by decide +kernel
theorem dX8_value_100 : decode cX8_value 100 = .ok (.aload_n 0, 1) := by decide +kernel
theorem dX8_value_101 : decode cX8_value 101 = .ok (.getfield 25, 3) := by decide +kernel
theorem dX8_value_104 : decode cX8_value 104 = .ok (.getfield 232, 3) := by decide +kernel
theorem dX8_value_107 : decode cX8_value 107 = .ok (.iconst 0, 1) := by decide +kernel
theorem dX8_value_108 : decode cX8_value 108 = .ok (.laload, 1) := by decide +kernel
theorem dX8_value_109 : decode cX8_value 109 = .ok (.lreturn, 1) := by decide +kernel
theorem dX8_value_110 : decode cX8_value 110 = .ok (.aload_n 0, 1) := by decide +kernel
theorem dX8_value_111 : decode cX8_value 111 = .ok (.getfield 25, 3) := by decide +kernel
theorem dX8_value_114 : decode cX8_value 114 = .ok (.getfield 232, 3) := by decide +kernel
theorem dX8_value_117 : decode cX8_value 117 = .ok (.aload_n 0, 1) := by decide +kernel
theorem dX8_value_118 : decode cX8_value 118 = .ok (.getfield 25, 3) := by decide +kernel
theorem dX8_value_121 : decode cX8_value 121 = .ok (.getfield 102, 3) := by decide +kernel
theorem dX8_value_124 : decode cX8_value 124 = .ok (.iconst 1, 1) := by decide +kernel
theorem dX8_value_125 : decode cX8_value 125 = .ok (.isub, 1) := by decide +kernel
theorem dX8_value_126 : decode cX8_value 126 = .ok (.laload, 1) := by decide +kernel
theorem dX8_value_127 : decode cX8_value 127 = .ok (.lreturn, 1) := by decide +kernel
theorem dX8_value_128 : decode cX8_value 128 = .ok (.aload_n 0, 1) := by decide +kernel
theorem dX8_value_129 : decode cX8_value 129 = .ok (.getfield 25, 3) := by decide +kernel
theorem dX8_value_132 : decode cX8_value 132 = .ok (.invokevirtual 285, 3) := by decide +kernel
theorem dX8_value_135 : decode cX8_value 135 = .ok (.lreturn, 1) := by decide +kernel
theorem dX8_value_136 : decode cX8_value 136 = .ok (.aload_n 0, 1) := by decide +kernel
theorem dX8_value_137 : decode cX8_value 137 = .ok (.getfield 25, 3) := by decide +kernel
theorem dX8_value_140 : decode cX8_value 140 = .ok (.invokevirtual 289, 3) := by decide +kernel
theorem dX8_value_143 : decode cX8_value 143 = .ok (.lreturn, 1) := by decide +kernel
theorem dX8_value_144 : decode cX8_value 144 = .ok (.aload_n 0, 1) := by decide +kernel
theorem dX8_value_145 : decode cX8_value 145 = .ok (.getfield 25, 3) := by decide +kernel
theorem dX8_value_148 : decode cX8_value 148 = .ok (.invokevirtual 292, 3) := by decide +kernel
theorem dX8_value_151 : decode cX8_value 151 = .ok (.lreturn, 1) := by decide +kernel
theorem dX8_above_0 : decode cX8_above 0 = .ok (.aload_n 0, 1) := by decide +kernel
theorem dX8_above_1 : decode cX8_above 1 = .ok (.iload_n 1, 1) := by decide +kernel
theorem dX8_above_2 : decode cX8_above 2 = .ok (.invokevirtual 81, 3) := by decide +kernel
theorem dX8_above_5 : decode cX8_above 5 = .ok (.ifCond .ne 8, 3) := by decide +kernel
theorem dX8_above_8 : decode cX8_above 8 = .ok (.iload_n 2, 1) := by decide +kernel
theorem dX8_above_9 : decode cX8_above 9 = .ok (.iload_n 3, 1) := by decide +kernel
theorem dX8_above_10 : decode cX8_above 10 = .ok (.if_icmp .le 6, 3) := by decide +kernel
theorem dX8_above_13 : decode cX8_above 13 = .ok (.bipush (-2), 2) := by decide +kernel
theorem dX8_above_15 : decode cX8_above 15 = .ok (.ireturn, 1) := by decide +kernel
theorem dX8_above_16 : decode cX8_above 16 = .ok (.lload 4, 2) := by decide +kernel
theorem dX8_above_18 : decode cX8_above 18 = .ok (.invokestatic 263, 3) := by decide +kernel
theorem dX8_above_21 : decode cX8_above 21 = .ok (.ifCond .ne 5, 3) := by decide +kernel
theorem dX8_above_24 : decode cX8_above 24 = .ok (.iconst (-1), 1) := by decide +kernel
theorem dX8_above_25 : decode cX8_above 25 = .ok (.ireturn, 1) := by decide +kernel
theorem dX8_above_26 : decode cX8_above 26 = .ok (.aload_n 0, 1) := by decide +kernel
theorem dX8_above_27 : decode cX8_above 27 = .ok (.getfield 11, 3) := by decide +kernel
theorem dX8_above_30 : decode cX8_above 30 = .ok (.iload_n 1, 1) := by decide +kernel
theorem dX8_above_31 : decode cX8_above 31 = .ok (.aaload, 1) := by decide +kernel
theorem dX8_above_32 : decode cX8_above 32 = .ok (.iload_n 2, 1) := by decide +kernel
theorem dX8_above_33 : decode cX8_above 33 = .ok (.iload_n 3, 1) := by decide +kernel
theorem dX8_above_34 : decode cX8_above 34 = .ok (.aload_n 0, 1) := by decide +kernel
theorem dX8_above_35 : decode cX8_above 35 = .ok (.getfield 44, 3) := by decide +kernel
theorem dX8_above_38 : decode cX8_above 38 = .ok (.aload_n 0, 1) := by decide +kernel
theorem dX8_above_39 : decode cX8_above 39 = .ok (.getfield 25, 3) := by decide +kernel
theorem dX8_above_42 : decode cX8_above 42 = .ok (.invokevirtual 228, 3) := by decide +kernel
theorem dX8_above_45 : decode cX8_above 45 = .ok (.aload_n 0, 1) := by decide +kernel
theorem dX8_above_46 : decode cX8_above 46 = .ok (.getfield 25, 3) := by decide +kernel
theorem dX8_above_49 : decode cX8_above 49 = .ok (.invokevirtual 282, 3) := by decide +kernel
theorem dX8_above_52 : decode cX8_above 52 = .ok (.aload_n 0, 1) := by decide +kernel
theorem dX8_above_53 : decode cX8_above 53 = .ok (.getfield 25, 3) := by decide +kernel
theorem dX8_above_56 : decode cX8_above 56 = .ok (.lload 4, 2) := by decide +kernel
theorem dX8_above_58 : decode cX8_above 58 = .ok (.invokevirtual 295, 3) := by decide +kernel
theorem dX8_above_61 : decode cX8_above 61 = .ok (.ireturn, 1) := by decide +kernel
theorem dX8_least_0 : decode cX8_least 0 = .ok (.aload_n 0, 1) := by decide +kernel
theorem dX8_least_1 : decode cX8_least 1 = .ok (.iload_n 1, 1) := by decide +kernel
theorem dX8_least_2 : decode cX8_least 2 = .ok (.invokevirtual 81, 3) := by decide +kernel
theorem dX8_least_5 : decode cX8_least 5 = .ok (.ifCond .ne 13, 3) := by decide +kernel
theorem dX8_least_8 : decode cX8_least 8 = .ok (.iload_n 2, 1) := by decide +kernel
theorem dX8_least_9 : decode cX8_least 9 = .ok (.iload_n 3, 1) := by decide +kernel
theorem dX8_least_10 : decode cX8_least 10 = .ok (.if_icmp .gt 8, 3) := by decide +kernel
theorem dX8_least_13 : decode cX8_least 13 = .ok (.iload 4, 2) := by decide +kernel
theorem dX8_least_15 : decode cX8_least 15 = .ok (.ifCond .ge 7, 3) := by decide +kernel
theorem dX8_least_18 : decode cX8_least 18 = .ok (.ldc2_w 280, 3) := by decide +kernel
theorem dX8_least_21 : decode cX8_least 21 = .ok (.lreturn, 1) := by decide +kernel
theorem dX8_least_22 : decode cX8_least 22 = .ok (.aload_n 0, 1) := by decide +kernel
theorem dX8_least_23 : decode cX8_least 23 = .ok (.getfield 11, 3) := by decide +kernel
theorem dX8_least_26 : decode cX8_least 26 = .ok (.iload_n 1, 1) := by decide +kernel
theorem dX8_least_27 : decode cX8_least 27 = .ok (.aaload, 1) := by decide +kernel
theorem dX8_least_28 : decode cX8_least 28 = .ok (.iload_n 2, 1) := by decide +kernel
theorem dX8_least_29 : decode cX8_least 29 = .ok (.iload_n 3, 1) := by decide +kernel
theorem dX8_least_30 : decode cX8_least 30 = .ok (.aload_n 0, 1) := by decide +kernel
theorem dX8_least_31 : decode cX8_least 31 = .ok (.getfield 44, 3) := by decide +kernel
theorem dX8_least_34 : decode cX8_least 34 = .ok (.aload_n 0, 1) := by decide +kernel
theorem dX8_least_35 : decode cX8_least 35 = .ok (.getfield 25, 3) := by decide +kernel
theorem dX8_least_38 : decode cX8_least 38 = .ok (.invokevirtual 228, 3) := by decide +kernel
theorem dX8_least_41 : decode cX8_least 41 = .ok (.aload_n 0, 1) := by decide +kernel
theorem dX8_least_42 : decode cX8_least 42 = .ok (.getfield 25, 3) := by decide +kernel
theorem dX8_least_45 : decode cX8_least 45 = .ok (.invokevirtual 282, 3) := by decide +kernel
theorem dX8_least_48 : decode cX8_least 48 = .ok (.iload 4, 2) := by decide +kernel
theorem dX8_least_50 : decode cX8_least 50 = .ok (.aload_n 0, 1) := by decide +kernel
theorem dX8_least_51 : decode cX8_least 51 = .ok (.getfield 25, 3) := by decide +kernel
theorem dX8_least_54 : decode cX8_least 54 = .ok (.getfield 102, 3) := by decide +kernel
theorem dX8_least_57 : decode cX8_least 57 = .ok (.if_icmp .ge 15, 3) := by decide +kernel
theorem dX8_least_60 : decode cX8_least 60 = .ok (.aload_n 0, 1) := by decide +kernel
theorem dX8_least_61 : decode cX8_least 61 = .ok (.getfield 25, 3) := by decide +kernel
theorem dX8_least_64 : decode cX8_least 64 = .ok (.iload 4, 2) := by decide +kernel
theorem dX8_least_66 : decode cX8_least 66 = .ok (.invokevirtual 298, 3) := by decide +kernel
theorem dX8_least_69 : decode cX8_least 69 = .ok (.goto 6, 3) := by decide +kernel
theorem dX8_least_72 : decode cX8_least 72 = .ok (.ldc2_w 280, 3) := by decide +kernel
theorem dX8_least_75 : decode cX8_least 75 = .ok (.lreturn, 1) := by decide +kernel
theorem dX8_area_0 : decode cX8_area 0 = .ok (.aload_n 0, 1) := by decide +kernel
theorem dX8_area_1 : decode cX8_area 1 = .ok (.iload_n 1, 1) := by decide +kernel
theorem dX8_area_2 : decode cX8_area 2 = .ok (.invokevirtual 81, 3) := by decide +kernel
theorem dX8_area_5 : decode cX8_area 5 = .ok (.ifCond .ne 8, 3) := by decide +kernel
theorem dX8_area_8 : decode cX8_area 8 = .ok (.iload_n 2, 1) := by decide +kernel
theorem dX8_area_9 : decode cX8_area 9 = .ok (.iload_n 3, 1) := by decide +kernel
theorem dX8_area_10 : decode cX8_area 10 = .ok (.if_icmp .le 7, 3) := by decide +kernel
theorem dX8_area_13 : decode cX8_area 13 = .ok (.ldc2_w 280, 3) := by decide +kernel
theorem dX8_area_16 : decode cX8_area 16 = .ok (.lreturn, 1) := by decide +kernel
theorem dX8_area_17 : decode cX8_area 17 = .ok (.aload_n 0, 1) := by decide +kernel
theorem dX8_area_18 : decode cX8_area 18 = .ok (.getfield 11, 3) := by decide +kernel
theorem dX8_area_21 : decode cX8_area 21 = .ok (.iload_n 1, 1) := by decide +kernel
theorem dX8_area_22 : decode cX8_area 22 = .ok (.aaload, 1) := by decide +kernel
theorem dX8_area_23 : decode cX8_area 23 = .ok (.iload_n 2, 1) := by decide +kernel
theorem dX8_area_24 : decode cX8_area 24 = .ok (.iload_n 3, 1) := by decide +kernel
theorem dX8_area_25 : decode cX8_area 25 = .ok (.aload_n 0, 1) := by decide +kernel
theorem dX8_area_26 : decode cX8_area 26 = .ok (.getfield 44, 3) := by decide +kernel
theorem dX8_area_29 : decode cX8_area 29 = .ok (.aload_n 0, 1) := by decide +kernel
theorem dX8_area_30 : decode cX8_area 30 = .ok (.getfield 25, 3) := by decide +kernel
theorem dX8_area_33 : decode cX8_area 33 = .ok (.invokevirtual 228, 3) := by decide +kernel
theorem dX8_area_36 : decode cX8_area 36 = .ok (.aload_n 0, 1) := by decide +kernel
theorem dX8_area_37 : decode cX8_area 37 = .ok (.getfield 25, 3) := by decide +kernel
theorem dX8_area_40 : decode cX8_area 40 = .ok (.invokevirtual 302, 3) := by decide +kernel
theorem dX8_area_43 : decode cX8_area 43 = .ok (.lreturn, 1) := by decide +kernel
theorem dX8_both_0 : decode cX8_both 0 = .ok (.aload_n 0, 1) := by decide +kernel
theorem dX8_both_1 : decode cX8_both 1 = .ok (.iload_n 1, 1) := by decide +kernel
theorem dX8_both_2 : decode cX8_both 2 = .ok (.invokevirtual 81, 3) := by decide +kernel
theorem dX8_both_5 : decode cX8_both 5 = .ok (.ifCond .ne 20, 3) := by decide +kernel
theorem dX8_both_8 : decode cX8_both 8 = .ok (.aload_n 0, 1) := by decide +kernel
theorem dX8_both_9 : decode cX8_both 9 = .ok (.iload_n 2, 1) := by decide +kernel
theorem dX8_both_10 : decode cX8_both 10 = .ok (.invokevirtual 81, 3) := by decide +kernel
theorem dX8_both_13 : decode cX8_both 13 = .ok (.ifCond .ne 12, 3) := by decide +kernel
theorem dX8_both_16 : decode cX8_both 16 = .ok (.iload_n 3, 1) := by decide +kernel
theorem dX8_both_17 : decode cX8_both 17 = .ok (.ifCond .lt 8, 3) := by decide +kernel
theorem dX8_both_20 : decode cX8_both 20 = .ok (.iload_n 3, 1) := by decide +kernel
theorem dX8_both_21 : decode cX8_both 21 = .ok (.iconst 1, 1) := by decide +kernel
theorem dX8_both_22 : decode cX8_both 22 = .ok (.if_icmp .le 6, 3) := by decide +kernel
theorem dX8_both_25 : decode cX8_both 25 = .ok (.bipush (-2), 2) := by decide +kernel
theorem dX8_both_27 : decode cX8_both 27 = .ok (.ireturn, 1) := by decide +kernel
theorem dX8_both_28 : decode cX8_both 28 = .ok (.aload_n 0, 1) := by decide +kernel
theorem dX8_both_29 : decode cX8_both 29 = .ok (.iload_n 1, 1) := by decide +kernel
theorem dX8_both_30 : decode cX8_both 30 = .ok (.iload_n 2, 1) := by decide +kernel
theorem dX8_both_31 : decode cX8_both 31 = .ok (.invokevirtual 305, 3) := by decide +kernel
theorem dX8_both_34 : decode cX8_both 34 = .ok (.iconst 0, 1) := by decide +kernel
theorem dX8_both_35 : decode cX8_both 35 = .ok (.istore 4, 2) := by decide +kernel
theorem dX8_both_37 : decode cX8_both 37 = .ok (.aload_n 0, 1) := by decide +kernel
theorem dX8_both_38 : decode cX8_both 38 = .ok (.getfield 37, 3) := by decide +kernel
theorem dX8_both_41 : decode cX8_both 41 = .ok (.invokevirtual 309, 3) := by decide +kernel
theorem dX8_both_44 : decode cX8_both 44 = .ok (.istore 5, 2) := by decide +kernel
theorem dX8_both_46 : decode cX8_both 46 = .ok (.iload 5, 2) := by decide +kernel
theorem dX8_both_48 : decode cX8_both 48 = .ok (.ifCond .le 49, 3) := by decide +kernel
theorem dX8_both_51 : decode cX8_both 51 = .ok (.aload_n 0, 1) := by decide +kernel
theorem dX8_both_52 : decode cX8_both 52 = .ok (.getfield 37, 3) := by decide +kernel
theorem dX8_both_55 : decode cX8_both 55 = .ok (.invokevirtual 312, 3) := by decide +kernel
theorem dX8_both_58 : decode cX8_both 58 = .ok (.ifCond .eq 39, 3) := by decide +kernel
theorem dX8_both_61 : decode cX8_both 61 = .ok (.iload_n 3, 1) := by decide +kernel
theorem dX8_both_62 : decode cX8_both 62 = .ok (.ifCond .ne 16, 3) := by decide +kernel
theorem dX8_both_65 : decode cX8_both 65 = .ok (.aload_n 0, 1) := by decide +kernel
theorem dX8_both_66 : decode cX8_both 66 = .ok (.getfield 37, 3) := by decide +kernel
theorem dX8_both_69 : decode cX8_both 69 = .ok (.invokevirtual 316, 3) := by decide +kernel
theorem dX8_both_72 : decode cX8_both 72 = .ok (.ifCond .eq 19, 3) := by decide +kernel
theorem dX8_both_75 : decode cX8_both 75 = .ok (.goto 13, 3) := by decide +kernel
theorem dX8_both_78 : decode cX8_both 78 = .ok (.aload_n 0, 1) := by decide +kernel
theorem dX8_both_79 : decode cX8_both 79 = .ok (.getfield 37, 3) := by decide +kernel
theorem dX8_both_82 : decode cX8_both 82 = .ok (.invokevirtual 319, 3) := by decide +kernel
theorem dX8_both_85 : decode cX8_both 85 = .ok (.ifCond .eq 6, 3) := by decide +kernel
theorem dX8_both_88 : decode cX8_both 88 = .ok (.iinc 4 1, 3) := by decide +kernel
theorem dX8_both_91 : decode cX8_both 91 = .ok (.iinc 5 (-1), 3) := by decide +kernel
theorem dX8_both_94 : decode cX8_both 94 = .ok (.goto (-48), 3) := by decide +kernel
theorem dX8_both_97 : decode cX8_both 97 = .ok (.iload 4, 2) := by decide +kernel
theorem dX8_both_99 : decode cX8_both 99 = .ok (.ireturn, 1) := by decide +kernel
theorem dX8_differ_0 : decode cX8_differ 0 = .ok (.aload_n 0, 1) := by decide +kernel
theorem dX8_differ_1 : decode cX8_differ 1 = .ok (.iload_n 1, 1) := by decide +kernel
theorem dX8_differ_2 : decode cX8_differ 2 = .ok (.invokevirtual 81, 3) := by decide +kernel
theorem dX8_differ_5 : decode cX8_differ 5 = .ok (.ifCond .ne 11, 3) := by decide +kernel
theorem dX8_differ_8 : decode cX8_differ 8 = .ok (.aload_n 0, 1) := by decide +kernel
theorem dX8_differ_9 : decode cX8_differ 9 = .ok (.iload_n 2, 1) := by decide +kernel
theorem dX8_differ_10 : decode cX8_differ 10 = .ok (.invokevirtual 81, 3) := by decide +kernel
theorem dX8_differ_13 : decode cX8_differ 13 = .ok (.ifCond .eq 6, 3) := by decide +kernel
theorem dX8_differ_16 : decode cX8_differ 16 = .ok (.bipush (-2), 2) := by decide +kernel
theorem dX8_differ_18 : decode cX8_differ 18 = .ok (.ireturn, 1) := by decide +kernel
theorem dX8_differ_19 : decode cX8_differ 19 = .ok (.aload_n 0, 1) := by decide +kernel
theorem dX8_differ_20 : decode cX8_differ 20 = .ok (.iload_n 1, 1) := by decide +kernel
theorem dX8_differ_21 : decode cX8_differ 21 = .ok (.iload_n 2, 1) := by decide +kernel
theorem dX8_differ_22 : decode cX8_differ 22 = .ok (.invokevirtual 305, 3) := by decide +kernel
theorem dX8_differ_25 : decode cX8_differ 25 = .ok (.aload_n 0, 1) := by decide +kernel
theorem dX8_differ_26 : decode cX8_differ 26 = .ok (.getfield 37, 3) := by decide +kernel
theorem dX8_differ_29 : decode cX8_differ 29 = .ok (.invokevirtual 309, 3) := by decide +kernel
theorem dX8_differ_32 : decode cX8_differ 32 = .ok (.istore_n 3, 1) := by decide +kernel
theorem dX8_differ_33 : decode cX8_differ 33 = .ok (.iload_n 3, 1) := by decide +kernel
theorem dX8_differ_34 : decode cX8_differ 34 = .ok (.ifCond .le 37, 3) := by decide +kernel
theorem dX8_differ_37 : decode cX8_differ 37 = .ok (.aload_n 0, 1) := by decide +kernel
theorem dX8_differ_38 : decode cX8_differ 38 = .ok (.getfield 37, 3) := by decide +kernel
theorem dX8_differ_41 : decode cX8_differ 41 = .ok (.invokevirtual 312, 3) := by decide +kernel
theorem dX8_differ_44 : decode cX8_differ 44 = .ok (.ifCond .eq 27, 3) := by decide +kernel
theorem dX8_differ_47 : decode cX8_differ 47 = .ok (.aload_n 0, 1) := by decide +kernel
theorem dX8_differ_48 : decode cX8_differ 48 = .ok (.getfield 37, 3) := by decide +kernel
theorem dX8_differ_51 : decode cX8_differ 51 = .ok (.invokevirtual 319, 3) := by decide +kernel
theorem dX8_differ_54 : decode cX8_differ 54 = .ok (.ifCond .ne 11, 3) := by decide +kernel
theorem dX8_differ_57 : decode cX8_differ 57 = .ok (.aload_n 0, 1) := by decide +kernel
theorem dX8_differ_58 : decode cX8_differ 58 = .ok (.getfield 37, 3) := by decide +kernel
theorem dX8_differ_61 : decode cX8_differ 61 = .ok (.getfield 322, 3) := by decide +kernel
theorem dX8_differ_64 : decode cX8_differ 64 = .ok (.ireturn, 1) := by decide +kernel
theorem dX8_differ_65 : decode cX8_differ 65 = .ok (.iinc 3 (-1), 3) := by decide +kernel
theorem dX8_differ_68 : decode cX8_differ 68 = .ok (.goto (-35), 3) := by decide +kernel
theorem dX8_differ_71 : decode cX8_differ 71 = .ok (.iconst (-1), 1) := by decide +kernel
theorem dX8_differ_72 : decode cX8_differ 72 = .ok (.ireturn, 1) := by decide +kernel
theorem dX8_join_0 : decode cX8_join 0 = .ok (.aload_n 0, 1) := by decide +kernel
theorem dX8_join_1 : decode cX8_join 1 = .ok (.iload_n 1, 1) := by decide +kernel
theorem dX8_join_2 : decode cX8_join 2 = .ok (.invokevirtual 81, 3) := by decide +kernel
theorem dX8_join_5 : decode cX8_join 5 = .ok (.ifCond .ne 18, 3) := by decide +kernel
theorem dX8_join_8 : decode cX8_join 8 = .ok (.aload_n 0, 1) := by decide +kernel
theorem dX8_join_9 : decode cX8_join 9 = .ok (.iload_n 2, 1) := by decide +kernel
theorem dX8_join_10 : decode cX8_join 10 = .ok (.invokevirtual 81, 3) := by decide +kernel
theorem dX8_join_13 : decode cX8_join 13 = .ok (.ifCond .ne 10, 3) := by decide +kernel
theorem dX8_join_16 : decode cX8_join 16 = .ok (.iload_n 3, 1) := by decide +kernel
theorem dX8_join_17 : decode cX8_join 17 = .ok (.invokestatic 71, 3) := by decide +kernel
theorem dX8_join_20 : decode cX8_join 20 = .ok (.ifCond .ne 6, 3) := by decide +kernel
theorem dX8_join_23 : decode cX8_join 23 = .ok (.bipush (-2), 2) := by decide +kernel
theorem dX8_join_25 : decode cX8_join 25 = .ok (.ireturn, 1) := by decide +kernel
theorem dX8_join_26 : decode cX8_join 26 = .ok (.aload_n 0, 1) := by decide +kernel
theorem dX8_join_27 : decode cX8_join 27 = .ok (.getfield 11, 3) := by decide +kernel
theorem dX8_join_30 : decode cX8_join 30 = .ok (.iload_n 1, 1) := by decide +kernel
theorem dX8_join_31 : decode cX8_join 31 = .ok (.aaload, 1) := by decide +kernel
theorem dX8_join_32 : decode cX8_join 32 = .ok (.invokevirtual 173, 3) := by decide +kernel
theorem dX8_join_35 : decode cX8_join 35 = .ok (.ifCond .ne 15, 3) := by decide +kernel
theorem dX8_join_38 : decode cX8_join 38 = .ok (.aload_n 0, 1) := by decide +kernel
theorem dX8_join_39 : decode cX8_join 39 = .ok (.getfield 11, 3) := by decide +kernel
theorem dX8_join_42 : decode cX8_join 42 = .ok (.iload_n 2, 1) := by decide +kernel
theorem dX8_join_43 : decode cX8_join 43 = .ok (.aaload, 1) := by decide +kernel
theorem dX8_join_44 : decode cX8_join 44 = .ok (.invokevirtual 173, 3) := by decide +kernel
theorem dX8_join_47 : decode cX8_join 47 = .ok (.ifCond .eq 6, 3) := by decide +kernel
theorem dX8_join_50 : decode cX8_join 50 = .ok (.bipush (-6), 2) := by decide +kernel
theorem dX8_join_52 : decode cX8_join 52 = .ok (.ireturn, 1) := by decide +kernel
theorem dX8_join_53 : decode cX8_join 53 = .ok (.aload_n 0, 1) := by decide +kernel
theorem dX8_join_54 : decode cX8_join 54 = .ok (.iload_n 1, 1) := by decide +kernel
theorem dX8_join_55 : decode cX8_join 55 = .ok (.iload_n 2, 1) := by decide +kernel
theorem dX8_join_56 : decode cX8_join 56 = .ok (.invokevirtual 305, 3) := by decide +kernel
theorem dX8_join_59 : decode cX8_join 59 = .ok (.aload_n 0, 1) := by decide +kernel
theorem dX8_join_60 : decode cX8_join 60 = .ok (.getfield 16, 3) := by decide +kernel
theorem dX8_join_63 : decode cX8_join 63 = .ok (.aload_n 0, 1) := by decide +kernel
theorem dX8_join_64 : decode cX8_join 64 = .ok (.getfield 11, 3) := by decide +kernel
theorem dX8_join_67 : decode cX8_join 67 = .ok (.iload_n 1, 1) := by decide +kernel
theorem dX8_join_68 : decode cX8_join 68 = .ok (.aaload, 1) := by decide +kernel
theorem dX8_join_69 : decode cX8_join 69 = .ok (.getfield 145, 3) := by decide +kernel
theorem dX8_join_72 : decode cX8_join 72 = .ok (.invokevirtual 78, 3) := by decide +kernel
theorem dX8_join_75 : decode cX8_join 75 = .ok (.aload_n 0, 1) := by decide +kernel
theorem dX8_join_76 : decode cX8_join 76 = .ok (.getfield 37, 3) := by decide +kernel
theorem dX8_join_79 : decode cX8_join 79 = .ok (.invokevirtual 309, 3) := by decide +kernel
theorem dX8_join_82 : decode cX8_join 82 = .ok (.istore 4, 2) := by decide +kernel
theorem dX8_join_84 : decode cX8_join 84 = .ok (.iload 4, 2) := by decide +kernel
theorem dX8_join_86 : decode cX8_join 86 = .ok (.ifCond .le 46, 3) := by decide +kernel
theorem dX8_join_89 : decode cX8_join 89 = .ok (.aload_n 0, 1) := by decide +kernel
theorem dX8_join_90 : decode cX8_join 90 = .ok (.getfield 37, 3) := by decide +kernel
theorem dX8_join_93 : decode cX8_join 93 = .ok (.invokevirtual 312, 3) := by decide +kernel
theorem dX8_join_96 : decode cX8_join 96 = .ok (.ifCond .eq 36, 3) := by decide +kernel
theorem dX8_join_99 : decode cX8_join 99 = .ok (.aload_n 0, 1) := by decide +kernel
theorem dX8_join_100 : decode cX8_join 100 = .ok (.getfield 16, 3) := by decide +kernel
theorem dX8_join_103 : decode cX8_join 103 = .ok (.aload_n 0, 1) := by decide +kernel
theorem dX8_join_104 : decode cX8_join 104 = .ok (.getfield 37, 3) := by decide +kernel
theorem dX8_join_107 : decode cX8_join 107 = .ok (.getfield 322, 3) := by decide +kernel
theorem dX8_join_110 : decode cX8_join 110 = .ok (.aload_n 0, 1) := by decide +kernel
theorem dX8_join_111 : decode cX8_join 111 = .ok (.getfield 37, 3) := by decide +kernel
theorem dX8_join_114 : decode cX8_join 114 = .ok (.getfield 323, 3) := by decide +kernel
theorem dX8_join_117 : decode cX8_join 117 = .ok (.invokevirtual 91, 3) := by decide +kernel
theorem dX8_join_120 : decode cX8_join 120 = .ok (.ifCond .ge 6, 3) := by decide +kernel
theorem dX8_join_123 : decode cX8_join 123 = .ok (.bipush (-4), 2) := by decide +kernel
theorem dX8_join_125 : decode cX8_join 125 = .ok (.ireturn, 1) := by decide +kernel
theorem dX8_join_126 : decode cX8_join 126 = .ok (.iinc 4 (-1), 3) := by decide +kernel
theorem dX8_join_129 : decode cX8_join 129 = .ok (.goto (-45), 3) := by decide +kernel
theorem dX8_join_132 : decode cX8_join 132 = .ok (.aload_n 0, 1) := by decide +kernel
theorem dX8_join_133 : decode cX8_join 133 = .ok (.iload_n 3, 1) := by decide +kernel
theorem dX8_join_134 : decode cX8_join 134 = .ok (.invokevirtual 326, 3) := by decide +kernel
theorem dX8_join_137 : decode cX8_join 137 = .ok (.ireturn, 1) := by decide +kernel
theorem dX8_copy_0 : decode cX8_copy 0 = .ok (.aload_n 0, 1) := by decide +kernel
theorem dX8_copy_1 : decode cX8_copy 1 = .ok (.iload_n 1, 1) := by decide +kernel
theorem dX8_copy_2 : decode cX8_copy 2 = .ok (.invokevirtual 81, 3) := by decide +kernel
theorem dX8_copy_5 : decode cX8_copy 5 = .ok (.ifCond .ne 10, 3) := by decide +kernel
theorem dX8_copy_8 : decode cX8_copy 8 = .ok (.iload_n 2, 1) := by decide +kernel
theorem dX8_copy_9 : decode cX8_copy 9 = .ok (.invokestatic 71, 3) := by decide +kernel
theorem dX8_copy_12 : decode cX8_copy 12 = .ok (.ifCond .ne 6, 3) := by decide +kernel
theorem dX8_copy_15 : decode cX8_copy 15 = .ok (.bipush (-2), 2) := by decide +kernel
theorem dX8_copy_17 : decode cX8_copy 17 = .ok (.ireturn, 1) := by decide +kernel
theorem dX8_copy_18 : decode cX8_copy 18 = .ok (.iload_n 1, 1) := by decide +kernel
theorem dX8_copy_19 : decode cX8_copy 19 = .ok (.iload_n 2, 1) := by decide +kernel
theorem dX8_copy_20 : decode cX8_copy 20 = .ok (.if_icmp .eq 18, 3) := by decide +kernel
theorem dX8_copy_23 : decode cX8_copy 23 = .ok (.aload_n 0, 1) := by decide +kernel
theorem dX8_copy_24 : decode cX8_copy 24 = .ok (.getfield 11, 3) := by decide +kernel
theorem dX8_copy_27 : decode cX8_copy 27 = .ok (.iload_n 2, 1) := by decide +kernel
theorem dX8_copy_28 : decode cX8_copy 28 = .ok (.aaload, 1) := by decide +kernel
theorem dX8_copy_29 : decode cX8_copy 29 = .ok (.aload_n 0, 1) := by decide +kernel
theorem dX8_copy_30 : decode cX8_copy 30 = .ok (.getfield 11, 3) := by decide +kernel
theorem dX8_copy_33 : decode cX8_copy 33 = .ok (.iload_n 1, 1) := by decide +kernel
theorem dX8_copy_34 : decode cX8_copy 34 = .ok (.aaload, 1) := by decide +kernel
theorem dX8_copy_35 : decode cX8_copy 35 = .ok (.invokevirtual 329, 3) := by decide +kernel
theorem dX8_copy_38 : decode cX8_copy 38 = .ok (.iconst 0, 1) := by decide +kernel
theorem dX8_copy_39 : decode cX8_copy 39 = .ok (.ireturn, 1) := by decide +kernel
theorem dX8_merge_0 : decode cX8_merge 0 = .ok (.aload_n 0, 1) := by decide +kernel
theorem dX8_merge_1 : decode cX8_merge 1 = .ok (.iload_n 1, 1) := by decide +kernel
theorem dX8_merge_2 : decode cX8_merge 2 = .ok (.invokevirtual 81, 3) := by decide +kernel
theorem dX8_merge_5 : decode cX8_merge 5 = .ok (.ifCond .eq 6, 3) := by decide +kernel
theorem dX8_merge_8 : decode cX8_merge 8 = .ok (.bipush (-2), 2) := by decide +kernel
theorem dX8_merge_10 : decode cX8_merge 10 = .ok (.ireturn, 1) := by decide +kernel
theorem dX8_merge_11 : decode cX8_merge 11 = .ok (.aload_n 0, 1) := by decide +kernel
theorem dX8_merge_12 : decode cX8_merge 12 = .ok (.getfield 11, 3) := by decide +kernel
theorem dX8_merge_15 : decode cX8_merge 15 = .ok (.iload_n 1, 1) := by decide +kernel
theorem dX8_merge_16 : decode cX8_merge 16 = .ok (.aaload, 1) := by decide +kernel
theorem dX8_merge_17 : decode cX8_merge 17 = .ok (.invokevirtual 173, 3) := by decide +kernel
theorem dX8_merge_20 : decode cX8_merge 20 = .ok (.ifCond .eq 6, 3) := by decide +kernel
theorem dX8_merge_23 : decode cX8_merge 23 = .ok (.bipush (-6), 2) := by decide +kernel
theorem dX8_merge_25 : decode cX8_merge 25 = .ok (.ireturn, 1) := by decide +kernel
theorem dX8_merge_26 : decode cX8_merge 26 = .ok (.aload_n 0, 1) := by decide +kernel
theorem dX8_merge_27 : decode cX8_merge 27 = .ok (.iload_n 1, 1) := by decide +kernel
theorem dX8_merge_28 : decode cX8_merge 28 = .ok (.invokevirtual 176, 3) := by decide +kernel
theorem dX8_merge_31 : decode cX8_merge 31 = .ok (.pop, 1) := by decide +kernel
theorem dX8_merge_32 : decode cX8_merge 32 = .ok (.aload_n 0, 1) := by decide +kernel
theorem dX8_merge_33 : decode cX8_merge 33 = .ok (.iload_n 1, 1) := by decide +kernel
theorem dX8_merge_34 : decode cX8_merge 34 = .ok (.aload_n 0, 1) := by decide +kernel
theorem dX8_merge_35 : decode cX8_merge 35 = .ok (.getfield 11, 3) := by decide +kernel
theorem dX8_merge_38 : decode cX8_merge 38 = .ok (.iload_n 1, 1) := by decide +kernel
theorem dX8_merge_39 : decode cX8_merge 39 = .ok (.aaload, 1) := by decide +kernel
theorem dX8_merge_40 : decode cX8_merge 40 = .ok (.getfield 145, 3) := by decide +kernel
theorem dX8_merge_43 : decode cX8_merge 43 = .ok (.invokevirtual 333, 3) := by decide +kernel
theorem dX8_merge_46 : decode cX8_merge 46 = .ok (.ireturn, 1) := by decide +kernel
theorem dX8_repack_0 : decode cX8_repack 0 = .ok (.aload_n 0, 1) := by decide +kernel
theorem dX8_repack_1 : decode cX8_repack 1 = .ok (.iload_n 1, 1) := by decide +kernel
theorem dX8_repack_2 : decode cX8_repack 2 = .ok (.invokevirtual 81, 3) := by decide +kernel
theorem dX8_repack_5 : decode cX8_repack 5 = .ok (.ifCond .ne 10, 3) := by decide +kernel
theorem dX8_repack_8 : decode cX8_repack 8 = .ok (.iload_n 2, 1) := by decide +kernel
theorem dX8_repack_9 : decode cX8_repack 9 = .ok (.invokestatic 75, 3) := by decide +kernel
theorem dX8_repack_12 : decode cX8_repack 12 = .ok (.ifCond .ne 6, 3) := by decide +kernel
theorem dX8_repack_15 : decode cX8_repack 15 = .ok (.bipush (-2), 2) := by decide +kernel
theorem dX8_repack_17 : decode cX8_repack 17 = .ok (.ireturn, 1) := by decide +kernel
theorem dX8_repack_18 : decode cX8_repack 18 = .ok (.aload_n 0, 1) := by decide +kernel
theorem dX8_repack_19 : decode cX8_repack 19 = .ok (.getfield 11, 3) := by decide +kernel
theorem dX8_repack_22 : decode cX8_repack 22 = .ok (.iload_n 1, 1) := by decide +kernel
theorem dX8_repack_23 : decode cX8_repack 23 = .ok (.aaload, 1) := by decide +kernel
theorem dX8_repack_24 : decode cX8_repack 24 = .ok (.invokevirtual 173, 3) := by decide +kernel
theorem dX8_repack_27 : decode cX8_repack 27 = .ok (.ifCond .eq 6, 3) := by decide +kernel
theorem dX8_repack_30 : decode cX8_repack 30 = .ok (.bipush (-6), 2) := by decide +kernel
theorem dX8_repack_32 : decode cX8_repack 32 = .ok (.ireturn, 1) := by decide +kernel
theorem dX8_repack_33 : decode cX8_repack 33 = .ok (.aload_n 0, 1) := by decide +kernel
theorem dX8_repack_34 : decode cX8_repack 34 = .ok (.iload_n 1, 1) := by decide +kernel
theorem dX8_repack_35 : decode cX8_repack 35 = .ok (.invokevirtual 176, 3) := by decide +kernel
theorem dX8_repack_38 : decode cX8_repack 38 = .ok (.pop, 1) := by decide +kernel
theorem dX8_repack_39 : decode cX8_repack 39 = .ok (.aload_n 0, 1) := by decide +kernel
theorem dX8_repack_40 : decode cX8_repack 40 = .ok (.iload_n 1, 1) := by decide +kernel
theorem dX8_repack_41 : decode cX8_repack 41 = .ok (.iload_n 2, 1) := by decide +kernel
theorem dX8_repack_42 : decode cX8_repack 42 = .ok (.invokevirtual 333, 3) := by decide +kernel
theorem dX8_repack_45 : decode cX8_repack 45 = .ok (.ireturn, 1) := by decide +kernel
theorem dX8_thin_0 : decode cX8_thin 0 = .ok (.aload_n 0, 1) := by decide +kernel
theorem dX8_thin_1 : decode cX8_thin 1 = .ok (.iload_n 1, 1) := by decide +kernel
theorem dX8_thin_2 : decode cX8_thin 2 = .ok (.invokevirtual 81, 3) := by decide +kernel
theorem dX8_thin_5 : decode cX8_thin 5 = .ok (.ifCond .ne 15, 3) := by decide +kernel
theorem dX8_thin_8 : decode cX8_thin 8 = .ok (.iload_n 2, 1) := by decide +kernel
theorem dX8_thin_9 : decode cX8_thin 9 = .ok (.iconst 1, 1) := by decide +kernel
theorem dX8_thin_10 : decode cX8_thin 10 = .ok (.if_icmp .lt 10, 3) := by decide +kernel
theorem dX8_thin_13 : decode cX8_thin 13 = .ok (.iload_n 2, 1) := by decide +kernel
theorem dX8_thin_14 : decode cX8_thin 14 = .ok (.ldc_w 336, 3) := by decide +kernel
theorem dX8_thin_17 : decode cX8_thin 17 = .ok (.if_icmp .le 6, 3) := by decide +kernel
theorem dX8_thin_20 : decode cX8_thin 20 = .ok (.bipush (-2), 2) := by decide +kernel
theorem dX8_thin_22 : decode cX8_thin 22 = .ok (.ireturn, 1) := by decide +kernel
theorem dX8_thin_23 : decode cX8_thin 23 = .ok (.aload_n 0, 1) := by decide +kernel
theorem dX8_thin_24 : decode cX8_thin 24 = .ok (.getfield 11, 3) := by decide +kernel
theorem dX8_thin_27 : decode cX8_thin 27 = .ok (.iload_n 1, 1) := by decide +kernel
theorem dX8_thin_28 : decode cX8_thin 28 = .ok (.aaload, 1) := by decide +kernel
theorem dX8_thin_29 : decode cX8_thin 29 = .ok (.invokevirtual 173, 3) := by decide +kernel
theorem dX8_thin_32 : decode cX8_thin 32 = .ok (.ifCond .eq 6, 3) := by decide +kernel
theorem dX8_thin_35 : decode cX8_thin 35 = .ok (.bipush (-6), 2) := by decide +kernel
theorem dX8_thin_37 : decode cX8_thin 37 = .ok (.ireturn, 1) := by decide +kernel
theorem dX8_thin_38 : decode cX8_thin 38 = .ok (.aload_n 0, 1) := by decide +kernel
theorem dX8_thin_39 : decode cX8_thin 39 = .ok (.iload_n 1, 1) := by decide +kernel
theorem dX8_thin_40 : decode cX8_thin 40 = .ok (.invokevirtual 176, 3) := by decide +kernel
theorem dX8_thin_43 : decode cX8_thin 43 = .ok (.iload_n 2, 1) := by decide +kernel
theorem dX8_thin_44 : decode cX8_thin 44 = .ok (.invokevirtual 337, 3) := by decide +kernel
theorem dX8_thin_47 : decode cX8_thin 47 = .ok (.istore_n 3, 1) := by decide +kernel
theorem dX8_thin_48 : decode cX8_thin 48 = .ok (.aload_n 0, 1) := by decide +kernel
theorem dX8_thin_49 : decode cX8_thin 49 = .ok (.iload_n 1, 1) := by decide +kernel
theorem dX8_thin_50 : decode cX8_thin 50 = .ok (.aload_n 0, 1) := by decide +kernel
theorem dX8_thin_51 : decode cX8_thin 51 = .ok (.getfield 11, 3) := by decide +kernel
theorem dX8_thin_54 : decode cX8_thin 54 = .ok (.iload_n 1, 1) := by decide +kernel
theorem dX8_thin_55 : decode cX8_thin 55 = .ok (.aaload, 1) := by decide +kernel
theorem dX8_thin_56 : decode cX8_thin 56 = .ok (.getfield 145, 3) := by decide +kernel
theorem dX8_thin_59 : decode cX8_thin 59 = .ok (.invokevirtual 333, 3) := by decide +kernel
theorem dX8_thin_62 : decode cX8_thin 62 = .ok (.ifCond .ge 8, 3) := by decide +kernel
theorem dX8_thin_65 : decode cX8_thin 65 = .ok (.bipush (-4), 2) := by decide +kernel
theorem dX8_thin_67 : decode cX8_thin 67 = .ok (.goto 4, 3) := by decide +kernel
theorem dX8_thin_70 : decode cX8_thin 70 = .ok (.iload_n 3, 1) := by decide +kernel
theorem dX8_thin_71 : decode cX8_thin 71 = .ok (.ireturn, 1) := by decide +kernel
theorem dX8_cuts_0 : decode cX8_cuts 0 = .ok (.aload_n 0, 1) := by decide +kernel
theorem dX8_cuts_1 : decode cX8_cuts 1 = .ok (.iload_n 1, 1) := by decide +kernel
theorem dX8_cuts_2 : decode cX8_cuts 2 = .ok (.invokevirtual 81, 3) := by decide +kernel
theorem dX8_cuts_5 : decode cX8_cuts 5 = .ok (.ifCond .ne 8, 3) := by decide +kernel
theorem dX8_cuts_8 : decode cX8_cuts 8 = .ok (.iload_n 2, 1) := by decide +kernel
theorem dX8_cuts_9 : decode cX8_cuts 9 = .ok (.iload_n 3, 1) := by decide +kernel
theorem dX8_cuts_10 : decode cX8_cuts 10 = .ok (.if_icmp .le 6, 3) := by decide +kernel
theorem dX8_cuts_13 : decode cX8_cuts 13 = .ok (.bipush (-2), 2) := by decide +kernel
theorem dX8_cuts_15 : decode cX8_cuts 15 = .ok (.ireturn, 1) := by decide +kernel
theorem dX8_cuts_16 : decode cX8_cuts 16 = .ok (.aload_n 0, 1) := by decide +kernel
theorem dX8_cuts_17 : decode cX8_cuts 17 = .ok (.getfield 11, 3) := by decide +kernel
theorem dX8_cuts_20 : decode cX8_cuts 20 = .ok (.iload_n 1, 1) := by decide +kernel
theorem dX8_cuts_21 : decode cX8_cuts 21 = .ok (.aaload, 1) := by decide +kernel
theorem dX8_cuts_22 : decode cX8_cuts 22 = .ok (.invokevirtual 173, 3) := by decide +kernel
theorem dX8_cuts_25 : decode cX8_cuts 25 = .ok (.ifCond .eq 6, 3) := by decide +kernel
theorem dX8_cuts_28 : decode cX8_cuts 28 = .ok (.bipush (-6), 2) := by decide +kernel
theorem dX8_cuts_30 : decode cX8_cuts 30 = .ok (.ireturn, 1) := by decide +kernel
theorem dX8_cuts_31 : decode cX8_cuts 31 = .ok (.aload_n 0, 1) := by decide +kernel
theorem dX8_cuts_32 : decode cX8_cuts 32 = .ok (.iload_n 1, 1) := by decide +kernel
theorem dX8_cuts_33 : decode cX8_cuts 33 = .ok (.invokevirtual 176, 3) := by decide +kernel
theorem dX8_cuts_36 : decode cX8_cuts 36 = .ok (.iload_n 2, 1) := by decide +kernel
theorem dX8_cuts_37 : decode cX8_cuts 37 = .ok (.iload_n 3, 1) := by decide +kernel
theorem dX8_cuts_38 : decode cX8_cuts 38 = .ok (.invokevirtual 340, 3) := by decide +kernel
theorem dX8_cuts_41 : decode cX8_cuts 41 = .ok (.istore 4, 2) := by decide +kernel
theorem dX8_cuts_43 : decode cX8_cuts 43 = .ok (.aload_n 0, 1) := by decide +kernel
theorem dX8_cuts_44 : decode cX8_cuts 44 = .ok (.iload_n 1, 1) := by decide +kernel
theorem dX8_cuts_45 : decode cX8_cuts 45 = .ok (.aload_n 0, 1) := by decide +kernel
theorem dX8_cuts_46 : decode cX8_cuts 46 = .ok (.getfield 11, 3) := by decide +kernel
theorem dX8_cuts_49 : decode cX8_cuts 49 = .ok (.iload_n 1, 1) := by decide +kernel
theorem dX8_cuts_50 : decode cX8_cuts 50 = .ok (.aaload, 1) := by decide +kernel
theorem dX8_cuts_51 : decode cX8_cuts 51 = .ok (.getfield 145, 3) := by decide +kernel
theorem dX8_cuts_54 : decode cX8_cuts 54 = .ok (.invokevirtual 333, 3) := by decide +kernel
theorem dX8_cuts_57 : decode cX8_cuts 57 = .ok (.ifCond .ge 8, 3) := by decide +kernel
theorem dX8_cuts_60 : decode cX8_cuts 60 = .ok (.bipush (-4), 2) := by decide +kernel
theorem dX8_cuts_62 : decode cX8_cuts 62 = .ok (.goto 5, 3) := by decide +kernel
theorem dX8_cuts_65 : decode cX8_cuts 65 = .ok (.iload 4, 2) := by decide +kernel
theorem dX8_cuts_67 : decode cX8_cuts 67 = .ok (.ireturn, 1) := by decide +kernel
theorem dX8_rounds_0 : decode cX8_rounds 0 = .ok (.aload_n 0, 1) := by decide +kernel
theorem dX8_rounds_1 : decode cX8_rounds 1 = .ok (.iload_n 1, 1) := by decide +kernel
theorem dX8_rounds_2 : decode cX8_rounds 2 = .ok (.invokevirtual 81, 3) := by decide +kernel
theorem dX8_rounds_5 : decode cX8_rounds 5 = .ok (.ifCond .ne 14, 3) := by decide +kernel
theorem dX8_rounds_8 : decode cX8_rounds 8 = .ok (.iload_n 2, 1) := by decide +kernel
theorem dX8_rounds_9 : decode cX8_rounds 9 = .ok (.iconst 1, 1) := by decide +kernel
theorem dX8_rounds_10 : decode cX8_rounds 10 = .ok (.if_icmp .lt 9, 3) := by decide +kernel
theorem dX8_rounds_13 : decode cX8_rounds 13 = .ok (.iload_n 2, 1) := by decide +kernel
theorem dX8_rounds_14 : decode cX8_rounds 14 = .ok (.bipush 52, 2) := by decide +kernel
theorem dX8_rounds_16 : decode cX8_rounds 16 = .ok (.if_icmp .le 6, 3) := by decide +kernel
theorem dX8_rounds_19 : decode cX8_rounds 19 = .ok (.bipush (-2), 2) := by decide +kernel
theorem dX8_rounds_21 : decode cX8_rounds 21 = .ok (.ireturn, 1) := by decide +kernel
theorem dX8_rounds_22 : decode cX8_rounds 22 = .ok (.aload_n 0, 1) := by decide +kernel
theorem dX8_rounds_23 : decode cX8_rounds 23 = .ok (.getfield 11, 3) := by decide +kernel
theorem dX8_rounds_26 : decode cX8_rounds 26 = .ok (.iload_n 1, 1) := by decide +kernel
theorem dX8_rounds_27 : decode cX8_rounds 27 = .ok (.aaload, 1) := by decide +kernel
theorem dX8_rounds_28 : decode cX8_rounds 28 = .ok (.invokevirtual 173, 3) := by decide +kernel
theorem dX8_rounds_31 : decode cX8_rounds 31 = .ok (.ifCond .eq 6, 3) := by decide +kernel
theorem dX8_rounds_34 : decode cX8_rounds 34 = .ok (.bipush (-6), 2) := by decide +kernel
theorem dX8_rounds_36 : decode cX8_rounds 36 = .ok (.ireturn, 1) := by decide +kernel
theorem dX8_rounds_37 : decode cX8_rounds 37 = .ok (.aload_n 0, 1) := by decide +kernel
theorem dX8_rounds_38 : decode cX8_rounds 38 = .ok (.iload_n 1, 1) := by decide +kernel
theorem dX8_rounds_39 : decode cX8_rounds 39 = .ok (.invokevirtual 176, 3) := by decide +kernel
theorem dX8_rounds_42 : decode cX8_rounds 42 = .ok (.iload_n 2, 1) := by decide +kernel
theorem dX8_rounds_43 : decode cX8_rounds 43 = .ok (.invokevirtual 343, 3) := by decide +kernel
theorem dX8_rounds_46 : decode cX8_rounds 46 = .ok (.istore_n 3, 1) := by decide +kernel
theorem dX8_rounds_47 : decode cX8_rounds 47 = .ok (.aload_n 0, 1) := by decide +kernel
theorem dX8_rounds_48 : decode cX8_rounds 48 = .ok (.iload_n 1, 1) := by decide +kernel
theorem dX8_rounds_49 : decode cX8_rounds 49 = .ok (.aload_n 0, 1) := by decide +kernel
theorem dX8_rounds_50 : decode cX8_rounds 50 = .ok (.getfield 11, 3) := by decide +kernel
theorem dX8_rounds_53 : decode cX8_rounds 53 = .ok (.iload_n 1, 1) := by decide +kernel
theorem dX8_rounds_54 : decode cX8_rounds 54 = .ok (.aaload, 1) := by decide +kernel
theorem dX8_rounds_55 : decode cX8_rounds 55 = .ok (.getfield 145, 3) := by decide +kernel
theorem dX8_rounds_58 : decode cX8_rounds 58 = .ok (.invokevirtual 333, 3) := by decide +kernel
theorem dX8_rounds_61 : decode cX8_rounds 61 = .ok (.ifCond .ge 8, 3) := by decide +kernel
theorem dX8_rounds_64 : decode cX8_rounds 64 = .ok (.bipush (-4), 2) := by decide +kernel
theorem dX8_rounds_66 : decode cX8_rounds 66 = .ok (.goto 4, 3) := by decide +kernel
theorem dX8_rounds_69 : decode cX8_rounds 69 = .ok (.iload_n 3, 1) := by decide +kernel
theorem dX8_rounds_70 : decode cX8_rounds 70 = .ok (.ireturn, 1) := by decide +kernel
theorem dX8_rounded_0 : decode cX8_rounded 0 = .ok (.aload_n 0, 1) := by decide +kernel
theorem dX8_rounded_1 : decode cX8_rounded 1 = .ok (.iload_n 1, 1) := by decide +kernel
theorem dX8_rounded_2 : decode cX8_rounded 2 = .ok (.invokevirtual 81, 3) := by decide +kernel
theorem dX8_rounded_5 : decode cX8_rounded 5 = .ok (.ifCond .ne 14, 3) := by decide +kernel
theorem dX8_rounded_8 : decode cX8_rounded 8 = .ok (.iload_n 2, 1) := by decide +kernel
theorem dX8_rounded_9 : decode cX8_rounded 9 = .ok (.iconst 1, 1) := by decide +kernel
theorem dX8_rounded_10 : decode cX8_rounded 10 = .ok (.if_icmp .lt 9, 3) := by decide +kernel
theorem dX8_rounded_13 : decode cX8_rounded 13 = .ok (.iload_n 2, 1) := by decide +kernel
theorem dX8_rounded_14 : decode cX8_rounded 14 = .ok (.bipush 52, 2) := by decide +kernel
theorem dX8_rounded_16 : decode cX8_rounded 16 = .ok (.if_icmp .le 6, 3) := by decide +kernel
theorem dX8_rounded_19 : decode cX8_rounded 19 = .ok (.bipush (-2), 2) := by decide +kernel
theorem dX8_rounded_21 : decode cX8_rounded 21 = .ok (.ireturn, 1) := by decide +kernel
theorem dX8_rounded_22 : decode cX8_rounded 22 = .ok (.aload_n 0, 1) := by decide +kernel
theorem dX8_rounded_23 : decode cX8_rounded 23 = .ok (.getfield 11, 3) := by decide +kernel
theorem dX8_rounded_26 : decode cX8_rounded 26 = .ok (.iload_n 1, 1) := by decide +kernel
theorem dX8_rounded_27 : decode cX8_rounded 27 = .ok (.aaload, 1) := by decide +kernel
theorem dX8_rounded_28 : decode cX8_rounded 28 = .ok (.invokevirtual 173, 3) := by decide +kernel
theorem dX8_rounded_31 : decode cX8_rounded 31 = .ok (.ifCond .eq 6, 3) := by decide +kernel
theorem dX8_rounded_34 : decode cX8_rounded 34 = .ok (.bipush (-6), 2) := by decide +kernel
theorem dX8_rounded_36 : decode cX8_rounded 36 = .ok (.ireturn, 1) := by decide +kernel
theorem dX8_rounded_37 : decode cX8_rounded 37 = .ok (.aload_n 0, 1) := by decide +kernel
theorem dX8_rounded_38 : decode cX8_rounded 38 = .ok (.iload_n 1, 1) := by decide +kernel
theorem dX8_rounded_39 : decode cX8_rounded 39 = .ok (.invokevirtual 176, 3) := by decide +kernel
theorem dX8_rounded_42 : decode cX8_rounded 42 = .ok (.iload_n 2, 1) := by decide +kernel
theorem dX8_rounded_43 : decode cX8_rounded 43 = .ok (.invokevirtual 343, 3) := by decide +kernel
theorem dX8_rounded_46 : decode cX8_rounded 46 = .ok (.pop, 1) := by decide +kernel
theorem dX8_rounded_47 : decode cX8_rounded 47 = .ok (.aload_n 0, 1) := by decide +kernel
theorem dX8_rounded_48 : decode cX8_rounded 48 = .ok (.getfield 51, 3) := by decide +kernel
theorem dX8_rounded_51 : decode cX8_rounded 51 = .ok (.aload_n 0, 1) := by decide +kernel
theorem dX8_rounded_52 : decode cX8_rounded 52 = .ok (.getfield 25, 3) := by decide +kernel
theorem dX8_rounded_55 : decode cX8_rounded 55 = .ok (.aload_n 0, 1) := by decide +kernel
theorem dX8_rounded_56 : decode cX8_rounded 56 = .ok (.getfield 11, 3) := by decide +kernel
theorem dX8_rounded_59 : decode cX8_rounded 59 = .ok (.iload_n 1, 1) := by decide +kernel
theorem dX8_rounded_60 : decode cX8_rounded 60 = .ok (.aaload, 1) := by decide +kernel
theorem dX8_rounded_61 : decode cX8_rounded 61 = .ok (.getfield 145, 3) := by decide +kernel
theorem dX8_rounded_64 : decode cX8_rounded 64 = .ok (.invokevirtual 346, 3) := by decide +kernel
theorem dX8_rounded_67 : decode cX8_rounded 67 = .ok (.ireturn, 1) := by decide +kernel
theorem dX8_best_0 : decode cX8_best 0 = .ok (.aload_n 0, 1) := by decide +kernel
theorem dX8_best_1 : decode cX8_best 1 = .ok (.iload_n 1, 1) := by decide +kernel
theorem dX8_best_2 : decode cX8_best 2 = .ok (.invokevirtual 81, 3) := by decide +kernel
theorem dX8_best_5 : decode cX8_best 5 = .ok (.ifCond .eq 6, 3) := by decide +kernel
theorem dX8_best_8 : decode cX8_best 8 = .ok (.bipush (-2), 2) := by decide +kernel
theorem dX8_best_10 : decode cX8_best 10 = .ok (.ireturn, 1) := by decide +kernel
theorem dX8_best_11 : decode cX8_best 11 = .ok (.aload_n 0, 1) := by decide +kernel
theorem dX8_best_12 : decode cX8_best 12 = .ok (.getfield 11, 3) := by decide +kernel
theorem dX8_best_15 : decode cX8_best 15 = .ok (.iload_n 1, 1) := by decide +kernel
theorem dX8_best_16 : decode cX8_best 16 = .ok (.aaload, 1) := by decide +kernel
theorem dX8_best_17 : decode cX8_best 17 = .ok (.invokevirtual 173, 3) := by decide +kernel
theorem dX8_best_20 : decode cX8_best 20 = .ok (.ifCond .eq 6, 3) := by decide +kernel
theorem dX8_best_23 : decode cX8_best 23 = .ok (.bipush (-6), 2) := by decide +kernel
theorem dX8_best_25 : decode cX8_best 25 = .ok (.ireturn, 1) := by decide +kernel
theorem dX8_best_26 : decode cX8_best 26 = .ok (.aload_n 0, 1) := by decide +kernel
theorem dX8_best_27 : decode cX8_best 27 = .ok (.iload_n 1, 1) := by decide +kernel
theorem dX8_best_28 : decode cX8_best 28 = .ok (.invokevirtual 176, 3) := by decide +kernel
theorem dX8_best_31 : decode cX8_best 31 = .ok (.pop, 1) := by decide +kernel
theorem dX8_best_32 : decode cX8_best 32 = .ok (.iconst (-1), 1) := by decide +kernel
theorem dX8_best_33 : decode cX8_best 33 = .ok (.istore_n 2, 1) := by decide +kernel
theorem dX8_best_34 : decode cX8_best 34 = .ok (.iconst 0, 1) := by decide +kernel
theorem dX8_best_35 : decode cX8_best 35 = .ok (.istore_n 3, 1) := by decide +kernel
theorem dX8_best_36 : decode cX8_best 36 = .ok (.bipush 24, 2) := by decide +kernel
theorem dX8_best_38 : decode cX8_best 38 = .ok (.istore 4, 2) := by decide +kernel
theorem dX8_best_40 : decode cX8_best 40 = .ok (.iload 4, 2) := by decide +kernel
theorem dX8_best_42 : decode cX8_best 42 = .ok (.sipush 200, 3) := by decide +kernel
theorem dX8_best_45 : decode cX8_best 45 = .ok (.if_icmp .gt 46, 3) := by decide +kernel
theorem dX8_best_48 : decode cX8_best 48 = .ok (.aload_n 0, 1) := by decide +kernel
theorem dX8_best_49 : decode cX8_best 49 = .ok (.getfield 51, 3) := by decide +kernel
theorem dX8_best_52 : decode cX8_best 52 = .ok (.aload_n 0, 1) := by decide +kernel
theorem dX8_best_53 : decode cX8_best 53 = .ok (.getfield 25, 3) := by decide +kernel
theorem dX8_best_56 : decode cX8_best 56 = .ok (.iload 4, 2) := by decide +kernel
theorem dX8_best_58 : decode cX8_best 58 = .ok (.invokevirtual 346, 3) := by decide +kernel
theorem dX8_best_61 : decode cX8_best 61 = .ok (.istore 5, 2) := by decide +kernel
theorem dX8_best_63 : decode cX8_best 63 = .ok (.iload 5, 2) := by decide +kernel
theorem dX8_best_65 : decode cX8_best 65 = .ok (.ifCond .lt 20, 3) := by decide +kernel
theorem dX8_best_68 : decode cX8_best 68 = .ok (.iload_n 2, 1) := by decide +kernel
theorem dX8_best_69 : decode cX8_best 69 = .ok (.iconst (-1), 1) := by decide +kernel
theorem dX8_best_70 : decode cX8_best 70 = .ok (.if_icmp .eq 9, 3) := by decide +kernel
theorem dX8_best_73 : decode cX8_best 73 = .ok (.iload 5, 2) := by decide +kernel
theorem dX8_best_75 : decode cX8_best 75 = .ok (.iload_n 3, 1) := by decide +kernel
theorem dX8_best_76 : decode cX8_best 76 = .ok (.if_icmp .ge 9, 3) := by decide +kernel
theorem dX8_best_79 : decode cX8_best 79 = .ok (.iload 4, 2) := by decide +kernel
theorem dX8_best_81 : decode cX8_best 81 = .ok (.istore_n 2, 1) := by decide +kernel
theorem dX8_best_82 : decode cX8_best 82 = .ok (.iload 5, 2) := by decide +kernel
theorem dX8_best_84 : decode cX8_best 84 = .ok (.istore_n 3, 1) := by decide +kernel
theorem dX8_best_85 : decode cX8_best 85 = .ok (.iinc 4 1, 3) := by decide +kernel
theorem dX8_best_88 : decode cX8_best 88 = .ok (.goto (-48), 3) := by decide +kernel
theorem dX8_best_91 : decode cX8_best 91 = .ok (.iload_n 2, 1) := by decide +kernel
theorem dX8_best_92 : decode cX8_best 92 = .ok (.ireturn, 1) := by decide +kernel
theorem dX8_packMine_0 : decode cX8_packMine 0 = .ok (.aload_n 0, 1) := by decide +kernel
theorem dX8_packMine_1 : decode cX8_packMine 1 = .ok (.getfield 16, 3) := by decide +kernel
theorem dX8_packMine_4 : decode cX8_packMine 4 = .ok (.iload_n 2, 1) := by decide +kernel
theorem dX8_packMine_5 : decode cX8_packMine 5 = .ok (.invokevirtual 78, 3) := by decide +kernel
theorem dX8_packMine_8 : decode cX8_packMine 8 = .ok (.iconst 0, 1) := by decide +kernel
theorem dX8_packMine_9 : decode cX8_packMine 9 = .ok (.istore_n 3, 1) := by decide +kernel
theorem dX8_packMine_10 : decode cX8_packMine 10 = .ok (.iload_n 3, 1) := by decide +kernel
theorem dX8_packMine_11 : decode cX8_packMine 11 = .ok (.aload_n 0, 1) := by decide +kernel
theorem dX8_packMine_12 : decode cX8_packMine 12 = .ok (.getfield 25, 3) := by decide +kernel
theorem dX8_packMine_15 : decode cX8_packMine 15 = .ok (.getfield 102, 3) := by decide +kernel
theorem dX8_packMine_18 : decode cX8_packMine 18 = .ok (.if_icmp .ge 40, 3) := by decide +kernel
theorem dX8_packMine_21 : decode cX8_packMine 21 = .ok (.aload_n 0, 1) := by decide +kernel
theorem dX8_packMine_22 : decode cX8_packMine 22 = .ok (.getfield 16, 3) := by decide +kernel
theorem dX8_packMine_25 : decode cX8_packMine 25 = .ok (.aload_n 0, 1) := by decide +kernel
theorem dX8_packMine_26 : decode cX8_packMine 26 = .ok (.getfield 25, 3) := by decide +kernel
theorem dX8_packMine_29 : decode cX8_packMine 29 = .ok (.getfield 240, 3) := by decide +kernel
theorem dX8_packMine_32 : decode cX8_packMine 32 = .ok (.iload_n 3, 1) := by decide +kernel
theorem dX8_packMine_33 : decode cX8_packMine 33 = .ok (.iaload, 1) := by decide +kernel
theorem dX8_packMine_34 : decode cX8_packMine 34 = .ok (.aload_n 0, 1) := by decide +kernel
theorem dX8_packMine_35 : decode cX8_packMine 35 = .ok (.getfield 25, 3) := by decide +kernel
theorem dX8_packMine_38 : decode cX8_packMine 38 = .ok (.getfield 232, 3) := by decide +kernel
theorem dX8_packMine_41 : decode cX8_packMine 41 = .ok (.iload_n 3, 1) := by decide +kernel
theorem dX8_packMine_42 : decode cX8_packMine 42 = .ok (.laload, 1) := by decide +kernel
theorem dX8_packMine_43 : decode cX8_packMine 43 = .ok (.invokevirtual 91, 3) := by decide +kernel
theorem dX8_packMine_46 : decode cX8_packMine 46 = .ok (.ifCond .ge 6, 3) := by decide +kernel
theorem dX8_packMine_49 : decode cX8_packMine 49 = .ok (.bipush (-4), 2) := by decide +kernel
theorem dX8_packMine_51 : decode cX8_packMine 51 = .ok (.ireturn, 1) := by decide +kernel
theorem dX8_packMine_52 : decode cX8_packMine 52 = .ok (.iinc 3 1, 3) := by decide +kernel
theorem dX8_packMine_55 : decode cX8_packMine 55 = .ok (.goto (-45), 3) := by decide +kernel
theorem dX8_packMine_58 : decode cX8_packMine 58 = .ok (.aload_n 0, 1) := by decide +kernel
theorem dX8_packMine_59 : decode cX8_packMine 59 = .ok (.iload_n 1, 1) := by decide +kernel
theorem dX8_packMine_60 : decode cX8_packMine 60 = .ok (.invokevirtual 326, 3) := by decide +kernel
theorem dX8_packMine_63 : decode cX8_packMine 63 = .ok (.ireturn, 1) := by decide +kernel
theorem dX8_useSpare_0 : decode cX8_useSpare 0 = .ok (.aload_n 0, 1) := by decide +kernel
theorem dX8_useSpare_1 : decode cX8_useSpare 1 = .ok (.getfield 11, 3) := by decide +kernel
theorem dX8_useSpare_4 : decode cX8_useSpare 4 = .ok (.iload_n 1, 1) := by decide +kernel
theorem dX8_useSpare_5 : decode cX8_useSpare 5 = .ok (.aaload, 1) := by decide +kernel
theorem dX8_useSpare_6 : decode cX8_useSpare 6 = .ok (.astore_n 2, 1) := by decide +kernel
theorem dX8_useSpare_7 : decode cX8_useSpare 7 = .ok (.aload_n 0, 1) := by decide +kernel
theorem dX8_useSpare_8 : decode cX8_useSpare 8 = .ok (.getfield 11, 3) := by decide +kernel
theorem dX8_useSpare_11 : decode cX8_useSpare 11 = .ok (.iload_n 1, 1) := by decide +kernel
theorem dX8_useSpare_12 : decode cX8_useSpare 12 = .ok (.aload_n 0, 1) := by decide +kernel
theorem dX8_useSpare_13 : decode cX8_useSpare 13 = .ok (.getfield 16, 3) := by decide +kernel
theorem dX8_useSpare_16 : decode cX8_useSpare 16 = .ok (.aastore, 1) := by decide +kernel
theorem dX8_useSpare_17 : decode cX8_useSpare 17 = .ok (.aload_n 0, 1) := by decide +kernel
theorem dX8_useSpare_18 : decode cX8_useSpare 18 = .ok (.aload_n 2, 1) := by decide +kernel
theorem dX8_useSpare_19 : decode cX8_useSpare 19 = .ok (.putfield 16, 3) := by decide +kernel
theorem dX8_useSpare_22 : decode cX8_useSpare 22 = .ok (.aload_n 0, 1) := by decide +kernel
theorem dX8_useSpare_23 : decode cX8_useSpare 23 = .ok (.getfield 11, 3) := by decide +kernel
theorem dX8_useSpare_26 : decode cX8_useSpare 26 = .ok (.iload_n 1, 1) := by decide +kernel
theorem dX8_useSpare_27 : decode cX8_useSpare 27 = .ok (.aaload, 1) := by decide +kernel
theorem dX8_useSpare_28 : decode cX8_useSpare 28 = .ok (.getfield 169, 3) := by decide +kernel
theorem dX8_useSpare_31 : decode cX8_useSpare 31 = .ok (.ireturn, 1) := by decide +kernel
theorem dX8_gathered_0 : decode cX8_gathered 0 = .ok (.aload_n 0, 1) := by decide +kernel
theorem dX8_gathered_1 : decode cX8_gathered 1 = .ok (.getfield 11, 3) := by decide +kernel
theorem dX8_gathered_4 : decode cX8_gathered 4 = .ok (.iload_n 1, 1) := by decide +kernel
theorem dX8_gathered_5 : decode cX8_gathered 5 = .ok (.aaload, 1) := by decide +kernel
theorem dX8_gathered_6 : decode cX8_gathered 6 = .ok (.iconst 0, 1) := by decide +kernel
theorem dX8_gathered_7 : decode cX8_gathered 7 = .ok (.ldc_w 350, 3) := by decide +kernel
theorem dX8_gathered_10 : decode cX8_gathered 10 = .ok (.aload_n 0, 1) := by decide +kernel
theorem dX8_gathered_11 : decode cX8_gathered 11 = .ok (.getfield 44, 3) := by decide +kernel
theorem dX8_gathered_14 : decode cX8_gathered 14 = .ok (.aload_n 0, 1) := by decide +kernel
theorem dX8_gathered_15 : decode cX8_gathered 15 = .ok (.getfield 25, 3) := by decide +kernel
theorem dX8_gathered_18 : decode cX8_gathered 18 = .ok (.invokevirtual 228, 3) := by decide +kernel
theorem dX8_gathered_21 : decode cX8_gathered 21 = .ok (.aload_n 0, 1) := by decide +kernel
theorem dX8_gathered_22 : decode cX8_gathered 22 = .ok (.getfield 25, 3) := by decide +kernel
theorem dX8_gathered_25 : decode cX8_gathered 25 = .ok (.areturn, 1) := by decide +kernel
theorem dX8_gatherBoth_0 : decode cX8_gatherBoth 0 = .ok (.aload_n 0, 1) := by decide +kernel
theorem dX8_gatherBoth_1 : decode cX8_gatherBoth 1 = .ok (.getfield 11, 3) := by decide +kernel
theorem dX8_gatherBoth_4 : decode cX8_gatherBoth 4 = .ok (.iload_n 1, 1) := by decide +kernel
theorem dX8_gatherBoth_5 : decode cX8_gatherBoth 5 = .ok (.aaload, 1) := by decide +kernel
theorem dX8_gatherBoth_6 : decode cX8_gatherBoth 6 = .ok (.iconst 0, 1) := by decide +kernel
theorem dX8_gatherBoth_7 : decode cX8_gatherBoth 7 = .ok (.ldc_w 350, 3) := by decide +kernel
theorem dX8_gatherBoth_10 : decode cX8_gatherBoth 10 = .ok (.aload_n 0, 1) := by decide +kernel
theorem dX8_gatherBoth_11 : decode cX8_gatherBoth 11 = .ok (.getfield 44, 3) := by decide +kernel
theorem dX8_gatherBoth_14 : decode cX8_gatherBoth 14 = .ok (.aload_n 0, 1) := by decide +kernel
theorem dX8_gatherBoth_15 : decode cX8_gatherBoth 15 = .ok (.getfield 25, 3) := by decide +kernel
theorem dX8_gatherBoth_18 : decode cX8_gatherBoth 18 = .ok (.invokevirtual 228, 3) := by decide +kernel
theorem dX8_gatherBoth_21 : decode cX8_gatherBoth 21 = .ok (.aload_n 0, 1) := by decide +kernel
theorem dX8_gatherBoth_22 : decode cX8_gatherBoth 22 = .ok (.getfield 11, 3) := by decide +kernel
theorem dX8_gatherBoth_25 : decode cX8_gatherBoth 25 = .ok (.iload_n 2, 1) := by decide +kernel
theorem dX8_gatherBoth_26 : decode cX8_gatherBoth 26 = .ok (.aaload, 1) := by decide +kernel
theorem dX8_gatherBoth_27 : decode cX8_gatherBoth 27 = .ok (.iconst 0, 1) := by decide +kernel
theorem dX8_gatherBoth_28 : decode cX8_gatherBoth 28 = .ok (.ldc_w 350, 3) := by decide +kernel
theorem dX8_gatherBoth_31 : decode cX8_gatherBoth 31 = .ok (.aload_n 0, 1) := by decide +kernel
theorem dX8_gatherBoth_32 : decode cX8_gatherBoth 32 = .ok (.getfield 44, 3) := by decide +kernel
theorem dX8_gatherBoth_35 : decode cX8_gatherBoth 35 = .ok (.aload_n 0, 1) := by decide +kernel
theorem dX8_gatherBoth_36 : decode cX8_gatherBoth 36 = .ok (.getfield 29, 3) := by decide +kernel
theorem dX8_gatherBoth_39 : decode cX8_gatherBoth 39 = .ok (.invokevirtual 228, 3) := by decide +kernel
theorem dX8_gatherBoth_42 : decode cX8_gatherBoth 42 = .ok (.return_, 1) := by decide +kernel
theorem dX8_blockOf_0 : decode cX8_blockOf 0 = .ok (.aload_n 0, 1) := by decide +kernel
theorem dX8_blockOf_1 : decode cX8_blockOf 1 = .ok (.iload_n 1, 1) := by decide +kernel
theorem dX8_blockOf_2 : decode cX8_blockOf 2 = .ok (.invokevirtual 81, 3) := by decide +kernel
theorem dX8_blockOf_5 : decode cX8_blockOf 5 = .ok (.ifCond .ne 20, 3) := by decide +kernel
theorem dX8_blockOf_8 : decode cX8_blockOf 8 = .ok (.iload_n 2, 1) := by decide +kernel
theorem dX8_blockOf_9 : decode cX8_blockOf 9 = .ok (.ifCond .lt 16, 3) := by decide +kernel
theorem dX8_blockOf_12 : decode cX8_blockOf 12 = .ok (.iload_n 2, 1) := by decide +kernel
theorem dX8_blockOf_13 : decode cX8_blockOf 13 = .ok (.aload_n 0, 1) := by decide +kernel
theorem dX8_blockOf_14 : decode cX8_blockOf 14 = .ok (.getfield 11, 3) := by decide +kernel
theorem dX8_blockOf_17 : decode cX8_blockOf 17 = .ok (.iload_n 1, 1) := by decide +kernel
theorem dX8_blockOf_18 : decode cX8_blockOf 18 = .ok (.aaload, 1) := by decide +kernel
theorem dX8_blockOf_19 : decode cX8_blockOf 19 = .ok (.getfield 169, 3) := by decide +kernel
theorem dX8_blockOf_22 : decode cX8_blockOf 22 = .ok (.if_icmp .lt 5, 3) := by decide +kernel
theorem dX8_blockOf_25 : decode cX8_blockOf 25 = .ok (.aconst_null, 1) := by decide +kernel
theorem dX8_blockOf_26 : decode cX8_blockOf 26 = .ok (.areturn, 1) := by decide +kernel
theorem dX8_blockOf_27 : decode cX8_blockOf 27 = .ok (.aload_n 0, 1) := by decide +kernel
theorem dX8_blockOf_28 : decode cX8_blockOf 28 = .ok (.getfield 11, 3) := by decide +kernel
theorem dX8_blockOf_31 : decode cX8_blockOf 31 = .ok (.iload_n 1, 1) := by decide +kernel
theorem dX8_blockOf_32 : decode cX8_blockOf 32 = .ok (.aaload, 1) := by decide +kernel
theorem dX8_blockOf_33 : decode cX8_blockOf 33 = .ok (.getfield 205, 3) := by decide +kernel
theorem dX8_blockOf_36 : decode cX8_blockOf 36 = .ok (.iload_n 2, 1) := by decide +kernel
theorem dX8_blockOf_37 : decode cX8_blockOf 37 = .ok (.aaload, 1) := by decide +kernel
theorem dX8_blockOf_38 : decode cX8_blockOf 38 = .ok (.areturn, 1) := by decide +kernel
theorem dX8_isNone_0 : decode cX8_isNone 0 = .ok (.iload_n 1, 1) := by decide +kernel
theorem dX8_isNone_1 : decode cX8_isNone 1 = .ok (.invokestatic 71, 3) := by decide +kernel
theorem dX8_isNone_4 : decode cX8_isNone 4 = .ok (.ifCond .eq 15, 3) := by decide +kernel
theorem dX8_isNone_7 : decode cX8_isNone 7 = .ok (.aload_n 0, 1) := by decide +kernel
theorem dX8_isNone_8 : decode cX8_isNone 8 = .ok (.getfield 11, 3) := by decide +kernel
theorem dX8_isNone_11 : decode cX8_isNone 11 = .ok (.iload_n 1, 1) := by decide +kernel
theorem dX8_isNone_12 : decode cX8_isNone 12 = .ok (.aaload, 1) := by decide +kernel
theorem dX8_isNone_13 : decode cX8_isNone 13 = .ok (.getfield 351, 3) := by decide +kernel
theorem dX8_isNone_16 : decode cX8_isNone 16 = .ok (.ifCond .ne 7, 3) := by decide +kernel
theorem dX8_isNone_19 : decode cX8_isNone 19 = .ok (.iconst 1, 1) := by decide +kernel
theorem dX8_isNone_20 : decode cX8_isNone 20 = .ok (.goto 4, 3) := by decide +kernel
theorem dX8_isNone_23 : decode cX8_isNone 23 = .ok (.iconst 0, 1) := by decide +kernel
theorem dX8_isNone_24 : decode cX8_isNone 24 = .ok (.ireturn, 1) := by decide +kernel
theorem dX8_isSlot_0 : decode cX8_isSlot 0 = .ok (.iload_n 0, 1) := by decide +kernel
theorem dX8_isSlot_1 : decode cX8_isSlot 1 = .ok (.ifCond .lt 12, 3) := by decide +kernel
theorem dX8_isSlot_4 : decode cX8_isSlot 4 = .ok (.iload_n 0, 1) := by decide +kernel
theorem dX8_isSlot_5 : decode cX8_isSlot 5 = .ok (.iconst 4, 1) := by decide +kernel
theorem dX8_isSlot_6 : decode cX8_isSlot 6 = .ok (.if_icmp .ge 7, 3) := by decide +kernel
theorem dX8_isSlot_9 : decode cX8_isSlot 9 = .ok (.iconst 1, 1) := by decide +kernel
theorem dX8_isSlot_10 : decode cX8_isSlot 10 = .ok (.goto 4, 3) := by decide +kernel
theorem dX8_isSlot_13 : decode cX8_isSlot 13 = .ok (.iconst 0, 1) := by decide +kernel
theorem dX8_isSlot_14 : decode cX8_isSlot 14 = .ok (.ireturn, 1) := by decide +kernel
theorem dX8_isRoom_0 : decode cX8_isRoom 0 = .ok (.iload_n 0, 1) := by decide +kernel
theorem dX8_isRoom_1 : decode cX8_isRoom 1 = .ok (.bipush 24, 2) := by decide +kernel
theorem dX8_isRoom_3 : decode cX8_isRoom 3 = .ok (.if_icmp .lt 14, 3) := by decide +kernel
theorem dX8_isRoom_6 : decode cX8_isRoom 6 = .ok (.iload_n 0, 1) := by decide +kernel
theorem dX8_isRoom_7 : decode cX8_isRoom 7 = .ok (.sipush 200, 3) := by decide +kernel
theorem dX8_isRoom_10 : decode cX8_isRoom 10 = .ok (.if_icmp .gt 7, 3) := by decide +kernel
theorem dX8_isRoom_13 : decode cX8_isRoom 13 = .ok (.iconst 1, 1) := by decide +kernel
theorem dX8_isRoom_14 : decode cX8_isRoom 14 = .ok (.goto 4, 3) := by decide +kernel
theorem dX8_isRoom_17 : decode cX8_isRoom 17 = .ok (.iconst 0, 1) := by decide +kernel
theorem dX8_isRoom_18 : decode cX8_isRoom 18 = .ok (.ireturn, 1) := by decide +kernel
theorem dX8_isStamp_0 : decode cX8_isStamp 0 = .ok (.iload_n 0, 1) := by decide +kernel
theorem dX8_isStamp_1 : decode cX8_isStamp 1 = .ok (.ifCond .lt 14, 3) := by decide +kernel
theorem dX8_isStamp_4 : decode cX8_isStamp 4 = .ok (.iload_n 0, 1) := by decide +kernel
theorem dX8_isStamp_5 : decode cX8_isStamp 5 = .ok (.ldc_w 350, 3) := by decide +kernel
theorem dX8_isStamp_8 : decode cX8_isStamp 8 = .ok (.if_icmp .gt 7, 3) := by decide +kernel
theorem dX8_isStamp_11 : decode cX8_isStamp 11 = .ok (.iconst 1, 1) := by decide +kernel
theorem dX8_isStamp_12 : decode cX8_isStamp 12 = .ok (.goto 4, 3) := by decide +kernel
theorem dX8_isStamp_15 : decode cX8_isStamp 15 = .ok (.iconst 0, 1) := by decide +kernel
theorem dX8_isStamp_16 : decode cX8_isStamp 16 = .ok (.ireturn, 1) := by decide +kernel
theorem dJxe99ae_isNaN_b9ae7_0 : decode cJxe99ae_isNaN_b9ae7 0 = .ok (.dload_n 0, 1) := by decide +kernel
theorem dJxe99ae_isNaN_b9ae7_1 : decode cJxe99ae_isNaN_b9ae7 1 = .ok (.dload_n 0, 1) := by decide +kernel
theorem dJxe99ae_isNaN_b9ae7_2 : decode cJxe99ae_isNaN_b9ae7 2 = .ok (.dcmp .l, 1) := by decide +kernel
theorem dJxe99ae_isNaN_b9ae7_3 : decode cJxe99ae_isNaN_b9ae7 3 = .ok (.ifCond .eq 7, 3) := by decide +kernel
theorem dJxe99ae_isNaN_b9ae7_6 : decode cJxe99ae_isNaN_b9ae7 6 = .ok (.iconst 1, 1) := by decide +kernel
theorem dJxe99ae_isNaN_b9ae7_7 : decode cJxe99ae_isNaN_b9ae7 7 = .ok (.goto 4, 3) := by decide +kernel
theorem dJxe99ae_isNaN_b9ae7_10 : decode cJxe99ae_isNaN_b9ae7 10 = .ok (.iconst 0, 1) := by decide +kernel
theorem dJxe99ae_isNaN_b9ae7_11 : decode cJxe99ae_isNaN_b9ae7 11 = .ok (.ireturn, 1) := by decide +kernel
theorem dJxe99ae_doubleToLongBits_ccdee_0 : decode cJxe99ae_doubleToLongBits_ccdee 0 = .ok (.dload_n 0, 1) := by decide +kernel
theorem dJxe99ae_doubleToLongBits_ccdee_1 : decode cJxe99ae_doubleToLongBits_ccdee 1 = .ok (.invokestatic 122, 3) := by decide +kernel
theorem dJxe99ae_doubleToLongBits_ccdee_4 : decode cJxe99ae_doubleToLongBits_ccdee 4 = .ok (.ifCond .ne 8, 3) := by decide +kernel
theorem dJxe99ae_doubleToLongBits_ccdee_7 : decode cJxe99ae_doubleToLongBits_ccdee 7 = .ok (.dload_n 0, 1) := by decide +kernel
theorem dJxe99ae_doubleToLongBits_ccdee_8 : decode cJxe99ae_doubleToLongBits_ccdee 8 = .ok (.invokestatic 134, 3) := by decide +kernel
theorem dJxe99ae_doubleToLongBits_ccdee_11 : decode cJxe99ae_doubleToLongBits_ccdee 11 = .ok (.lreturn, 1) := by decide +kernel
theorem dJxe99ae_doubleToLongBits_ccdee_12 : decode cJxe99ae_doubleToLongBits_ccdee 12 = .ok (.ldc2_w 137, 3) := by decide +kernel
theorem dJxe99ae_doubleToLongBits_ccdee_15 : decode cJxe99ae_doubleToLongBits_ccdee 15 = .ok (.lreturn, 1) := by decide +kernel
theorem dJ6_numberOfLeadingZeros_0f7a4_0 : decode cJ6_numberOfLeadingZeros_0f7a4 0 = .ok (.iload_n 0, 1) := by decide +kernel
theorem dJ6_numberOfLeadingZeros_0f7a4_1 : decode cJ6_numberOfLeadingZeros_0f7a4 1 = .ok (.ifCond .gt 14, 3) := by decide +kernel
theorem dJ6_numberOfLeadingZeros_0f7a4_4 : decode cJ6_numberOfLeadingZeros_0f7a4 4 = .ok (.iload_n 0, 1) := by decide +kernel
theorem dJ6_numberOfLeadingZeros_0f7a4_5 : decode cJ6_numberOfLeadingZeros_0f7a4 5 = .ok (.ifCond .ne 8, 3) := by decide +kernel
theorem dJ6_numberOfLeadingZeros_0f7a4_8 : decode cJ6_numberOfLeadingZeros_0f7a4 8 = .ok (.bipush 32, 2) := by decide +kernel
theorem dJ6_numberOfLeadingZeros_0f7a4_10 : decode cJ6_numberOfLeadingZeros_0f7a4 10 = .ok (.goto 4, 3) := by decide +kernel
theorem dJ6_numberOfLeadingZeros_0f7a4_13 : decode cJ6_numberOfLeadingZeros_0f7a4 13 = .ok (.iconst 0, 1) := by decide +kernel
theorem dJ6_numberOfLeadingZeros_0f7a4_14 : decode cJ6_numberOfLeadingZeros_0f7a4 14 = .ok (.ireturn, 1) := by decide +kernel
theorem dJ6_numberOfLeadingZeros_0f7a4_15 : decode cJ6_numberOfLeadingZeros_0f7a4 15 = .ok (.bipush 31, 2) := by decide +kernel
theorem dJ6_numberOfLeadingZeros_0f7a4_17 : decode cJ6_numberOfLeadingZeros_0f7a4 17 = .ok (.istore_n 1, 1) := by decide +kernel
theorem dJ6_numberOfLeadingZeros_0f7a4_18 : decode cJ6_numberOfLeadingZeros_0f7a4 18 = .ok (.iload_n 0, 1) := by decide +kernel
theorem dJ6_numberOfLeadingZeros_0f7a4_19 : decode cJ6_numberOfLeadingZeros_0f7a4 19 = .ok (.ldc_w 264, 3) := by decide +kernel
theorem dJ6_numberOfLeadingZeros_0f7a4_22 : decode cJ6_numberOfLeadingZeros_0f7a4 22 = .ok (.if_icmp .lt 11, 3) := by decide +kernel
theorem dJ6_numberOfLeadingZeros_0f7a4_25 : decode cJ6_numberOfLeadingZeros_0f7a4 25 = .ok (.iinc 1 (-16), 3) := by decide +kernel
theorem dJ6_numberOfLeadingZeros_0f7a4_28 : decode cJ6_numberOfLeadingZeros_0f7a4 28 = .ok (.iload_n 0, 1) := by decide +kernel
theorem dJ6_numberOfLeadingZeros_0f7a4_29 : decode cJ6_numberOfLeadingZeros_0f7a4 29 = .ok (.bipush 16, 2) := by decide +kernel
theorem dJ6_numberOfLeadingZeros_0f7a4_31 : decode cJ6_numberOfLeadingZeros_0f7a4 31 = .ok (.iushr, 1) := by decide +kernel
theorem dJ6_numberOfLeadingZeros_0f7a4_32 : decode cJ6_numberOfLeadingZeros_0f7a4 32 = .ok (.istore_n 0, 1) := by decide +kernel
theorem dJ6_numberOfLeadingZeros_0f7a4_33 : decode cJ6_numberOfLeadingZeros_0f7a4 33 = .ok (.iload_n 0, 1) := by decide +kernel
theorem dJ6_numberOfLeadingZeros_0f7a4_34 : decode cJ6_numberOfLeadingZeros_0f7a4 34 = .ok (.sipush 256, 3) := by decide +kernel
theorem dJ6_numberOfLeadingZeros_0f7a4_37 : decode cJ6_numberOfLeadingZeros_0f7a4 37 = .ok (.if_icmp .lt 11, 3) := by decide +kernel
theorem dJ6_numberOfLeadingZeros_0f7a4_40 : decode cJ6_numberOfLeadingZeros_0f7a4 40 = .ok (.iinc 1 (-8), 3) := by decide +kernel
theorem dJ6_numberOfLeadingZeros_0f7a4_43 : decode cJ6_numberOfLeadingZeros_0f7a4 43 = .ok (.iload_n 0, 1) := by decide +kernel
theorem dJ6_numberOfLeadingZeros_0f7a4_44 : decode cJ6_numberOfLeadingZeros_0f7a4 44 = .ok (.bipush 8, 2) := by decide +kernel
theorem dJ6_numberOfLeadingZeros_0f7a4_46 : decode cJ6_numberOfLeadingZeros_0f7a4 46 = .ok (.iushr, 1) := by decide +kernel
theorem dJ6_numberOfLeadingZeros_0f7a4_47 : decode cJ6_numberOfLeadingZeros_0f7a4 47 = .ok (.istore_n 0, 1) := by decide +kernel
theorem dJ6_numberOfLeadingZeros_0f7a4_48 : decode cJ6_numberOfLeadingZeros_0f7a4 48 = .ok (.iload_n 0, 1) := by decide +kernel
theorem dJ6_numberOfLeadingZeros_0f7a4_49 : decode cJ6_numberOfLeadingZeros_0f7a4 49 = .ok (.bipush 16, 2) := by decide +kernel
theorem dJ6_numberOfLeadingZeros_0f7a4_51 : decode cJ6_numberOfLeadingZeros_0f7a4 51 = .ok (.if_icmp .lt 10, 3) := by decide +kernel
theorem dJ6_numberOfLeadingZeros_0f7a4_54 : decode cJ6_numberOfLeadingZeros_0f7a4 54 = .ok (.iinc 1 (-4), 3) := by decide +kernel
theorem dJ6_numberOfLeadingZeros_0f7a4_57 : decode cJ6_numberOfLeadingZeros_0f7a4 57 = .ok (.iload_n 0, 1) := by decide +kernel
theorem dJ6_numberOfLeadingZeros_0f7a4_58 : decode cJ6_numberOfLeadingZeros_0f7a4 58 = .ok (.iconst 4, 1) := by decide +kernel
theorem dJ6_numberOfLeadingZeros_0f7a4_59 : decode cJ6_numberOfLeadingZeros_0f7a4 59 = .ok (.iushr, 1) := by decide +kernel
theorem dJ6_numberOfLeadingZeros_0f7a4_60 : decode cJ6_numberOfLeadingZeros_0f7a4 60 = .ok (.istore_n 0, 1) := by decide +kernel
theorem dJ6_numberOfLeadingZeros_0f7a4_61 : decode cJ6_numberOfLeadingZeros_0f7a4 61 = .ok (.iload_n 0, 1) := by decide +kernel
theorem dJ6_numberOfLeadingZeros_0f7a4_62 : decode cJ6_numberOfLeadingZeros_0f7a4 62 = .ok (.iconst 4, 1) := by decide +kernel
theorem dJ6_numberOfLeadingZeros_0f7a4_63 : decode cJ6_numberOfLeadingZeros_0f7a4 63 = .ok (.if_icmp .lt 10, 3) := by decide +kernel
theorem dJ6_numberOfLeadingZeros_0f7a4_66 : decode cJ6_numberOfLeadingZeros_0f7a4 66 = .ok (.iinc 1 (-2), 3) := by decide +kernel
theorem dJ6_numberOfLeadingZeros_0f7a4_69 : decode cJ6_numberOfLeadingZeros_0f7a4 69 = .ok (.iload_n 0, 1) := by decide +kernel
theorem dJ6_numberOfLeadingZeros_0f7a4_70 : decode cJ6_numberOfLeadingZeros_0f7a4 70 = .ok (.iconst 2, 1) := by decide +kernel
theorem dJ6_numberOfLeadingZeros_0f7a4_71 : decode cJ6_numberOfLeadingZeros_0f7a4 71 = .ok (.iushr, 1) := by decide +kernel
theorem dJ6_numberOfLeadingZeros_0f7a4_72 : decode cJ6_numberOfLeadingZeros_0f7a4 72 = .ok (.istore_n 0, 1) := by decide +kernel
theorem dJ6_numberOfLeadingZeros_0f7a4_73 : decode cJ6_numberOfLeadingZeros_0f7a4 73 = .ok (.iload_n 1, 1) := by decide +kernel
theorem dJ6_numberOfLeadingZeros_0f7a4_74 : decode cJ6_numberOfLeadingZeros_0f7a4 74 = .ok (.iload_n 0, 1) := by decide +kernel
theorem dJ6_numberOfLeadingZeros_0f7a4_75 : decode cJ6_numberOfLeadingZeros_0f7a4 75 = .ok (.iconst 1, 1) := by decide +kernel
theorem dJ6_numberOfLeadingZeros_0f7a4_76 : decode cJ6_numberOfLeadingZeros_0f7a4 76 = .ok (.iushr, 1) := by decide +kernel
theorem dJ6_numberOfLeadingZeros_0f7a4_77 : decode cJ6_numberOfLeadingZeros_0f7a4 77 = .ok (.isub, 1) := by decide +kernel
theorem dJ6_numberOfLeadingZeros_0f7a4_78 : decode cJ6_numberOfLeadingZeros_0f7a4 78 = .ok (.ireturn, 1) := by decide +kernel
theorem dJ6_numberOfTrailingZeros_0f7a4_0 : decode cJ6_numberOfTrailingZeros_0f7a4 0 = .ok (.iload_n 0, 1) := by decide +kernel
theorem dJ6_numberOfTrailingZeros_0f7a4_1 : decode cJ6_numberOfTrailingZeros_0f7a4 1 = .ok (.iconst (-1), 1) := by decide +kernel
theorem dJ6_numberOfTrailingZeros_0f7a4_2 : decode cJ6_numberOfTrailingZeros_0f7a4 2 = .ok (.ixor, 1) := by decide +kernel
theorem dJ6_numberOfTrailingZeros_0f7a4_3 : decode cJ6_numberOfTrailingZeros_0f7a4 3 = .ok (.iload_n 0, 1) := by decide +kernel
theorem dJ6_numberOfTrailingZeros_0f7a4_4 : decode cJ6_numberOfTrailingZeros_0f7a4 4 = .ok (.iconst 1, 1) := by decide +kernel
theorem dJ6_numberOfTrailingZeros_0f7a4_5 : decode cJ6_numberOfTrailingZeros_0f7a4 5 = .ok (.isub, 1) := by decide +kernel
theorem dJ6_numberOfTrailingZeros_0f7a4_6 : decode cJ6_numberOfTrailingZeros_0f7a4 6 = .ok (.iand, 1) := by decide +kernel
theorem dJ6_numberOfTrailingZeros_0f7a4_7 : decode cJ6_numberOfTrailingZeros_0f7a4 7 = .ok (.istore_n 0, 1) := by decide +kernel
theorem dJ6_numberOfTrailingZeros_0f7a4_8 : decode cJ6_numberOfTrailingZeros_0f7a4 8 = .ok (.iload_n 0, 1) := by decide +kernel
theorem dJ6_numberOfTrailingZeros_0f7a4_9 : decode cJ6_numberOfTrailingZeros_0f7a4 9 = .ok (.ifCond .gt 8, 3) := by decide +kernel
theorem dJ6_numberOfTrailingZeros_0f7a4_12 : decode cJ6_numberOfTrailingZeros_0f7a4 12 = .ok (.iload_n 0, 1) := by decide +kernel
theorem dJ6_numberOfTrailingZeros_0f7a4_13 : decode cJ6_numberOfTrailingZeros_0f7a4 13 = .ok (.bipush 32, 2) := by decide +kernel
theorem dJ6_numberOfTrailingZeros_0f7a4_15 : decode cJ6_numberOfTrailingZeros_0f7a4 15 = .ok (.iand, 1) := by decide +kernel
theorem dJ6_numberOfTrailingZeros_0f7a4_16 : decode cJ6_numberOfTrailingZeros_0f7a4 16 = .ok (.ireturn, 1) := by decide +kernel
theorem dJ6_numberOfTrailingZeros_0f7a4_17 : decode cJ6_numberOfTrailingZeros_0f7a4 17 = .ok (.iconst 1, 1) := by decide +kernel
theorem dJ6_numberOfTrailingZeros_0f7a4_18 : decode cJ6_numberOfTrailingZeros_0f7a4 18 = .ok (.istore_n 1, 1) := by decide +kernel
theorem dJ6_numberOfTrailingZeros_0f7a4_19 : decode cJ6_numberOfTrailingZeros_0f7a4 19 = .ok (.iload_n 0, 1) := by decide +kernel
theorem dJ6_numberOfTrailingZeros_0f7a4_20 : decode cJ6_numberOfTrailingZeros_0f7a4 20 = .ok (.ldc_w 264, 3) := by decide +kernel
theorem dJ6_numberOfTrailingZeros_0f7a4_23 : decode cJ6_numberOfTrailingZeros_0f7a4 23 = .ok (.if_icmp .le 11, 3) := by decide +kernel
theorem dJ6_numberOfTrailingZeros_0f7a4_26 : decode cJ6_numberOfTrailingZeros_0f7a4 26 = .ok (.iinc 1 16, 3) := by decide +kernel
theorem dJ6_numberOfTrailingZeros_0f7a4_29 : decode cJ6_numberOfTrailingZeros_0f7a4 29 = .ok (.iload_n 0, 1) := by decide +kernel
theorem dJ6_numberOfTrailingZeros_0f7a4_30 : decode cJ6_numberOfTrailingZeros_0f7a4 30 = .ok (.bipush 16, 2) := by decide +kernel
theorem dJ6_numberOfTrailingZeros_0f7a4_32 : decode cJ6_numberOfTrailingZeros_0f7a4 32 = .ok (.iushr, 1) := by decide +kernel
theorem dJ6_numberOfTrailingZeros_0f7a4_33 : decode cJ6_numberOfTrailingZeros_0f7a4 33 = .ok (.istore_n 0, 1) := by decide +kernel
theorem dJ6_numberOfTrailingZeros_0f7a4_34 : decode cJ6_numberOfTrailingZeros_0f7a4 34 = .ok (.iload_n 0, 1) := by decide +kernel
theorem dJ6_numberOfTrailingZeros_0f7a4_35 : decode cJ6_numberOfTrailingZeros_0f7a4 35 = .ok (.sipush 256, 3) := by decide +kernel
theorem dJ6_numberOfTrailingZeros_0f7a4_38 : decode cJ6_numberOfTrailingZeros_0f7a4 38 = .ok (.if_icmp .le 11, 3) := by decide +kernel
theorem dJ6_numberOfTrailingZeros_0f7a4_41 : decode cJ6_numberOfTrailingZeros_0f7a4 41 = .ok (.iinc 1 8, 3) := by decide +kernel
theorem dJ6_numberOfTrailingZeros_0f7a4_44 : decode cJ6_numberOfTrailingZeros_0f7a4 44 = .ok (.iload_n 0, 1) := by decide +kernel
theorem dJ6_numberOfTrailingZeros_0f7a4_45 : decode cJ6_numberOfTrailingZeros_0f7a4 45 = .ok (.bipush 8, 2) := by decide +kernel
theorem dJ6_numberOfTrailingZeros_0f7a4_47 : decode cJ6_numberOfTrailingZeros_0f7a4 47 = .ok (.iushr, 1) := by decide +kernel
theorem dJ6_numberOfTrailingZeros_0f7a4_48 : decode cJ6_numberOfTrailingZeros_0f7a4 48 = .ok (.istore_n 0, 1) := by decide +kernel
theorem dJ6_numberOfTrailingZeros_0f7a4_49 : decode cJ6_numberOfTrailingZeros_0f7a4 49 = .ok (.iload_n 0, 1) := by decide +kernel
theorem dJ6_numberOfTrailingZeros_0f7a4_50 : decode cJ6_numberOfTrailingZeros_0f7a4 50 = .ok (.bipush 16, 2) := by decide +kernel
theorem dJ6_numberOfTrailingZeros_0f7a4_52 : decode cJ6_numberOfTrailingZeros_0f7a4 52 = .ok (.if_icmp .le 10, 3) := by decide +kernel
theorem dJ6_numberOfTrailingZeros_0f7a4_55 : decode cJ6_numberOfTrailingZeros_0f7a4 55 = .ok (.iinc 1 4, 3) := by decide +kernel
theorem dJ6_numberOfTrailingZeros_0f7a4_58 : decode cJ6_numberOfTrailingZeros_0f7a4 58 = .ok (.iload_n 0, 1) := by decide +kernel
theorem dJ6_numberOfTrailingZeros_0f7a4_59 : decode cJ6_numberOfTrailingZeros_0f7a4 59 = .ok (.iconst 4, 1) := by decide +kernel
theorem dJ6_numberOfTrailingZeros_0f7a4_60 : decode cJ6_numberOfTrailingZeros_0f7a4 60 = .ok (.iushr, 1) := by decide +kernel
theorem dJ6_numberOfTrailingZeros_0f7a4_61 : decode cJ6_numberOfTrailingZeros_0f7a4 61 = .ok (.istore_n 0, 1) := by decide +kernel
theorem dJ6_numberOfTrailingZeros_0f7a4_62 : decode cJ6_numberOfTrailingZeros_0f7a4 62 = .ok (.iload_n 0, 1) := by decide +kernel
theorem dJ6_numberOfTrailingZeros_0f7a4_63 : decode cJ6_numberOfTrailingZeros_0f7a4 63 = .ok (.iconst 4, 1) := by decide +kernel
theorem dJ6_numberOfTrailingZeros_0f7a4_64 : decode cJ6_numberOfTrailingZeros_0f7a4 64 = .ok (.if_icmp .le 10, 3) := by decide +kernel
theorem dJ6_numberOfTrailingZeros_0f7a4_67 : decode cJ6_numberOfTrailingZeros_0f7a4 67 = .ok (.iinc 1 2, 3) := by decide +kernel
theorem dJ6_numberOfTrailingZeros_0f7a4_70 : decode cJ6_numberOfTrailingZeros_0f7a4 70 = .ok (.iload_n 0, 1) := by decide +kernel
theorem dJ6_numberOfTrailingZeros_0f7a4_71 : decode cJ6_numberOfTrailingZeros_0f7a4 71 = .ok (.iconst 2, 1) := by decide +kernel
theorem dJ6_numberOfTrailingZeros_0f7a4_72 : decode cJ6_numberOfTrailingZeros_0f7a4 72 = .ok (.iushr, 1) := by decide +kernel
theorem dJ6_numberOfTrailingZeros_0f7a4_73 : decode cJ6_numberOfTrailingZeros_0f7a4 73 = .ok (.istore_n 0, 1) := by decide +kernel
theorem dJ6_numberOfTrailingZeros_0f7a4_74 : decode cJ6_numberOfTrailingZeros_0f7a4 74 = .ok (.iload_n 1, 1) := by decide +kernel
theorem dJ6_numberOfTrailingZeros_0f7a4_75 : decode cJ6_numberOfTrailingZeros_0f7a4 75 = .ok (.iload_n 0, 1) := by decide +kernel
theorem dJ6_numberOfTrailingZeros_0f7a4_76 : decode cJ6_numberOfTrailingZeros_0f7a4 76 = .ok (.iconst 1, 1) := by decide +kernel
theorem dJ6_numberOfTrailingZeros_0f7a4_77 : decode cJ6_numberOfTrailingZeros_0f7a4 77 = .ok (.iushr, 1) := by decide +kernel
theorem dJ6_numberOfTrailingZeros_0f7a4_78 : decode cJ6_numberOfTrailingZeros_0f7a4 78 = .ok (.iadd, 1) := by decide +kernel
theorem dJ6_numberOfTrailingZeros_0f7a4_79 : decode cJ6_numberOfTrailingZeros_0f7a4 79 = .ok (.ireturn, 1) := by decide +kernel
theorem dJ13_numberOfLeadingZeros_95d88_0 : decode cJ13_numberOfLeadingZeros_95d88 0 = .ok (.lload_n 0, 1) := by decide +kernel
theorem dJ13_numberOfLeadingZeros_95d88_1 : decode cJ13_numberOfLeadingZeros_95d88 1 = .ok (.bipush 32, 2) := by decide +kernel
theorem dJ13_numberOfLeadingZeros_95d88_3 : decode cJ13_numberOfLeadingZeros_95d88 3 = .ok (.lushr, 1) := by decide +kernel
theorem dJ13_numberOfLeadingZeros_95d88_4 : decode cJ13_numberOfLeadingZeros_95d88 4 = .ok (.l2i, 1) := by decide +kernel
theorem dJ13_numberOfLeadingZeros_95d88_5 : decode cJ13_numberOfLeadingZeros_95d88 5 = .ok (.istore_n 2, 1) := by decide +kernel
theorem dJ13_numberOfLeadingZeros_95d88_6 : decode cJ13_numberOfLeadingZeros_95d88 6 = .ok (.iload_n 2, 1) := by decide +kernel
theorem dJ13_numberOfLeadingZeros_95d88_7 : decode cJ13_numberOfLeadingZeros_95d88 7 = .ok (.ifCond .ne 14, 3) := by decide +kernel
theorem dJ13_numberOfLeadingZeros_95d88_10 : decode cJ13_numberOfLeadingZeros_95d88 10 = .ok (.bipush 32, 2) := by decide +kernel
theorem dJ13_numberOfLeadingZeros_95d88_12 : decode cJ13_numberOfLeadingZeros_95d88 12 = .ok (.lload_n 0, 1) := by decide +kernel
theorem dJ13_numberOfLeadingZeros_95d88_13 : decode cJ13_numberOfLeadingZeros_95d88 13 = .ok (.l2i, 1) := by decide +kernel
theorem dJ13_numberOfLeadingZeros_95d88_14 : decode cJ13_numberOfLeadingZeros_95d88 14 = .ok (.invokestatic 308, 3) := by decide +kernel
theorem dJ13_numberOfLeadingZeros_95d88_17 : decode cJ13_numberOfLeadingZeros_95d88 17 = .ok (.iadd, 1) := by decide +kernel
theorem dJ13_numberOfLeadingZeros_95d88_18 : decode cJ13_numberOfLeadingZeros_95d88 18 = .ok (.goto 7, 3) := by decide +kernel
theorem dJ13_numberOfLeadingZeros_95d88_21 : decode cJ13_numberOfLeadingZeros_95d88 21 = .ok (.iload_n 2, 1) := by decide +kernel
theorem dJ13_numberOfLeadingZeros_95d88_22 : decode cJ13_numberOfLeadingZeros_95d88 22 = .ok (.invokestatic 308, 3) := by decide +kernel
theorem dJ13_numberOfLeadingZeros_95d88_25 : decode cJ13_numberOfLeadingZeros_95d88 25 = .ok (.ireturn, 1) := by decide +kernel
theorem dJ13_numberOfTrailingZeros_95d88_0 : decode cJ13_numberOfTrailingZeros_95d88 0 = .ok (.lload_n 0, 1) := by decide +kernel
theorem dJ13_numberOfTrailingZeros_95d88_1 : decode cJ13_numberOfTrailingZeros_95d88 1 = .ok (.l2i, 1) := by decide +kernel
theorem dJ13_numberOfTrailingZeros_95d88_2 : decode cJ13_numberOfTrailingZeros_95d88 2 = .ok (.istore_n 2, 1) := by decide +kernel
theorem dJ13_numberOfTrailingZeros_95d88_3 : decode cJ13_numberOfTrailingZeros_95d88 3 = .ok (.iload_n 2, 1) := by decide +kernel
theorem dJ13_numberOfTrailingZeros_95d88_4 : decode cJ13_numberOfTrailingZeros_95d88 4 = .ok (.ifCond .ne 17, 3) := by decide +kernel
theorem dJ13_numberOfTrailingZeros_95d88_7 : decode cJ13_numberOfTrailingZeros_95d88 7 = .ok (.bipush 32, 2) := by decide +kernel
theorem dJ13_numberOfTrailingZeros_95d88_9 : decode cJ13_numberOfTrailingZeros_95d88 9 = .ok (.lload_n 0, 1) := by decide +kernel
theorem dJ13_numberOfTrailingZeros_95d88_10 : decode cJ13_numberOfTrailingZeros_95d88 10 = .ok (.bipush 32, 2) := by decide +kernel
theorem dJ13_numberOfTrailingZeros_95d88_12 : decode cJ13_numberOfTrailingZeros_95d88 12 = .ok (.lushr, 1) := by decide +kernel
theorem dJ13_numberOfTrailingZeros_95d88_13 : decode cJ13_numberOfTrailingZeros_95d88 13 = .ok (.l2i, 1) := by decide +kernel
theorem dJ13_numberOfTrailingZeros_95d88_14 : decode cJ13_numberOfTrailingZeros_95d88 14 = .ok (.invokestatic 311, 3) := by decide +kernel
theorem dJ13_numberOfTrailingZeros_95d88_17 : decode cJ13_numberOfTrailingZeros_95d88 17 = .ok (.iadd, 1) := by decide +kernel
theorem dJ13_numberOfTrailingZeros_95d88_18 : decode cJ13_numberOfTrailingZeros_95d88 18 = .ok (.goto 7, 3) := by decide +kernel
theorem dJ13_numberOfTrailingZeros_95d88_21 : decode cJ13_numberOfTrailingZeros_95d88 21 = .ok (.iload_n 2, 1) := by decide +kernel
theorem dJ13_numberOfTrailingZeros_95d88_22 : decode cJ13_numberOfTrailingZeros_95d88 22 = .ok (.invokestatic 311, 3) := by decide +kernel
theorem dJ13_numberOfTrailingZeros_95d88_25 : decode cJ13_numberOfTrailingZeros_95d88 25 = .ok (.ireturn, 1) := by decide +kernel
theorem dJ9_floorMod_7cf53_0 : decode cJ9_floorMod_7cf53 0 = .ok (.iload_n 0, 1) := by decide +kernel
theorem dJ9_floorMod_7cf53_1 : decode cJ9_floorMod_7cf53 1 = .ok (.iload_n 1, 1) := by decide +kernel
theorem dJ9_floorMod_7cf53_2 : decode cJ9_floorMod_7cf53 2 = .ok (.irem, 1) := by decide +kernel
theorem dJ9_floorMod_7cf53_3 : decode cJ9_floorMod_7cf53 3 = .ok (.istore_n 2, 1) := by decide +kernel
theorem dJ9_floorMod_7cf53_4 : decode cJ9_floorMod_7cf53 4 = .ok (.iload_n 0, 1) := by decide +kernel
theorem dJ9_floorMod_7cf53_5 : decode cJ9_floorMod_7cf53 5 = .ok (.iload_n 1, 1) := by decide +kernel
theorem dJ9_floorMod_7cf53_6 : decode cJ9_floorMod_7cf53 6 = .ok (.ixor, 1) := by decide +kernel
theorem dJ9_floorMod_7cf53_7 : decode cJ9_floorMod_7cf53 7 = .ok (.ifCond .ge 11, 3) := by decide +kernel
theorem dJ9_floorMod_7cf53_10 : decode cJ9_floorMod_7cf53 10 = .ok (.iload_n 2, 1) := by decide +kernel
theorem dJ9_floorMod_7cf53_11 : decode cJ9_floorMod_7cf53 11 = .ok (.ifCond .eq 7, 3) := by decide +kernel
theorem dJ9_floorMod_7cf53_14 : decode cJ9_floorMod_7cf53 14 = .ok (.iload_n 2, 1) := by decide +kernel
theorem dJ9_floorMod_7cf53_15 : decode cJ9_floorMod_7cf53 15 = .ok (.iload_n 1, 1) := by decide +kernel
theorem dJ9_floorMod_7cf53_16 : decode cJ9_floorMod_7cf53 16 = .ok (.iadd, 1) := by decide +kernel
theorem dJ9_floorMod_7cf53_17 : decode cJ9_floorMod_7cf53 17 = .ok (.ireturn, 1) := by decide +kernel
theorem dJ9_floorMod_7cf53_18 : decode cJ9_floorMod_7cf53 18 = .ok (.iload_n 2, 1) := by decide +kernel
theorem dJ9_floorMod_7cf53_19 : decode cJ9_floorMod_7cf53 19 = .ok (.ireturn, 1) := by decide +kernel
theorem dJ9_abs_067f4_0 : decode cJ9_abs_067f4 0 = .ok (.lload_n 0, 1) := by decide +kernel
theorem dJ9_abs_067f4_1 : decode cJ9_abs_067f4 1 = .ok (.lconst 0, 1) := by decide +kernel
theorem dJ9_abs_067f4_2 : decode cJ9_abs_067f4 2 = .ok (.lcmp, 1) := by decide +kernel
theorem dJ9_abs_067f4_3 : decode cJ9_abs_067f4 3 = .ok (.ifCond .ge 8, 3) := by decide +kernel
theorem dJ9_abs_067f4_6 : decode cJ9_abs_067f4 6 = .ok (.lload_n 0, 1) := by decide +kernel
theorem dJ9_abs_067f4_7 : decode cJ9_abs_067f4 7 = .ok (.lneg, 1) := by decide +kernel
theorem dJ9_abs_067f4_8 : decode cJ9_abs_067f4 8 = .ok (.goto 4, 3) := by decide +kernel
theorem dJ9_abs_067f4_11 : decode cJ9_abs_067f4 11 = .ok (.lload_n 0, 1) := by decide +kernel
theorem dJ9_abs_067f4_12 : decode cJ9_abs_067f4 12 = .ok (.lreturn, 1) := by decide +kernel
theorem dJ9_max_7cf53_0 : decode cJ9_max_7cf53 0 = .ok (.iload_n 0, 1) := by decide +kernel
theorem dJ9_max_7cf53_1 : decode cJ9_max_7cf53 1 = .ok (.iload_n 1, 1) := by decide +kernel
theorem dJ9_max_7cf53_2 : decode cJ9_max_7cf53 2 = .ok (.if_icmp .lt 7, 3) := by decide +kernel
theorem dJ9_max_7cf53_5 : decode cJ9_max_7cf53 5 = .ok (.iload_n 0, 1) := by decide +kernel
theorem dJ9_max_7cf53_6 : decode cJ9_max_7cf53 6 = .ok (.goto 4, 3) := by decide +kernel
theorem dJ9_max_7cf53_9 : decode cJ9_max_7cf53 9 = .ok (.iload_n 1, 1) := by decide +kernel
theorem dJ9_max_7cf53_10 : decode cJ9_max_7cf53 10 = .ok (.ireturn, 1) := by decide +kernel
theorem dJ9_min_7cf53_0 : decode cJ9_min_7cf53 0 = .ok (.iload_n 0, 1) := by decide +kernel
theorem dJ9_min_7cf53_1 : decode cJ9_min_7cf53 1 = .ok (.iload_n 1, 1) := by decide +kernel
theorem dJ9_min_7cf53_2 : decode cJ9_min_7cf53 2 = .ok (.if_icmp .gt 7, 3) := by decide +kernel
theorem dJ9_min_7cf53_5 : decode cJ9_min_7cf53 5 = .ok (.iload_n 0, 1) := by decide +kernel
theorem dJ9_min_7cf53_6 : decode cJ9_min_7cf53 6 = .ok (.goto 4, 3) := by decide +kernel
theorem dJ9_min_7cf53_9 : decode cJ9_min_7cf53 9 = .ok (.iload_n 1, 1) := by decide +kernel
theorem dJ9_min_7cf53_10 : decode cJ9_min_7cf53 10 = .ok (.ireturn, 1) := by decide +kernel
theorem dJ9_min_f86c9_0 : decode cJ9_min_f86c9 0 = .ok (.lload_n 0, 1) := by decide +kernel
theorem dJ9_min_f86c9_1 : decode cJ9_min_f86c9 1 = .ok (.lload_n 2, 1) := by decide +kernel
theorem dJ9_min_f86c9_2 : decode cJ9_min_f86c9 2 = .ok (.lcmp, 1) := by decide +kernel
theorem dJ9_min_f86c9_3 : decode cJ9_min_f86c9 3 = .ok (.ifCond .gt 7, 3) := by decide +kernel
theorem dJ9_min_f86c9_6 : decode cJ9_min_f86c9 6 = .ok (.lload_n 0, 1) := by decide +kernel
theorem dJ9_min_f86c9_7 : decode cJ9_min_f86c9 7 = .ok (.goto 4, 3) := by decide +kernel
theorem dJ9_min_f86c9_10 : decode cJ9_min_f86c9 10 = .ok (.lload_n 2, 1) := by decide +kernel
theorem dJ9_min_f86c9_11 : decode cJ9_min_f86c9 11 = .ok (.lreturn, 1) := by decide +kernel
