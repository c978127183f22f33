theorem dX7_init_0 : decode cX7_init 0 = .ok (.aload_n 0, 1) := by decide +kernel
theorem dX7_init_1 : decode cX7_init 1 = .ok (.invokespecial 1, 3) := by decide +kernel
theorem dX7_init_4 : decode cX7_init 4 = .ok (.aload_n 0, 1) := by decide +kernel
theorem dX7_init_5 : decode cX7_init 5 = .ok (.sipush 400, 3) := by decide +kernel
theorem dX7_init_8 : decode cX7_init 8 = .ok (.newarray .byte, 2) := by decide +kernel
theorem dX7_init_10 : decode cX7_init 10 = .ok (.putfield 7, 3) := by decide +kernel
theorem dX7_init_13 : decode cX7_init 13 = .ok (.aload_n 0, 1) := by decide +kernel
theorem dX7_init_14 : decode cX7_init 14 = .ok (.iconst 2, 1) := by decide +kernel
theorem dX7_init_15 : decode cX7_init 15 = .ok (.newarray .int, 2) := by decide +kernel
theorem dX7_init_17 : decode cX7_init 17 = .ok (.putfield 13, 3) := by decide +kernel
theorem dX7_init_20 : decode cX7_init 20 = .ok (.aload_n 0, 1) := by decide +kernel
theorem dX7_init_21 : decode cX7_init 21 = .ok (.iconst 2, 1) := by decide +kernel
theorem dX7_init_22 : decode cX7_init 22 = .ok (.newarray .int, 2) := by decide +kernel
theorem dX7_init_24 : decode cX7_init 24 = .ok (.putfield 17, 3) := by decide +kernel
theorem dX7_init_27 : decode cX7_init 27 = .ok (.aload_n 0, 1) := by decide +kernel
theorem dX7_init_28 : decode cX7_init 28 = .ok (.sipush 2800, 3) := by decide +kernel
theorem dX7_init_31 : decode cX7_init 31 = .ok (.newarray .int, 2) := by decide +kernel
theorem dX7_init_33 : decode cX7_init 33 = .ok (.putfield 20, 3) := by decide +kernel
theorem dX7_init_36 : decode cX7_init 36 = .ok (.aload_n 0, 1) := by decide +kernel
theorem dX7_init_37 : decode cX7_init 37 = .ok (.sipush 200, 3) := by decide +kernel
theorem dX7_init_40 : decode cX7_init 40 = .ok (.newarray .int, 2) := by decide +kernel
theorem dX7_init_42 : decode cX7_init 42 = .ok (.putfield 23, 3) := by decide +kernel
theorem dX7_init_45 : decode cX7_init 45 = .ok (.aload_n 0, 1) := by decide +kernel
theorem dX7_init_46 : decode cX7_init 46 = .ok (.bipush 50, 2) := by decide +kernel
theorem dX7_init_48 : decode cX7_init 48 = .ok (.newarray .int, 2) := by decide +kernel
theorem dX7_init_50 : decode cX7_init 50 = .ok (.putfield 26, 3) := by decide +kernel
theorem dX7_init_53 : decode cX7_init 53 = .ok (.aload_n 0, 1) := by decide +kernel
theorem dX7_init_54 : decode cX7_init 54 = .ok (.sipush 200, 3) := by decide +kernel
theorem dX7_init_57 : decode cX7_init 57 = .ok (.newarray .int, 2) := by decide +kernel
theorem dX7_init_59 : decode cX7_init 59 = .ok (.putfield 29, 3) := by decide +kernel
theorem dX7_init_62 : decode cX7_init 62 = .ok (.aload_n 0, 1) := by decide +kernel
theorem dX7_init_63 : decode cX7_init 63 = .ok (.bipush 100, 2) := by decide +kernel
theorem dX7_init_65 : decode cX7_init 65 = .ok (.newarray .int, 2) := by decide +kernel
theorem dX7_init_67 : decode cX7_init 67 = .ok (.putfield 32, 3) := by decide +kernel
theorem dX7_init_70 : decode cX7_init 70 = .ok (.aload_n 0, 1) := by decide +kernel
theorem dX7_init_71 : decode cX7_init 71 = .ok (.sipush 200, 3) := by decide +kernel
theorem dX7_init_74 : decode cX7_init 74 = .ok (.newarray .long, 2) := by decide +kernel
theorem dX7_init_76 : decode cX7_init 76 = .ok (.putfield 35, 3) := by decide +kernel
theorem dX7_init_79 : decode cX7_init 79 = .ok (.aload_n 0, 1) := by decide +kernel
theorem dX7_init_80 : decode cX7_init 80 = .ok (.bipush 100, 2) := by decide +kernel
theorem dX7_init_82 : decode cX7_init 82 = .ok (.newarray .long, 2) := by decide +kernel
theorem dX7_init_84 : decode cX7_init 84 = .ok (.putfield 39, 3) := by decide +kernel
theorem dX7_init_87 : decode cX7_init 87 = .ok (.aload_n 0, 1) := by decide +kernel
theorem dX7_init_88 : decode cX7_init 88 = .ok (.bipush 50, 2) := by decide +kernel
theorem dX7_init_90 : decode cX7_init 90 = .ok (.newarray .long, 2) := by decide +kernel
theorem dX7_init_92 : decode cX7_init 92 = .ok (.putfield 42, 3) := by decide +kernel
theorem dX7_init_95 : decode cX7_init 95 = .ok (.aload_n 0, 1) := by decide +kernel
theorem dX7_init_96 : decode cX7_init 96 = .ok (.sipush 200, 3) := by decide +kernel
theorem dX7_init_99 : decode cX7_init 99 = .ok (.newarray .long, 2) := by decide +kernel
theorem dX7_init_101 : decode cX7_init 101 = .ok (.putfield 45, 3) := by decide +kernel
theorem dX7_init_104 : decode cX7_init 104 = .ok (.aload_n 0, 1) := by decide +kernel
theorem dX7_init_105 : decode cX7_init 105 = .ok (.sipush 200, 3) := by decide +kernel
theorem dX7_init_108 : decode cX7_init 108 = .ok (.newarray .int, 2) := by decide +kernel
theorem dX7_init_110 : decode cX7_init 110 = .ok (.putfield 48, 3) := by decide +kernel
theorem dX7_init_113 : decode cX7_init 113 = .ok (.aload_n 0, 1) := by decide +kernel
theorem dX7_init_114 : decode cX7_init 114 = .ok (.sipush 200, 3) := by decide +kernel
theorem dX7_init_117 : decode cX7_init 117 = .ok (.newarray .int, 2) := by decide +kernel
theorem dX7_init_119 : decode cX7_init 119 = .ok (.putfield 51, 3) := by decide +kernel
theorem dX7_init_122 : decode cX7_init 122 = .ok (.aload_n 0, 1) := by decide +kernel
theorem dX7_init_123 : decode cX7_init 123 = .ok (.bipush 100, 2) := by decide +kernel
theorem dX7_init_125 : decode cX7_init 125 = .ok (.newarray .boolean, 2) := by decide +kernel
theorem dX7_init_127 : decode cX7_init 127 = .ok (.putfield 54, 3) := by decide +kernel
theorem dX7_init_130 : decode cX7_init 130 = .ok (.aload_n 0, 1) := by decide +kernel
theorem dX7_init_131 : decode cX7_init 131 = .ok (.sipush 2100, 3) := by decide +kernel
theorem dX7_init_134 : decode cX7_init 134 = .ok (.newarray .int, 2) := by decide +kernel
theorem dX7_init_136 : decode cX7_init 136 = .ok (.putfield 58, 3) := by decide +kernel
theorem dX7_init_139 : decode cX7_init 139 = .ok (.aload_n 0, 1) := by decide +kernel
theorem dX7_init_140 : decode cX7_init 140 = .ok (.sipush 2100, 3) := by decide +kernel
theorem dX7_init_143 : decode cX7_init 143 = .ok (.newarray .int, 2) := by decide +kernel
theorem dX7_init_145 : decode cX7_init 145 = .ok (.putfield 61, 3) := by decide +kernel
theorem dX7_init_148 : decode cX7_init 148 = .ok (.aload_n 0, 1) := by decide +kernel
theorem dX7_init_149 : decode cX7_init 149 = .ok (.sipush 2100, 3) := by decide +kernel
theorem dX7_init_152 : decode cX7_init 152 = .ok (.newarray .int, 2) := by decide +kernel
theorem dX7_init_154 : decode cX7_init 154 = .ok (.putfield 64, 3) := by decide +kernel
theorem dX7_init_157 : decode cX7_init 157 = .ok (.aload_n 0, 1) := by decide +kernel
theorem dX7_init_158 : decode cX7_init 158 = .ok (.sipush 2100, 3) := by decide +kernel
theorem dX7_init_161 : decode cX7_init 161 = .ok (.newarray .int, 2) := by decide +kernel
theorem dX7_init_163 : decode cX7_init 163 = .ok (.putfield 67, 3) := by decide +kernel
theorem dX7_init_166 : decode cX7_init 166 = .ok (.aload_n 0, 1) := by decide +kernel
theorem dX7_init_167 : decode cX7_init 167 = .ok (.sipush 2100, 3) := by decide +kernel
theorem dX7_init_170 : decode cX7_init 170 = .ok (.newarray .long, 2) := by decide +kernel
theorem dX7_init_172 : decode cX7_init 172 = .ok (.putfield 70, 3) := by decide +kernel
theorem dX7_init_175 : decode cX7_init 175 = .ok (.aload_n 0, 1) := by decide +kernel
theorem dX7_init_176 : decode cX7_init 176 = .ok (.sipush 2100, 3) := by decide +kernel
theorem dX7_init_179 : decode cX7_init 179 = .ok (.newarray .int, 2) := by decide +kernel
theorem dX7_init_181 : decode cX7_init 181 = .ok (.putfield 73, 3) := by decide +kernel
theorem dX7_init_184 : decode cX7_init 184 = .ok (.aload_n 0, 1) := by decide +kernel
theorem dX7_init_185 : decode cX7_init 185 = .ok (.sipush 4200, 3) := by decide +kernel
theorem dX7_init_188 : decode cX7_init 188 = .ok (.newarray .int, 2) := by decide +kernel
theorem dX7_init_190 : decode cX7_init 190 = .ok (.putfield 76, 3) := by decide +kernel
theorem dX7_init_193 : decode cX7_init 193 = .ok (.aload_n 0, 1) := by decide +kernel
theorem dX7_init_194 : decode cX7_init 194 = .ok (.sipush 4200, 3) := by decide +kernel
theorem dX7_init_197 : decode cX7_init 197 = .ok (.newarray .int, 2) := by decide +kernel
theorem dX7_init_199 : decode cX7_init 199 = .ok (.putfield 79, 3) := by decide +kernel
theorem dX7_init_202 : decode cX7_init 202 = .ok (.aload_n 0, 1) := by decide +kernel
theorem dX7_init_203 : decode cX7_init 203 = .ok (.sipush 4200, 3) := by decide +kernel
theorem dX7_init_206 : decode cX7_init 206 = .ok (.newarray .long, 2) := by decide +kernel
theorem dX7_init_208 : decode cX7_init 208 = .ok (.putfield 82, 3) := by decide +kernel
theorem dX7_init_211 : decode cX7_init 211 = .ok (.aload_n 0, 1) := by decide +kernel
theorem dX7_init_212 : decode cX7_init 212 = .ok (.sipush 4200, 3) := by decide +kernel
theorem dX7_init_215 : decode cX7_init 215 = .ok (.newarray .int, 2) := by decide +kernel
theorem dX7_init_217 : decode cX7_init 217 = .ok (.putfield 85, 3) := by decide +kernel
theorem dX7_init_220 : decode cX7_init 220 = .ok (.aload_n 0, 1) := by decide +kernel
theorem dX7_init_221 : decode cX7_init 221 = .ok (.sipush 4200, 3) := by decide +kernel
theorem dX7_init_224 : decode cX7_init 224 = .ok (.newarray .int, 2) := by decide +kernel
theorem dX7_init_226 : decode cX7_init 226 = .ok (.putfield 88, 3) := by decide +kernel
theorem dX7_init_229 : decode cX7_init 229 = .ok (.aload_n 0, 1) := by decide +kernel
theorem dX7_init_230 : decode cX7_init 230 = .ok (.bipush 100, 2) := by decide +kernel
theorem dX7_init_232 : decode cX7_init 232 = .ok (.newarray .int, 2) := by decide +kernel
theorem dX7_init_234 : decode cX7_init 234 = .ok (.putfield 91, 3) := by decide +kernel
theorem dX7_init_237 : decode cX7_init 237 = .ok (.aload_n 0, 1) := by decide +kernel
theorem dX7_init_238 : decode cX7_init 238 = .ok (.sipush 400, 3) := by decide +kernel
theorem dX7_init_241 : decode cX7_init 241 = .ok (.newarray .byte, 2) := by decide +kernel
theorem dX7_init_243 : decode cX7_init 243 = .ok (.putfield 94, 3) := by decide +kernel
theorem dX7_init_246 : decode cX7_init 246 = .ok (.return_, 1) := by decide +kernel
theorem dX7_thrown_0 : decode cX7_thrown 0 = .ok (.aload_n 0, 1) := by decide +kernel
theorem dX7_thrown_1 : decode cX7_thrown 1 = .ok (.getfield 97, 3) := by decide +kernel
theorem dX7_thrown_4 : decode cX7_thrown 4 = .ok (.ireturn, 1) := by decide +kernel
theorem dX7_at_0 : decode cX7_at 0 = .ok (.aload_n 0, 1) := by decide +kernel
theorem dX7_at_1 : decode cX7_at 1 = .ok (.getfield 20, 3) := by decide +kernel
theorem dX7_at_4 : decode cX7_at 4 = .ok (.bipush 7, 2) := by decide +kernel
theorem dX7_at_6 : decode cX7_at 6 = .ok (.sipush 200, 3) := by decide +kernel
theorem dX7_at_9 : decode cX7_at 9 = .ok (.iload_n 1, 1) := by decide +kernel
theorem dX7_at_10 : decode cX7_at 10 = .ok (.imul, 1) := by decide +kernel
theorem dX7_at_11 : decode cX7_at 11 = .ok (.iload_n 2, 1) := by decide +kernel
theorem dX7_at_12 : decode cX7_at 12 = .ok (.iadd, 1) := by decide +kernel
theorem dX7_at_13 : decode cX7_at 13 = .ok (.imul, 1) := by decide +kernel
theorem dX7_at_14 : decode cX7_at 14 = .ok (.iload_n 3, 1) := by decide +kernel
theorem dX7_at_15 : decode cX7_at 15 = .ok (.iadd, 1) := by decide +kernel
theorem dX7_at_16 : decode cX7_at 16 = .ok (.iaload, 1) := by decide +kernel
theorem dX7_at_17 : decode cX7_at 17 = .ok (.ireturn, 1) := by decide +kernel
theorem dX7_get_0 : decode cX7_get 0 = .ok (.aload_n 0, 1) := by decide +kernel
theorem dX7_get_1 : decode cX7_get 1 = .ok (.aload_n 0, 1) := by decide +kernel
theorem dX7_get_2 : decode cX7_get 2 = .ok (.getfield 101, 3) := by decide +kernel
theorem dX7_get_5 : decode cX7_get 5 = .ok (.iload_n 1, 1) := by decide +kernel
theorem dX7_get_6 : decode cX7_get 6 = .ok (.iload_n 2, 1) := by decide +kernel
theorem dX7_get_7 : decode cX7_get 7 = .ok (.invokevirtual 104, 3) := by decide +kernel
theorem dX7_get_10 : decode cX7_get 10 = .ok (.ireturn, 1) := by decide +kernel
theorem dX7_set_0 : decode cX7_set 0 = .ok (.aload_n 0, 1) := by decide +kernel
theorem dX7_set_1 : decode cX7_set 1 = .ok (.getfield 20, 3) := by decide +kernel
theorem dX7_set_4 : decode cX7_set 4 = .ok (.bipush 7, 2) := by decide +kernel
theorem dX7_set_6 : decode cX7_set 6 = .ok (.sipush 200, 3) := by decide +kernel
theorem dX7_set_9 : decode cX7_set 9 = .ok (.iload_n 1, 1) := by decide +kernel
theorem dX7_set_10 : decode cX7_set 10 = .ok (.imul, 1) := by decide +kernel
theorem dX7_set_11 : decode cX7_set 11 = .ok (.iload_n 2, 1) := by decide +kernel
theorem dX7_set_12 : decode cX7_set 12 = .ok (.iadd, 1) := by decide +kernel
theorem dX7_set_13 : decode cX7_set 13 = .ok (.imul, 1) := by decide +kernel
theorem dX7_set_14 : decode cX7_set 14 = .ok (.iload_n 3, 1) := by decide +kernel
theorem dX7_set_15 : decode cX7_set 15 = .ok (.iadd, 1) := by decide +kernel
theorem dX7_set_16 : decode cX7_set 16 = .ok (.iload 4, 2) := by decide +kernel
theorem dX7_set_18 : decode cX7_set 18 = .ok (.iastore, 1) := by decide +kernel
theorem dX7_set_19 : decode cX7_set 19 = .ok (.return_, 1) := by decide +kernel
theorem dX7_begin_0 : decode cX7_begin 0 = .ok (.aload_n 0, 1) := by decide +kernel
theorem dX7_begin_1 : decode cX7_begin 1 = .ok (.getfield 13, 3) := by decide +kernel
theorem dX7_begin_4 : decode cX7_begin 4 = .ok (.iload_n 1, 1) := by decide +kernel
theorem dX7_begin_5 : decode cX7_begin 5 = .ok (.iaload, 1) := by decide +kernel
theorem dX7_begin_6 : decode cX7_begin 6 = .ok (.istore 5, 2) := by decide +kernel
theorem dX7_begin_8 : decode cX7_begin 8 = .ok (.aload_n 0, 1) := by decide +kernel
theorem dX7_begin_9 : decode cX7_begin 9 = .ok (.getfield 13, 3) := by decide +kernel
theorem dX7_begin_12 : decode cX7_begin 12 = .ok (.iload_n 1, 1) := by decide +kernel
theorem dX7_begin_13 : decode cX7_begin 13 = .ok (.dup2, 1) := by decide +kernel
theorem dX7_begin_14 : decode cX7_begin 14 = .ok (.iaload, 1) := by decide +kernel
theorem dX7_begin_15 : decode cX7_begin 15 = .ok (.iconst 1, 1) := by decide +kernel
theorem dX7_begin_16 : decode cX7_begin 16 = .ok (.iadd, 1) := by decide +kernel
theorem dX7_begin_17 : decode cX7_begin 17 = .ok (.iastore, 1) := by decide +kernel
theorem dX7_begin_18 : decode cX7_begin 18 = .ok (.aload_n 0, 1) := by decide +kernel
theorem dX7_begin_19 : decode cX7_begin 19 = .ok (.iload_n 1, 1) := by decide +kernel
theorem dX7_begin_20 : decode cX7_begin 20 = .ok (.iload 5, 2) := by decide +kernel
theorem dX7_begin_22 : decode cX7_begin 22 = .ok (.iconst 0, 1) := by decide +kernel
theorem dX7_begin_23 : decode cX7_begin 23 = .ok (.iload_n 2, 1) := by decide +kernel
theorem dX7_begin_24 : decode cX7_begin 24 = .ok (.invokevirtual 108, 3) := by decide +kernel
theorem dX7_begin_27 : decode cX7_begin 27 = .ok (.aload_n 0, 1) := by decide +kernel
theorem dX7_begin_28 : decode cX7_begin 28 = .ok (.iload_n 1, 1) := by decide +kernel
theorem dX7_begin_29 : decode cX7_begin 29 = .ok (.iload 5, 2) := by decide +kernel
theorem dX7_begin_31 : decode cX7_begin 31 = .ok (.iconst 1, 1) := by decide +kernel
theorem dX7_begin_32 : decode cX7_begin 32 = .ok (.iload_n 3, 1) := by decide +kernel
theorem dX7_begin_33 : decode cX7_begin 33 = .ok (.invokevirtual 108, 3) := by decide +kernel
theorem dX7_begin_36 : decode cX7_begin 36 = .ok (.aload_n 0, 1) := by decide +kernel
theorem dX7_begin_37 : decode cX7_begin 37 = .ok (.iload_n 1, 1) := by decide +kernel
theorem dX7_begin_38 : decode cX7_begin 38 = .ok (.iload 5, 2) := by decide +kernel
theorem dX7_begin_40 : decode cX7_begin 40 = .ok (.iconst 2, 1) := by decide +kernel
theorem dX7_begin_41 : decode cX7_begin 41 = .ok (.iconst (-1), 1) := by decide +kernel
theorem dX7_begin_42 : decode cX7_begin 42 = .ok (.invokevirtual 108, 3) := by decide +kernel
theorem dX7_begin_45 : decode cX7_begin 45 = .ok (.aload_n 0, 1) := by decide +kernel
theorem dX7_begin_46 : decode cX7_begin 46 = .ok (.iload_n 1, 1) := by decide +kernel
theorem dX7_begin_47 : decode cX7_begin 47 = .ok (.iload 5, 2) := by decide +kernel
theorem dX7_begin_49 : decode cX7_begin 49 = .ok (.iconst 3, 1) := by decide +kernel
theorem dX7_begin_50 : decode cX7_begin 50 = .ok (.iconst (-1), 1) := by decide +kernel
theorem dX7_begin_51 : decode cX7_begin 51 = .ok (.invokevirtual 108, 3) := by decide +kernel
theorem dX7_begin_54 : decode cX7_begin 54 = .ok (.aload_n 0, 1) := by decide +kernel
theorem dX7_begin_55 : decode cX7_begin 55 = .ok (.iload_n 1, 1) := by decide +kernel
theorem dX7_begin_56 : decode cX7_begin 56 = .ok (.iload 5, 2) := by decide +kernel
theorem dX7_begin_58 : decode cX7_begin 58 = .ok (.iconst 4, 1) := by decide +kernel
theorem dX7_begin_59 : decode cX7_begin 59 = .ok (.iconst (-1), 1) := by decide +kernel
theorem dX7_begin_60 : decode cX7_begin 60 = .ok (.invokevirtual 108, 3) := by decide +kernel
theorem dX7_begin_63 : decode cX7_begin 63 = .ok (.aload_n 0, 1) := by decide +kernel
theorem dX7_begin_64 : decode cX7_begin 64 = .ok (.iload_n 1, 1) := by decide +kernel
theorem dX7_begin_65 : decode cX7_begin 65 = .ok (.iload 5, 2) := by decide +kernel
theorem dX7_begin_67 : decode cX7_begin 67 = .ok (.iconst 5, 1) := by decide +kernel
theorem dX7_begin_68 : decode cX7_begin 68 = .ok (.iconst (-1), 1) := by decide +kernel
theorem dX7_begin_69 : decode cX7_begin 69 = .ok (.invokevirtual 108, 3) := by decide +kernel
theorem dX7_begin_72 : decode cX7_begin 72 = .ok (.aload_n 0, 1) := by decide +kernel
theorem dX7_begin_73 : decode cX7_begin 73 = .ok (.iload_n 1, 1) := by decide +kernel
theorem dX7_begin_74 : decode cX7_begin 74 = .ok (.iload 5, 2) := by decide +kernel
theorem dX7_begin_76 : decode cX7_begin 76 = .ok (.bipush 6, 2) := by decide +kernel
theorem dX7_begin_78 : decode cX7_begin 78 = .ok (.iload 4, 2) := by decide +kernel
theorem dX7_begin_80 : decode cX7_begin 80 = .ok (.invokevirtual 108, 3) := by decide +kernel
theorem dX7_begin_83 : decode cX7_begin 83 = .ok (.iload 5, 2) := by decide +kernel
theorem dX7_begin_85 : decode cX7_begin 85 = .ok (.ireturn, 1) := by decide +kernel
theorem dX7_peek_0 : decode cX7_peek 0 = .ok (.aload_n 0, 1) := by decide +kernel
theorem dX7_peek_1 : decode cX7_peek 1 = .ok (.getfield 112, 3) := by decide +kernel
theorem dX7_peek_4 : decode cX7_peek 4 = .ok (.aload_n 0, 1) := by decide +kernel
theorem dX7_peek_5 : decode cX7_peek 5 = .ok (.getfield 115, 3) := by decide +kernel
theorem dX7_peek_8 : decode cX7_peek 8 = .ok (.if_icmp .ge 19, 3) := by decide +kernel
theorem dX7_peek_11 : decode cX7_peek 11 = .ok (.aload_n 0, 1) := by decide +kernel
theorem dX7_peek_12 : decode cX7_peek 12 = .ok (.getfield 7, 3) := by decide +kernel
theorem dX7_peek_15 : decode cX7_peek 15 = .ok (.aload_n 0, 1) := by decide +kernel
theorem dX7_peek_16 : decode cX7_peek 16 = .ok (.getfield 112, 3) := by decide +kernel
theorem dX7_peek_19 : decode cX7_peek 19 = .ok (.baload, 1) := by decide +kernel
theorem dX7_peek_20 : decode cX7_peek 20 = .ok (.sipush 255, 3) := by decide +kernel
theorem dX7_peek_23 : decode cX7_peek 23 = .ok (.iand, 1) := by decide +kernel
theorem dX7_peek_24 : decode cX7_peek 24 = .ok (.goto 4, 3) := by decide +kernel
theorem dX7_peek_27 : decode cX7_peek 27 = .ok (.iconst (-1), 1) := by decide +kernel
theorem dX7_peek_28 : decode cX7_peek 28 = .ok (.ireturn, 1) := by decide +kernel
theorem dX7_peekBehind_0 : decode cX7_peekBehind 0 = .ok (.aload_n 0, 1) := by decide +kernel
theorem dX7_peekBehind_1 : decode cX7_peekBehind 1 = .ok (.getfield 112, 3) := by decide +kernel
theorem dX7_peekBehind_4 : decode cX7_peekBehind 4 = .ok (.iconst 1, 1) := by decide +kernel
theorem dX7_peekBehind_5 : decode cX7_peekBehind 5 = .ok (.iadd, 1) := by decide +kernel
theorem dX7_peekBehind_6 : decode cX7_peekBehind 6 = .ok (.aload_n 0, 1) := by decide +kernel
theorem dX7_peekBehind_7 : decode cX7_peekBehind 7 = .ok (.getfield 115, 3) := by decide +kernel
theorem dX7_peekBehind_10 : decode cX7_peekBehind 10 = .ok (.if_icmp .ge 21, 3) := by decide +kernel
theorem dX7_peekBehind_13 : decode cX7_peekBehind 13 = .ok (.aload_n 0, 1) := by decide +kernel
theorem dX7_peekBehind_14 : decode cX7_peekBehind 14 = .ok (.getfield 7, 3) := by decide +kernel
theorem dX7_peekBehind_17 : decode cX7_peekBehind 17 = .ok (.aload_n 0, 1) := by decide +kernel
theorem dX7_peekBehind_18 : decode cX7_peekBehind 18 = .ok (.getfield 112, 3) := by decide +kernel
theorem dX7_peekBehind_21 : decode cX7_peekBehind 21 = .ok (.iconst 1, 1) := by decide +kernel
theorem dX7_peekBehind_22 : decode cX7_peekBehind 22 = .ok (.iadd, 1) := by decide +kernel
theorem dX7_peekBehind_23 : decode cX7_peekBehind 23 = .ok (.baload, 1) := by decide +kernel
theorem dX7_peekBehind_24 : decode cX7_peekBehind 24 = .ok (.sipush 255, 3) := by decide +kernel
theorem dX7_peekBehind_27 : decode cX7_peekBehind 27 = .ok (.iand, 1) := by decide +kernel
theorem dX7_peekBehind_28 : decode cX7_peekBehind 28 = .ok (.goto 4, 3) := by decide +kernel
theorem dX7_peekBehind_31 : decode cX7_peekBehind 31 = .ok (.iconst (-1), 1) := by decide +kernel
theorem dX7_peekBehind_32 : decode cX7_peekBehind 32 = .ok (.ireturn, 1) := by decide +kernel
theorem dX7_blanks_0 : decode cX7_blanks 0 = .ok (.aload_n 0, 1) := by decide +kernel
theorem dX7_blanks_1 : decode cX7_blanks 1 = .ok (.invokevirtual 118, 3) := by decide +kernel
theorem dX7_blanks_4 : decode cX7_blanks 4 = .ok (.bipush 32, 2) := by decide +kernel
theorem dX7_blanks_6 : decode cX7_blanks 6 = .ok (.if_icmp .eq 12, 3) := by decide +kernel
theorem dX7_blanks_9 : decode cX7_blanks 9 = .ok (.aload_n 0, 1) := by decide +kernel
theorem dX7_blanks_10 : decode cX7_blanks 10 = .ok (.invokevirtual 118, 3) := by decide +kernel
theorem dX7_blanks_13 : decode cX7_blanks 13 = .ok (.bipush 10, 2) := by decide +kernel
theorem dX7_blanks_15 : decode cX7_blanks 15 = .ok (.if_icmp .ne 16, 3) := by decide +kernel
theorem dX7_blanks_18 : decode cX7_blanks 18 = .ok (.aload_n 0, 1) := by decide +kernel
theorem dX7_blanks_19 : decode cX7_blanks 19 = .ok (.dup, 1) := by decide +kernel
theorem dX7_blanks_20 : decode cX7_blanks 20 = .ok (.getfield 112, 3) := by decide +kernel
theorem dX7_blanks_23 : decode cX7_blanks 23 = .ok (.iconst 1, 1) := by decide +kernel
theorem dX7_blanks_24 : decode cX7_blanks 24 = .ok (.iadd, 1) := by decide +kernel
theorem dX7_blanks_25 : decode cX7_blanks 25 = .ok (.putfield 112, 3) := by decide +kernel
theorem dX7_blanks_28 : decode cX7_blanks 28 = .ok (.goto (-28), 3) := by decide +kernel
theorem dX7_blanks_31 : decode cX7_blanks 31 = .ok (.return_, 1) := by decide +kernel
theorem dX7_fail_0 : decode cX7_fail 0 = .ok (.aload_n 0, 1) := by decide +kernel
theorem dX7_fail_1 : decode cX7_fail 1 = .ok (.getfield 122, 3) := by decide +kernel
theorem dX7_fail_4 : decode cX7_fail 4 = .ok (.ifCond .ne 8, 3) := by decide +kernel
theorem dX7_fail_7 : decode cX7_fail 7 = .ok (.aload_n 0, 1) := by decide +kernel
theorem dX7_fail_8 : decode cX7_fail 8 = .ok (.iload_n 1, 1) := by decide +kernel
theorem dX7_fail_9 : decode cX7_fail 9 = .ok (.putfield 126, 3) := by decide +kernel
theorem dX7_fail_12 : decode cX7_fail 12 = .ok (.aload_n 0, 1) := by decide +kernel
theorem dX7_fail_13 : decode cX7_fail 13 = .ok (.iconst 1, 1) := by decide +kernel
theorem dX7_fail_14 : decode cX7_fail 14 = .ok (.putfield 122, 3) := by decide +kernel
theorem dX7_fail_17 : decode cX7_fail 17 = .ok (.iconst (-1), 1) := by decide +kernel
theorem dX7_fail_18 : decode cX7_fail 18 = .ok (.ireturn, 1) := by decide +kernel
theorem dX7_isLetter_0 : decode cX7_isLetter 0 = .ok (.iload_n 0, 1) := by decide +kernel
theorem dX7_isLetter_1 : decode cX7_isLetter 1 = .ok (.bipush 97, 2) := by decide +kernel
theorem dX7_isLetter_3 : decode cX7_isLetter 3 = .ok (.if_icmp .lt 13, 3) := by decide +kernel
theorem dX7_isLetter_6 : decode cX7_isLetter 6 = .ok (.iload_n 0, 1) := by decide +kernel
theorem dX7_isLetter_7 : decode cX7_isLetter 7 = .ok (.bipush 122, 2) := by decide +kernel
theorem dX7_isLetter_9 : decode cX7_isLetter 9 = .ok (.if_icmp .gt 7, 3) := by decide +kernel
theorem dX7_isLetter_12 : decode cX7_isLetter 12 = .ok (.iconst 1, 1) := by decide +kernel
theorem dX7_isLetter_13 : decode cX7_isLetter 13 = .ok (.goto 4, 3) := by decide +kernel
theorem dX7_isLetter_16 : decode cX7_isLetter 16 = .ok (.iconst 0, 1) := by decide +kernel
theorem dX7_isLetter_17 : decode cX7_isLetter 17 = .ok (.ireturn, 1) := by decide +kernel
theorem dX7_isDigit_0 : decode cX7_isDigit 0 = .ok (.iload_n 0, 1) := by decide +kernel
theorem dX7_isDigit_1 : decode cX7_isDigit 1 = .ok (.bipush 48, 2) := by decide +kernel
theorem dX7_isDigit_3 : decode cX7_isDigit 3 = .ok (.if_icmp .lt 13, 3) := by decide +kernel
theorem dX7_isDigit_6 : decode cX7_isDigit 6 = .ok (.iload_n 0, 1) := by decide +kernel
theorem dX7_isDigit_7 : decode cX7_isDigit 7 = .ok (.bipush 57, 2) := by decide +kernel
theorem dX7_isDigit_9 : decode cX7_isDigit 9 = .ok (.if_icmp .gt 7, 3) := by decide +kernel
theorem dX7_isDigit_12 : decode cX7_isDigit 12 = .ok (.iconst 1, 1) := by decide +kernel
theorem dX7_isDigit_13 : decode cX7_isDigit 13 = .ok (.goto 4, 3) := by decide +kernel
theorem dX7_isDigit_16 : decode cX7_isDigit 16 = .ok (.iconst 0, 1) := by decide +kernel
theorem dX7_isDigit_17 : decode cX7_isDigit 17 = .ok (.ireturn, 1) := by decide +kernel
theorem dX7_wordEnd_0 : decode cX7_wordEnd 0 = .ok (.aload_n 0, 1) := by decide +kernel
theorem dX7_wordEnd_1 : decode cX7_wordEnd 1 = .ok (.getfield 112, 3) := by decide +kernel
theorem dX7_wordEnd_4 : decode cX7_wordEnd 4 = .ok (.istore_n 1, 1) := by decide +kernel
theorem dX7_wordEnd_5 : decode cX7_wordEnd 5 = .ok (.iload_n 1, 1) := by decide +kernel
theorem dX7_wordEnd_6 : decode cX7_wordEnd 6 = .ok (.aload_n 0, 1) := by decide +kernel
theorem dX7_wordEnd_7 : decode cX7_wordEnd 7 = .ok (.getfield 115, 3) := by decide +kernel
theorem dX7_wordEnd_10 : decode cX7_wordEnd 10 = .ok (.if_icmp .ge 33, 3) := by decide +kernel
theorem dX7_wordEnd_13 : decode cX7_wordEnd 13 = .ok (.aload_n 0, 1) := by decide +kernel
theorem dX7_wordEnd_14 : decode cX7_wordEnd 14 = .ok (.getfield 7, 3) := by decide +kernel
theorem dX7_wordEnd_17 : decode cX7_wordEnd 17 = .ok (.iload_n 1, 1) := by decide +kernel
theorem dX7_wordEnd_18 : decode cX7_wordEnd 18 = .ok (.baload, 1) := by decide +kernel
theorem dX7_wordEnd_19 : decode cX7_wordEnd 19 = .ok (.invokestatic 129, 3) := by decide +kernel
theorem dX7_wordEnd_22 : decode cX7_wordEnd 22 = .ok (.ifCond .ne 15, 3) := by decide +kernel
theorem dX7_wordEnd_25 : decode cX7_wordEnd 25 = .ok (.aload_n 0, 1) := by decide +kernel
theorem dX7_wordEnd_26 : decode cX7_wordEnd 26 = .ok (.getfield 7, 3) := by decide +kernel
theorem dX7_wordEnd_29 : decode cX7_wordEnd 29 = .ok (.iload_n 1, 1) := by decide +kernel
theorem dX7_wordEnd_30 : decode cX7_wordEnd 30 = .ok (.baload, 1) := by decide +kernel
theorem dX7_wordEnd_31 : decode cX7_wordEnd 31 = .ok (.invokestatic 133, 3) := by decide +kernel
theorem dX7_wordEnd_34 : decode cX7_wordEnd 34 = .ok (.ifCond .eq 9, 3) := by decide +kernel
theorem dX7_wordEnd_37 : decode cX7_wordEnd 37 = .ok (.iinc 1 1, 3) := by decide +kernel
theorem dX7_wordEnd_40 : decode cX7_wordEnd 40 = .ok (.goto (-35), 3) := by decide +kernel
theorem dX7_wordEnd_43 : decode cX7_wordEnd 43 = .ok (.iload_n 1, 1) := by decide +kernel
theorem dX7_wordEnd_44 : decode cX7_wordEnd 44 = .ok (.ireturn, 1) := by decide +kernel
theorem dX7_isWord_0 : decode cX7_isWord 0 = .ok (.aload_n 1, 1) := by decide +kernel
theorem dX7_isWord_1 : decode cX7_isWord 1 = .ok (.invokevirtual 136, 3) := by decide +kernel
theorem dX7_isWord_4 : decode cX7_isWord 4 = .ok (.istore_n 2, 1) := by decide +kernel
theorem dX7_isWord_5 : decode cX7_isWord 5 = .ok (.aload_n 0, 1) := by decide +kernel
theorem dX7_isWord_6 : decode cX7_isWord 6 = .ok (.invokevirtual 118, 3) := by decide +kernel
theorem dX7_isWord_9 : decode cX7_isWord 9 = .ok (.invokestatic 129, 3) := by decide +kernel
theorem dX7_isWord_12 : decode cX7_isWord 12 = .ok (.ifCond .eq 16, 3) := by decide +kernel
theorem dX7_isWord_15 : decode cX7_isWord 15 = .ok (.aload_n 0, 1) := by decide +kernel
theorem dX7_isWord_16 : decode cX7_isWord 16 = .ok (.invokevirtual 141, 3) := by decide +kernel
theorem dX7_isWord_19 : decode cX7_isWord 19 = .ok (.aload_n 0, 1) := by decide +kernel
theorem dX7_isWord_20 : decode cX7_isWord 20 = .ok (.getfield 112, 3) := by decide +kernel
theorem dX7_isWord_23 : decode cX7_isWord 23 = .ok (.isub, 1) := by decide +kernel
theorem dX7_isWord_24 : decode cX7_isWord 24 = .ok (.iload_n 2, 1) := by decide +kernel
theorem dX7_isWord_25 : decode cX7_isWord 25 = .ok (.if_icmp .eq 5, 3) := by decide +kernel
theorem dX7_isWord_28 : decode cX7_isWord 28 = .ok (.iconst 0, 1) := by decide +kernel
theorem dX7_isWord_29 : decode cX7_isWord 29 = .ok (.ireturn, 1) := by decide +kernel
theorem dX7_isWord_30 : decode cX7_isWord 30 = .ok (.iconst 0, 1) := by decide +kernel
theorem dX7_isWord_31 : decode cX7_isWord 31 = .ok (.istore_n 3, 1) := by decide +kernel
theorem dX7_isWord_32 : decode cX7_isWord 32 = .ok (.iload_n 3, 1) := by decide +kernel
theorem dX7_isWord_33 : decode cX7_isWord 33 = .ok (.iload_n 2, 1) := by decide +kernel
theorem dX7_isWord_34 : decode cX7_isWord 34 = .ok (.if_icmp .ge 30, 3) := by decide +kernel
theorem dX7_isWord_37 : decode cX7_isWord 37 = .ok (.aload_n 0, 1) := by decide +kernel
theorem dX7_isWord_38 : decode cX7_isWord 38 = .ok (.getfield 7, 3) := by decide +kernel
theorem dX7_isWord_41 : decode cX7_isWord 41 = .ok (.aload_n 0, 1) := by decide +kernel
theorem dX7_isWord_42 : decode cX7_isWord 42 = .ok (.getfield 112, 3) := by decide +kernel
theorem dX7_isWord_45 : decode cX7_isWord 45 = .ok (.iload_n 3, 1) := by decide +kernel
theorem dX7_isWord_46 : decode cX7_isWord 46 = .ok (.iadd, 1) := by decide +kernel
theorem dX7_isWord_47 : decode cX7_isWord 47 = .ok (.baload, 1) := by decide +kernel
theorem dX7_isWord_48 : decode cX7_isWord 48 = .ok (.aload_n 1, 1) := by decide +kernel
theorem dX7_isWord_49 : decode cX7_isWord 49 = .ok (.iload_n 3, 1) := by decide +kernel
theorem dX7_isWord_50 : decode cX7_isWord 50 = .ok (.invokevirtual 144, 3) := by decide +kernel
theorem dX7_isWord_53 : decode cX7_isWord 53 = .ok (.if_icmp .eq 5, 3) := by decide +kernel
theorem dX7_isWord_56 : decode cX7_isWord 56 = .ok (.iconst 0, 1) := by decide +kernel
theorem dX7_isWord_57 : decode cX7_isWord 57 = .ok (.ireturn, 1) := by decide +kernel
theorem dX7_isWord_58 : decode cX7_isWord 58 = .ok (.iinc 3 1, 3) := by decide +kernel
theorem dX7_isWord_61 : decode cX7_isWord 61 = .ok (.goto (-29), 3) := by decide +kernel
theorem dX7_isWord_64 : decode cX7_isWord 64 = .ok (.iconst 1, 1) := by decide +kernel
theorem dX7_isWord_65 : decode cX7_isWord 65 = .ok (.ireturn, 1) := by decide +kernel
theorem dX7_name_0 : decode cX7_name 0 = .ok (.aload_n 0, 1) := by decide +kernel
theorem dX7_name_1 : decode cX7_name 1 = .ok (.invokevirtual 148, 3) := by decide +kernel
theorem dX7_name_4 : decode cX7_name 4 = .ok (.aload_n 0, 1) := by decide +kernel
theorem dX7_name_5 : decode cX7_name 5 = .ok (.getfield 112, 3) := by decide +kernel
theorem dX7_name_8 : decode cX7_name 8 = .ok (.istore_n 1, 1) := by decide +kernel
theorem dX7_name_9 : decode cX7_name 9 = .ok (.aload_n 0, 1) := by decide +kernel
theorem dX7_name_10 : decode cX7_name 10 = .ok (.invokevirtual 118, 3) := by decide +kernel
theorem dX7_name_13 : decode cX7_name 13 = .ok (.invokestatic 129, 3) := by decide +kernel
theorem dX7_name_16 : decode cX7_name 16 = .ok (.ifCond .ne 12, 3) := by decide +kernel
theorem dX7_name_19 : decode cX7_name 19 = .ok (.aload_n 0, 1) := by decide +kernel
theorem dX7_name_20 : decode cX7_name 20 = .ok (.aload_n 0, 1) := by decide +kernel
theorem dX7_name_21 : decode cX7_name 21 = .ok (.getfield 112, 3) := by decide +kernel
theorem dX7_name_24 : decode cX7_name 24 = .ok (.invokevirtual 151, 3) := by decide +kernel
theorem dX7_name_27 : decode cX7_name 27 = .ok (.ireturn, 1) := by decide +kernel
theorem dX7_name_28 : decode cX7_name 28 = .ok (.aload_n 0, 1) := by decide +kernel
theorem dX7_name_29 : decode cX7_name 29 = .ok (.invokevirtual 141, 3) := by decide +kernel
theorem dX7_name_32 : decode cX7_name 32 = .ok (.istore_n 2, 1) := by decide +kernel
theorem dX7_name_33 : decode cX7_name 33 = .ok (.iload_n 2, 1) := by decide +kernel
theorem dX7_name_34 : decode cX7_name 34 = .ok (.iload_n 1, 1) := by decide +kernel
theorem dX7_name_35 : decode cX7_name 35 = .ok (.isub, 1) := by decide +kernel
theorem dX7_name_36 : decode cX7_name 36 = .ok (.iconst 4, 1) := by decide +kernel
theorem dX7_name_37 : decode cX7_name 37 = .ok (.if_icmp .gt 7, 3) := by decide +kernel
theorem dX7_name_40 : decode cX7_name 40 = .ok (.iconst 1, 1) := by decide +kernel
theorem dX7_name_41 : decode cX7_name 41 = .ok (.goto 4, 3) := by decide +kernel
theorem dX7_name_44 : decode cX7_name 44 = .ok (.iconst 0, 1) := by decide +kernel
theorem dX7_name_45 : decode cX7_name 45 = .ok (.istore_n 3, 1) := by decide +kernel
theorem dX7_name_46 : decode cX7_name 46 = .ok (.aload_n 0, 1) := by decide +kernel
theorem dX7_name_47 : decode cX7_name 47 = .ok (.invokevirtual 118, 3) := by decide +kernel
theorem dX7_name_50 : decode cX7_name 50 = .ok (.istore 4, 2) := by decide +kernel
theorem dX7_name_52 : decode cX7_name 52 = .ok (.iload_n 1, 1) := by decide +kernel
theorem dX7_name_53 : decode cX7_name 53 = .ok (.iconst 1, 1) := by decide +kernel
theorem dX7_name_54 : decode cX7_name 54 = .ok (.iadd, 1) := by decide +kernel
theorem dX7_name_55 : decode cX7_name 55 = .ok (.istore 5, 2) := by decide +kernel
theorem dX7_name_57 : decode cX7_name 57 = .ok (.iload 5, 2) := by decide +kernel
theorem dX7_name_59 : decode cX7_name 59 = .ok (.iload_n 2, 1) := by decide +kernel
theorem dX7_name_60 : decode cX7_name 60 = .ok (.if_icmp .ge 39, 3) := by decide +kernel
theorem dX7_name_63 : decode cX7_name 63 = .ok (.iload_n 3, 1) := by decide +kernel
theorem dX7_name_64 : decode cX7_name 64 = .ok (.ifCond .eq 35, 3) := by decide +kernel
theorem dX7_name_67 : decode cX7_name 67 = .ok (.aload_n 0, 1) := by decide +kernel
theorem dX7_name_68 : decode cX7_name 68 = .ok (.getfield 7, 3) := by decide +kernel
theorem dX7_name_71 : decode cX7_name 71 = .ok (.iload 5, 2) := by decide +kernel
theorem dX7_name_73 : decode cX7_name 73 = .ok (.baload, 1) := by decide +kernel
theorem dX7_name_74 : decode cX7_name 74 = .ok (.invokestatic 133, 3) := by decide +kernel
theorem dX7_name_77 : decode cX7_name 77 = .ok (.istore_n 3, 1) := by decide +kernel
theorem dX7_name_78 : decode cX7_name 78 = .ok (.iload 4, 2) := by decide +kernel
theorem dX7_name_80 : decode cX7_name 80 = .ok (.bipush 8, 2) := by decide +kernel
theorem dX7_name_82 : decode cX7_name 82 = .ok (.ishl, 1) := by decide +kernel
theorem dX7_name_83 : decode cX7_name 83 = .ok (.aload_n 0, 1) := by decide +kernel
theorem dX7_name_84 : decode cX7_name 84 = .ok (.getfield 7, 3) := by decide +kernel
theorem dX7_name_87 : decode cX7_name 87 = .ok (.iload 5, 2) := by decide +kernel
theorem dX7_name_89 : decode cX7_name 89 = .ok (.baload, 1) := by decide +kernel
theorem dX7_name_90 : decode cX7_name 90 = .ok (.ior, 1) := by decide +kernel
theorem dX7_name_91 : decode cX7_name 91 = .ok (.istore 4, 2) := by decide +kernel
theorem dX7_name_93 : decode cX7_name 93 = .ok (.iinc 5 1, 3) := by decide +kernel
theorem dX7_name_96 : decode cX7_name 96 = .ok (.goto (-39), 3) := by decide +kernel
theorem dX7_name_99 : decode cX7_name 99 = .ok (.iload_n 3, 1) := by decide +kernel
theorem dX7_name_100 : decode cX7_name 100 = .ok (.ifCond .ne 9, 3) := by decide +kernel
theorem dX7_name_103 : decode cX7_name 103 = .ok (.aload_n 0, 1) := by decide +kernel
theorem dX7_name_104 : decode cX7_name 104 = .ok (.iload_n 1, 1) := by decide +kernel
theorem dX7_name_105 : decode cX7_name 105 = .ok (.invokevirtual 151, 3) := by decide +kernel
theorem dX7_name_108 : decode cX7_name 108 = .ok (.ireturn, 1) := by decide +kernel
theorem dX7_name_109 : decode cX7_name 109 = .ok (.aload_n 0, 1) := by decide +kernel
theorem dX7_name_110 : decode cX7_name 110 = .ok (.iload_n 2, 1) := by decide +kernel
theorem dX7_name_111 : decode cX7_name 111 = .ok (.putfield 112, 3) := by decide +kernel
theorem dX7_name_114 : decode cX7_name 114 = .ok (.iload 4, 2) := by decide +kernel
theorem dX7_name_116 : decode cX7_name 116 = .ok (.ireturn, 1) := by decide +kernel
theorem dX7_binding_0 : decode cX7_binding 0 = .ok (.aload_n 0, 1) := by decide +kernel
theorem dX7_binding_1 : decode cX7_binding 1 = .ok (.invokevirtual 148, 3) := by decide +kernel
theorem dX7_binding_4 : decode cX7_binding 4 = .ok (.aload_n 0, 1) := by decide +kernel
theorem dX7_binding_5 : decode cX7_binding 5 = .ok (.getfield 112, 3) := by decide +kernel
theorem dX7_binding_8 : decode cX7_binding 8 = .ok (.istore_n 1, 1) := by decide +kernel
theorem dX7_binding_9 : decode cX7_binding 9 = .ok (.aload_n 0, 1) := by decide +kernel
theorem dX7_binding_10 : decode cX7_binding 10 = .ok (.invokevirtual 155, 3) := by decide +kernel
theorem dX7_binding_13 : decode cX7_binding 13 = .ok (.istore_n 2, 1) := by decide +kernel
theorem dX7_binding_14 : decode cX7_binding 14 = .ok (.aload_n 0, 1) := by decide +kernel
theorem dX7_binding_15 : decode cX7_binding 15 = .ok (.getfield 122, 3) := by decide +kernel
theorem dX7_binding_18 : decode cX7_binding 18 = .ok (.ifCond .eq 5, 3) := by decide +kernel
theorem dX7_binding_21 : decode cX7_binding 21 = .ok (.iconst 0, 1) := by decide +kernel
theorem dX7_binding_22 : decode cX7_binding 22 = .ok (.ireturn, 1) := by decide +kernel
theorem dX7_binding_23 : decode cX7_binding 23 = .ok (.aload_n 0, 1) := by decide +kernel
theorem dX7_binding_24 : decode cX7_binding 24 = .ok (.getfield 17, 3) := by decide +kernel
theorem dX7_binding_27 : decode cX7_binding 27 = .ok (.iconst 1, 1) := by decide +kernel
theorem dX7_binding_28 : decode cX7_binding 28 = .ok (.aload_n 0, 1) := by decide +kernel
theorem dX7_binding_29 : decode cX7_binding 29 = .ok (.getfield 101, 3) := by decide +kernel
theorem dX7_binding_32 : decode cX7_binding 32 = .ok (.isub, 1) := by decide +kernel
theorem dX7_binding_33 : decode cX7_binding 33 = .ok (.iaload, 1) := by decide +kernel
theorem dX7_binding_34 : decode cX7_binding 34 = .ok (.bipush 100, 2) := by decide +kernel
theorem dX7_binding_36 : decode cX7_binding 36 = .ok (.if_icmp .ne 9, 3) := by decide +kernel
theorem dX7_binding_39 : decode cX7_binding 39 = .ok (.aload_n 0, 1) := by decide +kernel
theorem dX7_binding_40 : decode cX7_binding 40 = .ok (.iload_n 1, 1) := by decide +kernel
theorem dX7_binding_41 : decode cX7_binding 41 = .ok (.invokevirtual 151, 3) := by decide +kernel
theorem dX7_binding_44 : decode cX7_binding 44 = .ok (.ireturn, 1) := by decide +kernel
theorem dX7_binding_45 : decode cX7_binding 45 = .ok (.aload_n 0, 1) := by decide +kernel
theorem dX7_binding_46 : decode cX7_binding 46 = .ok (.getfield 48, 3) := by decide +kernel
theorem dX7_binding_49 : decode cX7_binding 49 = .ok (.aload_n 0, 1) := by decide +kernel
theorem dX7_binding_50 : decode cX7_binding 50 = .ok (.getfield 158, 3) := by decide +kernel
theorem dX7_binding_53 : decode cX7_binding 53 = .ok (.iload_n 2, 1) := by decide +kernel
theorem dX7_binding_54 : decode cX7_binding 54 = .ok (.iastore, 1) := by decide +kernel
theorem dX7_binding_55 : decode cX7_binding 55 = .ok (.aload_n 0, 1) := by decide +kernel
theorem dX7_binding_56 : decode cX7_binding 56 = .ok (.getfield 51, 3) := by decide +kernel
theorem dX7_binding_59 : decode cX7_binding 59 = .ok (.aload_n 0, 1) := by decide +kernel
theorem dX7_binding_60 : decode cX7_binding 60 = .ok (.getfield 158, 3) := by decide +kernel
theorem dX7_binding_63 : decode cX7_binding 63 = .ok (.aload_n 0, 1) := by decide +kernel
theorem dX7_binding_64 : decode cX7_binding 64 = .ok (.getfield 17, 3) := by decide +kernel
theorem dX7_binding_67 : decode cX7_binding 67 = .ok (.iconst 1, 1) := by decide +kernel
theorem dX7_binding_68 : decode cX7_binding 68 = .ok (.aload_n 0, 1) := by decide +kernel
theorem dX7_binding_69 : decode cX7_binding 69 = .ok (.getfield 101, 3) := by decide +kernel
theorem dX7_binding_72 : decode cX7_binding 72 = .ok (.isub, 1) := by decide +kernel
theorem dX7_binding_73 : decode cX7_binding 73 = .ok (.iaload, 1) := by decide +kernel
theorem dX7_binding_74 : decode cX7_binding 74 = .ok (.iastore, 1) := by decide +kernel
theorem dX7_binding_75 : decode cX7_binding 75 = .ok (.aload_n 0, 1) := by decide +kernel
theorem dX7_binding_76 : decode cX7_binding 76 = .ok (.getfield 17, 3) := by decide +kernel
theorem dX7_binding_79 : decode cX7_binding 79 = .ok (.iconst 1, 1) := by decide +kernel
theorem dX7_binding_80 : decode cX7_binding 80 = .ok (.aload_n 0, 1) := by decide +kernel
theorem dX7_binding_81 : decode cX7_binding 81 = .ok (.getfield 101, 3) := by decide +kernel
theorem dX7_binding_84 : decode cX7_binding 84 = .ok (.isub, 1) := by decide +kernel
theorem dX7_binding_85 : decode cX7_binding 85 = .ok (.dup2, 1) := by decide +kernel
theorem dX7_binding_86 : decode cX7_binding 86 = .ok (.iaload, 1) := by decide +kernel
theorem dX7_binding_87 : decode cX7_binding 87 = .ok (.iconst 1, 1) := by decide +kernel
theorem dX7_binding_88 : decode cX7_binding 88 = .ok (.iadd, 1) := by decide +kernel
theorem dX7_binding_89 : decode cX7_binding 89 = .ok (.iastore, 1) := by decide +kernel
theorem dX7_binding_90 : decode cX7_binding 90 = .ok (.aload_n 0, 1) := by decide +kernel
theorem dX7_binding_91 : decode cX7_binding 91 = .ok (.dup, 1) := by decide +kernel
theorem dX7_binding_92 : decode cX7_binding 92 = .ok (.getfield 158, 3) := by decide +kernel
theorem dX7_binding_95 : decode cX7_binding 95 = .ok (.iconst 1, 1) := by decide +kernel
theorem dX7_binding_96 : decode cX7_binding 96 = .ok (.iadd, 1) := by decide +kernel
theorem dX7_binding_97 : decode cX7_binding 97 = .ok (.putfield 158, 3) := by decide +kernel
theorem dX7_binding_100 : decode cX7_binding 100 = .ok (.aload_n 0, 1) := by decide +kernel
theorem dX7_binding_101 : decode cX7_binding 101 = .ok (.getfield 51, 3) := by decide +kernel
theorem dX7_binding_104 : decode cX7_binding 104 = .ok (.aload_n 0, 1) := by decide +kernel
theorem dX7_binding_105 : decode cX7_binding 105 = .ok (.getfield 158, 3) := by decide +kernel
theorem dX7_binding_108 : decode cX7_binding 108 = .ok (.iconst 1, 1) := by decide +kernel
theorem dX7_binding_109 : decode cX7_binding 109 = .ok (.isub, 1) := by decide +kernel
theorem dX7_binding_110 : decode cX7_binding 110 = .ok (.iaload, 1) := by decide +kernel
theorem dX7_binding_111 : decode cX7_binding 111 = .ok (.ireturn, 1) := by decide +kernel
theorem dX7_expression_0 : decode cX7_expression 0 = .ok (.aload_n 0, 1) := by decide +kernel
theorem dX7_expression_1 : decode cX7_expression 1 = .ok (.invokevirtual 148, 3) := by decide +kernel
theorem dX7_expression_4 : decode cX7_expression 4 = .ok (.iconst 1, 1) := by decide +kernel
theorem dX7_expression_5 : decode cX7_expression 5 = .ok (.aload_n 0, 1) := by decide +kernel
theorem dX7_expression_6 : decode cX7_expression 6 = .ok (.getfield 101, 3) := by decide +kernel
theorem dX7_expression_9 : decode cX7_expression 9 = .ok (.isub, 1) := by decide +kernel
theorem dX7_expression_10 : decode cX7_expression 10 = .ok (.istore_n 2, 1) := by decide +kernel
theorem dX7_expression_11 : decode cX7_expression 11 = .ok (.aload_n 0, 1) := by decide +kernel
theorem dX7_expression_12 : decode cX7_expression 12 = .ok (.getfield 13, 3) := by decide +kernel
theorem dX7_expression_15 : decode cX7_expression 15 = .ok (.iload_n 2, 1) := by decide +kernel
theorem dX7_expression_16 : decode cX7_expression 16 = .ok (.iaload, 1) := by decide +kernel
theorem dX7_expression_17 : decode cX7_expression 17 = .ok (.sipush 200, 3) := by decide +kernel
theorem dX7_expression_20 : decode cX7_expression 20 = .ok (.if_icmp .ne 12, 3) := by decide +kernel
theorem dX7_expression_23 : decode cX7_expression 23 = .ok (.aload_n 0, 1) := by decide +kernel
theorem dX7_expression_24 : decode cX7_expression 24 = .ok (.aload_n 0, 1) := by decide +kernel
theorem dX7_expression_25 : decode cX7_expression 25 = .ok (.getfield 112, 3) := by decide +kernel
theorem dX7_expression_28 : decode cX7_expression 28 = .ok (.invokevirtual 151, 3) := by decide +kernel
theorem dX7_expression_31 : decode cX7_expression 31 = .ok (.ireturn, 1) := by decide +kernel
theorem dX7_expression_32 : decode cX7_expression 32 = .ok (.aload_n 0, 1) := by decide +kernel
theorem dX7_expression_33 : decode cX7_expression 33 = .ok (.invokevirtual 118, 3) := by decide +kernel
theorem dX7_expression_36 : decode cX7_expression 36 = .ok (.istore_n 3, 1) := by decide +kernel
theorem dX7_expression_37 : decode cX7_expression 37 = .ok (.iload_n 3, 1) := by decide +kernel
theorem dX7_expression_38 : decode cX7_expression 38 = .ok (.invokestatic 129, 3) := by decide +kernel
theorem dX7_expression_41 : decode cX7_expression 41 = .ok (.ifCond .eq 87, 3) := by decide +kernel
theorem dX7_expression_44 : decode cX7_expression 44 = .ok (.aload_n 0, 1) := by decide +kernel
theorem dX7_expression_45 : decode cX7_expression 45 = .ok (.getfield 112, 3) := by decide +kernel
theorem dX7_expression_48 : decode cX7_expression 48 = .ok (.istore 4, 2) := by decide +kernel
theorem dX7_expression_50 : decode cX7_expression 50 = .ok (.aload_n 0, 1) := by decide +kernel
theorem dX7_expression_51 : decode cX7_expression 51 = .ok (.invokevirtual 155, 3) := by decide +kernel
theorem dX7_expression_54 : decode cX7_expression 54 = .ok (.istore 5, 2) := by decide +kernel
theorem dX7_expression_56 : decode cX7_expression 56 = .ok (.aload_n 0, 1) := by decide +kernel
theorem dX7_expression_57 : decode cX7_expression 57 = .ok (.getfield 158, 3) := by decide +kernel
theorem dX7_expression_60 : decode cX7_expression 60 = .ok (.iconst 1, 1) := by decide +kernel
theorem dX7_expression_61 : decode cX7_expression 61 = .ok (.isub, 1) := by decide +kernel
theorem dX7_expression_62 : decode cX7_expression 62 = .ok (.istore 6, 2) := by decide +kernel
theorem dX7_expression_64 : decode cX7_expression 64 = .ok (.aload_n 0, 1) := by decide +kernel
theorem dX7_expression_65 : decode cX7_expression 65 = .ok (.getfield 122, 3) := by decide +kernel
theorem dX7_expression_68 : decode cX7_expression 68 = .ok (.ifCond .ne 26, 3) := by decide +kernel
theorem dX7_expression_71 : decode cX7_expression 71 = .ok (.iload 6, 2) := by decide +kernel
theorem dX7_expression_73 : decode cX7_expression 73 = .ok (.ifCond .lt 21, 3) := by decide +kernel
theorem dX7_expression_76 : decode cX7_expression 76 = .ok (.aload_n 0, 1) := by decide +kernel
theorem dX7_expression_77 : decode cX7_expression 77 = .ok (.getfield 48, 3) := by decide +kernel
theorem dX7_expression_80 : decode cX7_expression 80 = .ok (.iload 6, 2) := by decide +kernel
theorem dX7_expression_82 : decode cX7_expression 82 = .ok (.iaload, 1) := by decide +kernel
theorem dX7_expression_83 : decode cX7_expression 83 = .ok (.iload 5, 2) := by decide +kernel
theorem dX7_expression_85 : decode cX7_expression 85 = .ok (.if_icmp .eq 9, 3) := by decide +kernel
theorem dX7_expression_88 : decode cX7_expression 88 = .ok (.iinc 6 (-1), 3) := by decide +kernel
theorem dX7_expression_91 : decode cX7_expression 91 = .ok (.goto (-27), 3) := by decide +kernel
theorem dX7_expression_94 : decode cX7_expression 94 = .ok (.aload_n 0, 1) := by decide +kernel
theorem dX7_expression_95 : decode cX7_expression 95 = .ok (.getfield 122, 3) := by decide +kernel
theorem dX7_expression_98 : decode cX7_expression 98 = .ok (.ifCond .ne 8, 3) := by decide +kernel
theorem dX7_expression_101 : decode cX7_expression 101 = .ok (.iload 6, 2) := by decide +kernel
theorem dX7_expression_103 : decode cX7_expression 103 = .ok (.ifCond .ge 10, 3) := by decide +kernel
theorem dX7_expression_106 : decode cX7_expression 106 = .ok (.aload_n 0, 1) := by decide +kernel
theorem dX7_expression_107 : decode cX7_expression 107 = .ok (.iload 4, 2) := by decide +kernel
theorem dX7_expression_109 : decode cX7_expression 109 = .ok (.invokevirtual 151, 3) := by decide +kernel
theorem dX7_expression_112 : decode cX7_expression 112 = .ok (.ireturn, 1) := by decide +kernel
theorem dX7_expression_113 : decode cX7_expression 113 = .ok (.aload_n 0, 1) := by decide +kernel
theorem dX7_expression_114 : decode cX7_expression 114 = .ok (.iload_n 2, 1) := by decide +kernel
theorem dX7_expression_115 : decode cX7_expression 115 = .ok (.iconst 0, 1) := by decide +kernel
theorem dX7_expression_116 : decode cX7_expression 116 = .ok (.aload_n 0, 1) := by decide +kernel
theorem dX7_expression_117 : decode cX7_expression 117 = .ok (.getfield 51, 3) := by decide +kernel
theorem dX7_expression_120 : decode cX7_expression 120 = .ok (.iload 6, 2) := by decide +kernel
theorem dX7_expression_122 : decode cX7_expression 122 = .ok (.iaload, 1) := by decide +kernel
theorem dX7_expression_123 : decode cX7_expression 123 = .ok (.iload_n 1, 1) := by decide +kernel
theorem dX7_expression_124 : decode cX7_expression 124 = .ok (.invokevirtual 161, 3) := by decide +kernel
theorem dX7_expression_127 : decode cX7_expression 127 = .ok (.ireturn, 1) := by decide +kernel
theorem dX7_expression_128 : decode cX7_expression 128 = .ok (.iload_n 3, 1) := by decide +kernel
theorem dX7_expression_129 : decode cX7_expression 129 = .ok (.invokestatic 133, 3) := by decide +kernel
theorem dX7_expression_132 : decode cX7_expression 132 = .ok (.ifCond .ne 9, 3) := by decide +kernel
theorem dX7_expression_135 : decode cX7_expression 135 = .ok (.iload_n 3, 1) := by decide +kernel
theorem dX7_expression_136 : decode cX7_expression 136 = .ok (.bipush 45, 2) := by decide +kernel
theorem dX7_expression_138 : decode cX7_expression 138 = .ok (.if_icmp .ne 9, 3) := by decide +kernel
theorem dX7_expression_141 : decode cX7_expression 141 = .ok (.aload_n 0, 1) := by decide +kernel
theorem dX7_expression_142 : decode cX7_expression 142 = .ok (.iload_n 1, 1) := by decide +kernel
theorem dX7_expression_143 : decode cX7_expression 143 = .ok (.invokevirtual 165, 3) := by decide +kernel
theorem dX7_expression_146 : decode cX7_expression 146 = .ok (.ireturn, 1) := by decide +kernel
theorem dX7_expression_147 : decode cX7_expression 147 = .ok (.iload_n 3, 1) := by decide +kernel
theorem dX7_expression_148 : decode cX7_expression 148 = .ok (.bipush 92, 2) := by decide +kernel
theorem dX7_expression_150 : decode cX7_expression 150 = .ok (.if_icmp .eq 9, 3) := by decide +kernel
theorem dX7_expression_153 : decode cX7_expression 153 = .ok (.iload_n 3, 1) := by decide +kernel
theorem dX7_expression_154 : decode cX7_expression 154 = .ok (.bipush 40, 2) := by decide +kernel
theorem dX7_expression_156 : decode cX7_expression 156 = .ok (.if_icmp .ne 12, 3) := by decide +kernel
theorem dX7_expression_159 : decode cX7_expression 159 = .ok (.aload_n 0, 1) := by decide +kernel
theorem dX7_expression_160 : decode cX7_expression 160 = .ok (.getfield 168, 3) := by decide +kernel
theorem dX7_expression_163 : decode cX7_expression 163 = .ok (.bipush 40, 2) := by decide +kernel
theorem dX7_expression_165 : decode cX7_expression 165 = .ok (.if_icmp .ne 12, 3) := by decide +kernel
theorem dX7_expression_168 : decode cX7_expression 168 = .ok (.aload_n 0, 1) := by decide +kernel
theorem dX7_expression_169 : decode cX7_expression 169 = .ok (.aload_n 0, 1) := by decide +kernel
theorem dX7_expression_170 : decode cX7_expression 170 = .ok (.getfield 112, 3) := by decide +kernel
theorem dX7_expression_173 : decode cX7_expression 173 = .ok (.invokevirtual 151, 3) := by decide +kernel
theorem dX7_expression_176 : decode cX7_expression 176 = .ok (.ireturn, 1) := by decide +kernel
theorem dX7_expression_177 : decode cX7_expression 177 = .ok (.aload_n 0, 1) := by decide +kernel
theorem dX7_expression_178 : decode cX7_expression 178 = .ok (.dup, 1) := by decide +kernel
theorem dX7_expression_179 : decode cX7_expression 179 = .ok (.getfield 168, 3) := by decide +kernel
theorem dX7_expression_182 : decode cX7_expression 182 = .ok (.iconst 1, 1) := by decide +kernel
theorem dX7_expression_183 : decode cX7_expression 183 = .ok (.iadd, 1) := by decide +kernel
theorem dX7_expression_184 : decode cX7_expression 184 = .ok (.putfield 168, 3) := by decide +kernel
theorem dX7_expression_187 : decode cX7_expression 187 = .ok (.aload_n 0, 1) := by decide +kernel
theorem dX7_expression_188 : decode cX7_expression 188 = .ok (.getfield 112, 3) := by decide +kernel
theorem dX7_expression_191 : decode cX7_expression 191 = .ok (.istore 4, 2) := by decide +kernel
theorem dX7_expression_193 : decode cX7_expression 193 = .ok (.aload_n 0, 1) := by decide +kernel
theorem dX7_expression_194 : decode cX7_expression 194 = .ok (.dup, 1) := by decide +kernel
theorem dX7_expression_195 : decode cX7_expression 195 = .ok (.getfield 112, 3) := by decide +kernel
theorem dX7_expression_198 : decode cX7_expression 198 = .ok (.iconst 1, 1) := by decide +kernel
theorem dX7_expression_199 : decode cX7_expression 199 = .ok (.iadd, 1) := by decide +kernel
theorem dX7_expression_200 : decode cX7_expression 200 = .ok (.putfield 112, 3) := by decide +kernel
theorem dX7_expression_203 : decode cX7_expression 203 = .ok (.iload_n 3, 1) := by decide +kernel
theorem dX7_expression_204 : decode cX7_expression 204 = .ok (.bipush 92, 2) := by decide +kernel
theorem dX7_expression_206 : decode cX7_expression 206 = .ok (.if_icmp .ne 13, 3) := by decide +kernel
theorem dX7_expression_209 : decode cX7_expression 209 = .ok (.aload_n 0, 1) := by decide +kernel
theorem dX7_expression_210 : decode cX7_expression 210 = .ok (.iload 4, 2) := by decide +kernel
theorem dX7_expression_212 : decode cX7_expression 212 = .ok (.iload_n 1, 1) := by decide +kernel
theorem dX7_expression_213 : decode cX7_expression 213 = .ok (.invokevirtual 171, 3) := by decide +kernel
theorem dX7_expression_216 : decode cX7_expression 216 = .ok (.goto 10, 3) := by decide +kernel
theorem dX7_expression_219 : decode cX7_expression 219 = .ok (.aload_n 0, 1) := by decide +kernel
theorem dX7_expression_220 : decode cX7_expression 220 = .ok (.iload 4, 2) := by decide +kernel
theorem dX7_expression_222 : decode cX7_expression 222 = .ok (.iload_n 1, 1) := by decide +kernel
theorem dX7_expression_223 : decode cX7_expression 223 = .ok (.invokevirtual 175, 3) := by decide +kernel
theorem dX7_expression_226 : decode cX7_expression 226 = .ok (.istore 5, 2) := by decide +kernel
theorem dX7_expression_228 : decode cX7_expression 228 = .ok (.aload_n 0, 1) := by decide +kernel
theorem dX7_expression_229 : decode cX7_expression 229 = .ok (.dup, 1) := by decide +kernel
theorem dX7_expression_230 : decode cX7_expression 230 = .ok (.getfield 168, 3) := by decide +kernel
theorem dX7_expression_233 : decode cX7_expression 233 = .ok (.iconst 1, 1) := by decide +kernel
theorem dX7_expression_234 : decode cX7_expression 234 = .ok (.isub, 1) := by decide +kernel
theorem dX7_expression_235 : decode cX7_expression 235 = .ok (.putfield 168, 3) := by decide +kernel
theorem dX7_expression_238 : decode cX7_expression 238 = .ok (.iload 5, 2) := by decide +kernel
theorem dX7_expression_240 : decode cX7_expression 240 = .ok (.ireturn, 1) := by decide +kernel
theorem dX7_number_0 : decode cX7_number 0 = .ok (.aload_n 0, 1) := by decide +kernel
theorem dX7_number_1 : decode cX7_number 1 = .ok (.invokevirtual 118, 3) := by decide +kernel
theorem dX7_number_4 : decode cX7_number 4 = .ok (.bipush 45, 2) := by decide +kernel
theorem dX7_number_6 : decode cX7_number 6 = .ok (.if_icmp .ne 7, 3) := by decide +kernel
theorem dX7_number_9 : decode cX7_number 9 = .ok (.iconst 1, 1) := by decide +kernel
theorem dX7_number_10 : decode cX7_number 10 = .ok (.goto 4, 3) := by decide +kernel
theorem dX7_number_13 : decode cX7_number 13 = .ok (.iconst 0, 1) := by decide +kernel
theorem dX7_number_14 : decode cX7_number 14 = .ok (.istore_n 2, 1) := by decide +kernel
theorem dX7_number_15 : decode cX7_number 15 = .ok (.aload_n 0, 1) := by decide +kernel
theorem dX7_number_16 : decode cX7_number 16 = .ok (.dup, 1) := by decide +kernel
theorem dX7_number_17 : decode cX7_number 17 = .ok (.getfield 112, 3) := by decide +kernel
theorem dX7_number_20 : decode cX7_number 20 = .ok (.iload_n 2, 1) := by decide +kernel
theorem dX7_number_21 : decode cX7_number 21 = .ok (.ifCond .eq 7, 3) := by decide +kernel
theorem dX7_number_24 : decode cX7_number 24 = .ok (.iconst 1, 1) := by decide +kernel
theorem dX7_number_25 : decode cX7_number 25 = .ok (.goto 4, 3) := by decide +kernel
theorem dX7_number_28 : decode cX7_number 28 = .ok (.iconst 0, 1) := by decide +kernel
theorem dX7_number_29 : decode cX7_number 29 = .ok (.iadd, 1) := by decide +kernel
theorem dX7_number_30 : decode cX7_number 30 = .ok (.putfield 112, 3) := by decide +kernel
theorem dX7_number_33 : decode cX7_number 33 = .ok (.aload_n 0, 1) := by decide +kernel
theorem dX7_number_34 : decode cX7_number 34 = .ok (.invokevirtual 118, 3) := by decide +kernel
theorem dX7_number_37 : decode cX7_number 37 = .ok (.invokestatic 133, 3) := by decide +kernel
theorem dX7_number_40 : decode cX7_number 40 = .ok (.ifCond .ne 12, 3) := by decide +kernel
theorem dX7_number_43 : decode cX7_number 43 = .ok (.aload_n 0, 1) := by decide +kernel
theorem dX7_number_44 : decode cX7_number 44 = .ok (.aload_n 0, 1) := by decide +kernel
theorem dX7_number_45 : decode cX7_number 45 = .ok (.getfield 112, 3) := by decide +kernel
theorem dX7_number_48 : decode cX7_number 48 = .ok (.invokevirtual 151, 3) := by decide +kernel
theorem dX7_number_51 : decode cX7_number 51 = .ok (.ireturn, 1) := by decide +kernel
theorem dX7_number_52 : decode cX7_number 52 = .ok (.iconst 0, 1) := by decide +kernel
theorem dX7_number_53 : decode cX7_number 53 = .ok (.istore_n 3, 1) := by decide +kernel
theorem dX7_number_54 : decode cX7_number 54 = .ok (.iconst 0, 1) := by decide +kernel
theorem dX7_number_55 : decode cX7_number 55 = .ok (.istore 4, 2) := by decide +kernel
theorem dX7_number_57 : decode cX7_number 57 = .ok (.iload 4, 2) := by decide +kernel
theorem dX7_number_59 : decode cX7_number 59 = .ok (.bipush 6, 2) := by decide +kernel
theorem dX7_number_61 : decode cX7_number 61 = .ok (.if_icmp .ge 42, 3) := by decide +kernel
theorem dX7_number_64 : decode cX7_number 64 = .ok (.aload_n 0, 1) := by decide +kernel
theorem dX7_number_65 : decode cX7_number 65 = .ok (.invokevirtual 118, 3) := by decide +kernel
theorem dX7_number_68 : decode cX7_number 68 = .ok (.invokestatic 133, 3) := by decide +kernel
theorem dX7_number_71 : decode cX7_number 71 = .ok (.ifCond .eq 32, 3) := by decide +kernel
theorem dX7_number_74 : decode cX7_number 74 = .ok (.bipush 10, 2) := by decide +kernel
theorem dX7_number_76 : decode cX7_number 76 = .ok (.iload_n 3, 1) := by decide +kernel
theorem dX7_number_77 : decode cX7_number 77 = .ok (.imul, 1) := by decide +kernel
theorem dX7_number_78 : decode cX7_number 78 = .ok (.aload_n 0, 1) := by decide +kernel
theorem dX7_number_79 : decode cX7_number 79 = .ok (.invokevirtual 118, 3) := by decide +kernel
theorem dX7_number_82 : decode cX7_number 82 = .ok (.iadd, 1) := by decide +kernel
theorem dX7_number_83 : decode cX7_number 83 = .ok (.bipush 48, 2) := by decide +kernel
theorem dX7_number_85 : decode cX7_number 85 = .ok (.isub, 1) := by decide +kernel
theorem dX7_number_86 : decode cX7_number 86 = .ok (.istore_n 3, 1) := by decide +kernel
theorem dX7_number_87 : decode cX7_number 87 = .ok (.aload_n 0, 1) := by decide +kernel
theorem dX7_number_88 : decode cX7_number 88 = .ok (.dup, 1) := by decide +kernel
theorem dX7_number_89 : decode cX7_number 89 = .ok (.getfield 112, 3) := by decide +kernel
theorem dX7_number_92 : decode cX7_number 92 = .ok (.iconst 1, 1) := by decide +kernel
theorem dX7_number_93 : decode cX7_number 93 = .ok (.iadd, 1) := by decide +kernel
theorem dX7_number_94 : decode cX7_number 94 = .ok (.putfield 112, 3) := by decide +kernel
theorem dX7_number_97 : decode cX7_number 97 = .ok (.iinc 4 1, 3) := by decide +kernel
theorem dX7_number_100 : decode cX7_number 100 = .ok (.goto (-43), 3) := by decide +kernel
theorem dX7_number_103 : decode cX7_number 103 = .ok (.aload_n 0, 1) := by decide +kernel
theorem dX7_number_104 : decode cX7_number 104 = .ok (.invokevirtual 118, 3) := by decide +kernel
theorem dX7_number_107 : decode cX7_number 107 = .ok (.invokestatic 133, 3) := by decide +kernel
theorem dX7_number_110 : decode cX7_number 110 = .ok (.ifCond .eq 14, 3) := by decide +kernel
theorem dX7_number_113 : decode cX7_number 113 = .ok (.aload_n 0, 1) := by decide +kernel
theorem dX7_number_114 : decode cX7_number 114 = .ok (.aload_n 0, 1) := by decide +kernel
theorem dX7_number_115 : decode cX7_number 115 = .ok (.getfield 112, 3) := by decide +kernel
theorem dX7_number_118 : decode cX7_number 118 = .ok (.invokevirtual 151, 3) := by decide +kernel
theorem dX7_number_121 : decode cX7_number 121 = .ok (.goto 25, 3) := by decide +kernel
theorem dX7_number_124 : decode cX7_number 124 = .ok (.aload_n 0, 1) := by decide +kernel
theorem dX7_number_125 : decode cX7_number 125 = .ok (.iconst 1, 1) := by decide +kernel
theorem dX7_number_126 : decode cX7_number 126 = .ok (.aload_n 0, 1) := by decide +kernel
theorem dX7_number_127 : decode cX7_number 127 = .ok (.getfield 101, 3) := by decide +kernel
theorem dX7_number_130 : decode cX7_number 130 = .ok (.isub, 1) := by decide +kernel
theorem dX7_number_131 : decode cX7_number 131 = .ok (.iconst 1, 1) := by decide +kernel
theorem dX7_number_132 : decode cX7_number 132 = .ok (.iload_n 2, 1) := by decide +kernel
theorem dX7_number_133 : decode cX7_number 133 = .ok (.ifCond .eq 8, 3) := by decide +kernel
theorem dX7_number_136 : decode cX7_number 136 = .ok (.iload_n 3, 1) := by decide +kernel
theorem dX7_number_137 : decode cX7_number 137 = .ok (.ineg, 1) := by decide +kernel
theorem dX7_number_138 : decode cX7_number 138 = .ok (.goto 4, 3) := by decide +kernel
theorem dX7_number_141 : decode cX7_number 141 = .ok (.iload_n 3, 1) := by decide +kernel
theorem dX7_number_142 : decode cX7_number 142 = .ok (.iload_n 1, 1) := by decide +kernel
theorem dX7_number_143 : decode cX7_number 143 = .ok (.invokevirtual 161, 3) := by decide +kernel
theorem dX7_number_146 : decode cX7_number 146 = .ok (.ireturn, 1) := by decide +kernel
theorem dX7_lambda_0 : decode cX7_lambda 0 = .ok (.aload_n 0, 1) := by decide +kernel
theorem dX7_lambda_1 : decode cX7_lambda 1 = .ok (.getfield 178, 3) := by decide +kernel
theorem dX7_lambda_4 : decode cX7_lambda 4 = .ok (.bipush 50, 2) := by decide +kernel
theorem dX7_lambda_6 : decode cX7_lambda 6 = .ok (.if_icmp .ne 9, 3) := by decide +kernel
theorem dX7_lambda_9 : decode cX7_lambda 9 = .ok (.aload_n 0, 1) := by decide +kernel
theorem dX7_lambda_10 : decode cX7_lambda 10 = .ok (.iload_n 1, 1) := by decide +kernel
theorem dX7_lambda_11 : decode cX7_lambda 11 = .ok (.invokevirtual 151, 3) := by decide +kernel
theorem dX7_lambda_14 : decode cX7_lambda 14 = .ok (.ireturn, 1) := by decide +kernel
theorem dX7_lambda_15 : decode cX7_lambda 15 = .ok (.aload_n 0, 1) := by decide +kernel
theorem dX7_lambda_16 : decode cX7_lambda 16 = .ok (.dup, 1) := by decide +kernel
theorem dX7_lambda_17 : decode cX7_lambda 17 = .ok (.getfield 178, 3) := by decide +kernel
theorem dX7_lambda_20 : decode cX7_lambda 20 = .ok (.iconst 1, 1) := by decide +kernel
theorem dX7_lambda_21 : decode cX7_lambda 21 = .ok (.iadd, 1) := by decide +kernel
theorem dX7_lambda_22 : decode cX7_lambda 22 = .ok (.putfield 178, 3) := by decide +kernel
theorem dX7_lambda_25 : decode cX7_lambda 25 = .ok (.iconst 1, 1) := by decide +kernel
theorem dX7_lambda_26 : decode cX7_lambda 26 = .ok (.aload_n 0, 1) := by decide +kernel
theorem dX7_lambda_27 : decode cX7_lambda 27 = .ok (.getfield 101, 3) := by decide +kernel
theorem dX7_lambda_30 : decode cX7_lambda 30 = .ok (.isub, 1) := by decide +kernel
theorem dX7_lambda_31 : decode cX7_lambda 31 = .ok (.istore_n 3, 1) := by decide +kernel
theorem dX7_lambda_32 : decode cX7_lambda 32 = .ok (.aload_n 0, 1) := by decide +kernel
theorem dX7_lambda_33 : decode cX7_lambda 33 = .ok (.iload_n 3, 1) := by decide +kernel
theorem dX7_lambda_34 : decode cX7_lambda 34 = .ok (.iconst 2, 1) := by decide +kernel
theorem dX7_lambda_35 : decode cX7_lambda 35 = .ok (.iconst (-1), 1) := by decide +kernel
theorem dX7_lambda_36 : decode cX7_lambda 36 = .ok (.iload_n 2, 1) := by decide +kernel
theorem dX7_lambda_37 : decode cX7_lambda 37 = .ok (.invokevirtual 161, 3) := by decide +kernel
theorem dX7_lambda_40 : decode cX7_lambda 40 = .ok (.istore 4, 2) := by decide +kernel
theorem dX7_lambda_42 : decode cX7_lambda 42 = .ok (.aload_n 0, 1) := by decide +kernel
theorem dX7_lambda_43 : decode cX7_lambda 43 = .ok (.invokevirtual 181, 3) := by decide +kernel
theorem dX7_lambda_46 : decode cX7_lambda 46 = .ok (.istore 5, 2) := by decide +kernel
theorem dX7_lambda_48 : decode cX7_lambda 48 = .ok (.aload_n 0, 1) := by decide +kernel
theorem dX7_lambda_49 : decode cX7_lambda 49 = .ok (.invokevirtual 148, 3) := by decide +kernel
theorem dX7_lambda_52 : decode cX7_lambda 52 = .ok (.aload_n 0, 1) := by decide +kernel
theorem dX7_lambda_53 : decode cX7_lambda 53 = .ok (.getfield 122, 3) := by decide +kernel
theorem dX7_lambda_56 : decode cX7_lambda 56 = .ok (.ifCond .ne 21, 3) := by decide +kernel
theorem dX7_lambda_59 : decode cX7_lambda 59 = .ok (.aload_n 0, 1) := by decide +kernel
theorem dX7_lambda_60 : decode cX7_lambda 60 = .ok (.invokevirtual 118, 3) := by decide +kernel
theorem dX7_lambda_63 : decode cX7_lambda 63 = .ok (.bipush 46, 2) := by decide +kernel
theorem dX7_lambda_65 : decode cX7_lambda 65 = .ok (.if_icmp .eq 12, 3) := by decide +kernel
theorem dX7_lambda_68 : decode cX7_lambda 68 = .ok (.aload_n 0, 1) := by decide +kernel
theorem dX7_lambda_69 : decode cX7_lambda 69 = .ok (.aload_n 0, 1) := by decide +kernel
theorem dX7_lambda_70 : decode cX7_lambda 70 = .ok (.getfield 112, 3) := by decide +kernel
theorem dX7_lambda_73 : decode cX7_lambda 73 = .ok (.invokevirtual 151, 3) := by decide +kernel
theorem dX7_lambda_76 : decode cX7_lambda 76 = .ok (.ireturn, 1) := by decide +kernel
theorem dX7_lambda_77 : decode cX7_lambda 77 = .ok (.aload_n 0, 1) := by decide +kernel
theorem dX7_lambda_78 : decode cX7_lambda 78 = .ok (.dup, 1) := by decide +kernel
theorem dX7_lambda_79 : decode cX7_lambda 79 = .ok (.getfield 112, 3) := by decide +kernel
theorem dX7_lambda_82 : decode cX7_lambda 82 = .ok (.iconst 1, 1) := by decide +kernel
theorem dX7_lambda_83 : decode cX7_lambda 83 = .ok (.iadd, 1) := by decide +kernel
theorem dX7_lambda_84 : decode cX7_lambda 84 = .ok (.putfield 112, 3) := by decide +kernel
theorem dX7_lambda_87 : decode cX7_lambda 87 = .ok (.aload_n 0, 1) := by decide +kernel
theorem dX7_lambda_88 : decode cX7_lambda 88 = .ok (.getfield 122, 3) := by decide +kernel
theorem dX7_lambda_91 : decode cX7_lambda 91 = .ok (.ifCond .eq 5, 3) := by decide +kernel
theorem dX7_lambda_94 : decode cX7_lambda 94 = .ok (.iconst (-1), 1) := by decide +kernel
theorem dX7_lambda_95 : decode cX7_lambda 95 = .ok (.ireturn, 1) := by decide +kernel
theorem dX7_lambda_96 : decode cX7_lambda 96 = .ok (.aload_n 0, 1) := by decide +kernel
theorem dX7_lambda_97 : decode cX7_lambda 97 = .ok (.iload_n 3, 1) := by decide +kernel
theorem dX7_lambda_98 : decode cX7_lambda 98 = .ok (.iload 4, 2) := by decide +kernel
theorem dX7_lambda_100 : decode cX7_lambda 100 = .ok (.iconst 1, 1) := by decide +kernel
theorem dX7_lambda_101 : decode cX7_lambda 101 = .ok (.iload 5, 2) := by decide +kernel
theorem dX7_lambda_103 : decode cX7_lambda 103 = .ok (.invokevirtual 108, 3) := by decide +kernel
theorem dX7_lambda_106 : decode cX7_lambda 106 = .ok (.aload_n 0, 1) := by decide +kernel
theorem dX7_lambda_107 : decode cX7_lambda 107 = .ok (.iload 4, 2) := by decide +kernel
theorem dX7_lambda_109 : decode cX7_lambda 109 = .ok (.invokevirtual 184, 3) := by decide +kernel
theorem dX7_lambda_112 : decode cX7_lambda 112 = .ok (.istore 6, 2) := by decide +kernel
theorem dX7_lambda_114 : decode cX7_lambda 114 = .ok (.aload_n 0, 1) := by decide +kernel
theorem dX7_lambda_115 : decode cX7_lambda 115 = .ok (.dup, 1) := by decide +kernel
theorem dX7_lambda_116 : decode cX7_lambda 116 = .ok (.getfield 158, 3) := by decide +kernel
theorem dX7_lambda_119 : decode cX7_lambda 119 = .ok (.iconst 1, 1) := by decide +kernel
theorem dX7_lambda_120 : decode cX7_lambda 120 = .ok (.isub, 1) := by decide +kernel
theorem dX7_lambda_121 : decode cX7_lambda 121 = .ok (.putfield 158, 3) := by decide +kernel
theorem dX7_lambda_124 : decode cX7_lambda 124 = .ok (.aload_n 0, 1) := by decide +kernel
theorem dX7_lambda_125 : decode cX7_lambda 125 = .ok (.iload_n 3, 1) := by decide +kernel
theorem dX7_lambda_126 : decode cX7_lambda 126 = .ok (.iload 4, 2) := by decide +kernel
theorem dX7_lambda_128 : decode cX7_lambda 128 = .ok (.iconst 3, 1) := by decide +kernel
theorem dX7_lambda_129 : decode cX7_lambda 129 = .ok (.iload 6, 2) := by decide +kernel
theorem dX7_lambda_131 : decode cX7_lambda 131 = .ok (.invokevirtual 108, 3) := by decide +kernel
theorem dX7_lambda_134 : decode cX7_lambda 134 = .ok (.iload 4, 2) := by decide +kernel
theorem dX7_lambda_136 : decode cX7_lambda 136 = .ok (.ireturn, 1) := by decide +kernel
theorem dX7_form_0 : decode cX7_form 0 = .ok (.aload_n 0, 1) := by decide +kernel
theorem dX7_form_1 : decode cX7_form 1 = .ok (.invokevirtual 148, 3) := by decide +kernel
theorem dX7_form_4 : decode cX7_form 4 = .ok (.iconst 1, 1) := by decide +kernel
theorem dX7_form_5 : decode cX7_form 5 = .ok (.aload_n 0, 1) := by decide +kernel
theorem dX7_form_6 : decode cX7_form 6 = .ok (.getfield 101, 3) := by decide +kernel
theorem dX7_form_9 : decode cX7_form 9 = .ok (.isub, 1) := by decide +kernel
theorem dX7_form_10 : decode cX7_form 10 = .ok (.istore_n 3, 1) := by decide +kernel
theorem dX7_form_11 : decode cX7_form 11 = .ok (.aload_n 0, 1) := by decide +kernel
theorem dX7_form_12 : decode cX7_form 12 = .ok (.invokevirtual 118, 3) := by decide +kernel
theorem dX7_form_15 : decode cX7_form 15 = .ok (.istore 4, 2) := by decide +kernel
theorem dX7_form_17 : decode cX7_form 17 = .ok (.aload_n 0, 1) := by decide +kernel
theorem dX7_form_18 : decode cX7_form 18 = .ok (.ldc 187, 2) := by decide +kernel
theorem dX7_form_20 : decode cX7_form 20 = .ok (.invokevirtual 189, 3) := by decide +kernel
theorem dX7_form_23 : decode cX7_form 23 = .ok (.ifCond .eq 7, 3) := by decide +kernel
theorem dX7_form_26 : decode cX7_form 26 = .ok (.iconst 4, 1) := by decide +kernel
theorem dX7_form_27 : decode cX7_form 27 = .ok (.goto 101, 3) := by decide +kernel
theorem dX7_form_30 : decode cX7_form 30 = .ok (.aload_n 0, 1) := by decide +kernel
theorem dX7_form_31 : decode cX7_form 31 = .ok (.ldc 193, 2) := by decide +kernel
theorem dX7_form_33 : decode cX7_form 33 = .ok (.invokevirtual 189, 3) := by decide +kernel
theorem dX7_form_36 : decode cX7_form 36 = .ok (.ifCond .eq 7, 3) := by decide +kernel
theorem dX7_form_39 : decode cX7_form 39 = .ok (.iconst 5, 1) := by decide +kernel
theorem dX7_form_40 : decode cX7_form 40 = .ok (.goto 88, 3) := by decide +kernel
theorem dX7_form_43 : decode cX7_form 43 = .ok (.aload_n 0, 1) := by decide +kernel
theorem dX7_form_44 : decode cX7_form 44 = .ok (.ldc 195, 2) := by decide +kernel
theorem dX7_form_46 : decode cX7_form 46 = .ok (.invokevirtual 189, 3) := by decide +kernel
theorem dX7_form_49 : decode cX7_form 49 = .ok (.ifCond .eq 7, 3) := by decide +kernel
theorem dX7_form_52 : decode cX7_form 52 = .ok (.iconst 3, 1) := by decide +kernel
theorem dX7_form_53 : decode cX7_form 53 = .ok (.goto 75, 3) := by decide +kernel
theorem dX7_form_56 : decode cX7_form 56 = .ok (.iload 4, 2) := by decide +kernel
theorem dX7_form_58 : decode cX7_form 58 = .ok (.bipush 43, 2) := by decide +kernel
theorem dX7_form_60 : decode cX7_form 60 = .ok (.if_icmp .ne 8, 3) := by decide +kernel
theorem dX7_form_63 : decode cX7_form 63 = .ok (.bipush 6, 2) := by decide +kernel
theorem dX7_form_65 : decode cX7_form 65 = .ok (.goto 63, 3) := by decide +kernel
theorem dX7_form_68 : decode cX7_form 68 = .ok (.iload 4, 2) := by decide +kernel
theorem dX7_form_70 : decode cX7_form 70 = .ok (.bipush 45, 2) := by decide +kernel
theorem dX7_form_72 : decode cX7_form 72 = .ok (.if_icmp .ne 18, 3) := by decide +kernel
theorem dX7_form_75 : decode cX7_form 75 = .ok (.aload_n 0, 1) := by decide +kernel
theorem dX7_form_76 : decode cX7_form 76 = .ok (.invokevirtual 197, 3) := by decide +kernel
theorem dX7_form_79 : decode cX7_form 79 = .ok (.invokestatic 133, 3) := by decide +kernel
theorem dX7_form_82 : decode cX7_form 82 = .ok (.ifCond .ne 8, 3) := by decide +kernel
theorem dX7_form_85 : decode cX7_form 85 = .ok (.bipush 7, 2) := by decide +kernel
theorem dX7_form_87 : decode cX7_form 87 = .ok (.goto 41, 3) := by decide +kernel
theorem dX7_form_90 : decode cX7_form 90 = .ok (.iload 4, 2) := by decide +kernel
theorem dX7_form_92 : decode cX7_form 92 = .ok (.bipush 42, 2) := by decide +kernel
theorem dX7_form_94 : decode cX7_form 94 = .ok (.if_icmp .ne 8, 3) := by decide +kernel
theorem dX7_form_97 : decode cX7_form 97 = .ok (.bipush 8, 2) := by decide +kernel
theorem dX7_form_99 : decode cX7_form 99 = .ok (.goto 29, 3) := by decide +kernel
theorem dX7_form_102 : decode cX7_form 102 = .ok (.iload 4, 2) := by decide +kernel
theorem dX7_form_104 : decode cX7_form 104 = .ok (.bipush 61, 2) := by decide +kernel
theorem dX7_form_106 : decode cX7_form 106 = .ok (.if_icmp .ne 8, 3) := by decide +kernel
theorem dX7_form_109 : decode cX7_form 109 = .ok (.bipush 9, 2) := by decide +kernel
theorem dX7_form_111 : decode cX7_form 111 = .ok (.goto 17, 3) := by decide +kernel
theorem dX7_form_114 : decode cX7_form 114 = .ok (.iload 4, 2) := by decide +kernel
theorem dX7_form_116 : decode cX7_form 116 = .ok (.bipush 60, 2) := by decide +kernel
theorem dX7_form_118 : decode cX7_form 118 = .ok (.if_icmp .ne 8, 3) := by decide +kernel
theorem dX7_form_121 : decode cX7_form 121 = .ok (.bipush 10, 2) := by decide +kernel
theorem dX7_form_123 : decode cX7_form 123 = .ok (.goto 5, 3) := by decide +kernel
theorem dX7_form_126 : decode cX7_form 126 = .ok (.bipush 11, 2) := by decide +kernel
theorem dX7_form_128 : decode cX7_form 128 = .ok (.istore 5, 2) := by decide +kernel
theorem dX7_form_130 : decode cX7_form 130 = .ok (.iload 5, 2) := by decide +kernel
theorem dX7_form_132 : decode cX7_form 132 = .ok (.iconst 3, 1) := by decide +kernel
theorem dX7_form_133 : decode cX7_form 133 = .ok (.if_icmp .ne 18, 3) := by decide +kernel
theorem dX7_form_136 : decode cX7_form 136 = .ok (.aload_n 0, 1) := by decide +kernel
theorem dX7_form_137 : decode cX7_form 137 = .ok (.getfield 178, 3) := by decide +kernel
theorem dX7_form_140 : decode cX7_form 140 = .ok (.bipush 50, 2) := by decide +kernel
theorem dX7_form_142 : decode cX7_form 142 = .ok (.if_icmp .ne 9, 3) := by decide +kernel
theorem dX7_form_145 : decode cX7_form 145 = .ok (.aload_n 0, 1) := by decide +kernel
theorem dX7_form_146 : decode cX7_form 146 = .ok (.iload_n 1, 1) := by decide +kernel
theorem dX7_form_147 : decode cX7_form 147 = .ok (.invokevirtual 151, 3) := by decide +kernel
theorem dX7_form_150 : decode cX7_form 150 = .ok (.ireturn, 1) := by decide +kernel
theorem dX7_form_151 : decode cX7_form 151 = .ok (.aload_n 0, 1) := by decide +kernel
theorem dX7_form_152 : decode cX7_form 152 = .ok (.dup, 1) := by decide +kernel
theorem dX7_form_153 : decode cX7_form 153 = .ok (.getfield 178, 3) := by decide +kernel
theorem dX7_form_156 : decode cX7_form 156 = .ok (.iload 5, 2) := by decide +kernel
theorem dX7_form_158 : decode cX7_form 158 = .ok (.iconst 3, 1) := by decide +kernel
theorem dX7_form_159 : decode cX7_form 159 = .ok (.if_icmp .ne 7, 3) := by decide +kernel
theorem dX7_form_162 : decode cX7_form 162 = .ok (.iconst 1, 1) := by decide +kernel
theorem dX7_form_163 : decode cX7_form 163 = .ok (.goto 4, 3) := by decide +kernel
theorem dX7_form_166 : decode cX7_form 166 = .ok (.iconst 0, 1) := by decide +kernel
theorem dX7_form_167 : decode cX7_form 167 = .ok (.iadd, 1) := by decide +kernel
theorem dX7_form_168 : decode cX7_form 168 = .ok (.putfield 178, 3) := by decide +kernel
theorem dX7_form_171 : decode cX7_form 171 = .ok (.aload_n 0, 1) := by decide +kernel
theorem dX7_form_172 : decode cX7_form 172 = .ok (.dup, 1) := by decide +kernel
theorem dX7_form_173 : decode cX7_form 173 = .ok (.getfield 112, 3) := by decide +kernel
theorem dX7_form_176 : decode cX7_form 176 = .ok (.iload 5, 2) := by decide +kernel
theorem dX7_form_178 : decode cX7_form 178 = .ok (.iconst 4, 1) := by decide +kernel
theorem dX7_form_179 : decode cX7_form 179 = .ok (.if_icmp .ne 7, 3) := by decide +kernel
theorem dX7_form_182 : decode cX7_form 182 = .ok (.iconst 2, 1) := by decide +kernel
theorem dX7_form_183 : decode cX7_form 183 = .ok (.goto 31, 3) := by decide +kernel
theorem dX7_form_186 : decode cX7_form 186 = .ok (.iload 5, 2) := by decide +kernel
theorem dX7_form_188 : decode cX7_form 188 = .ok (.iconst 5, 1) := by decide +kernel
theorem dX7_form_189 : decode cX7_form 189 = .ok (.if_icmp .eq 9, 3) := by decide +kernel
theorem dX7_form_192 : decode cX7_form 192 = .ok (.iload 5, 2) := by decide +kernel
theorem dX7_form_194 : decode cX7_form 194 = .ok (.iconst 3, 1) := by decide +kernel
theorem dX7_form_195 : decode cX7_form 195 = .ok (.if_icmp .ne 7, 3) := by decide +kernel
theorem dX7_form_198 : decode cX7_form 198 = .ok (.iconst 3, 1) := by decide +kernel
theorem dX7_form_199 : decode cX7_form 199 = .ok (.goto 15, 3) := by decide +kernel
theorem dX7_form_202 : decode cX7_form 202 = .ok (.iload 5, 2) := by decide +kernel
theorem dX7_form_204 : decode cX7_form 204 = .ok (.bipush 11, 2) := by decide +kernel
theorem dX7_form_206 : decode cX7_form 206 = .ok (.if_icmp .ge 7, 3) := by decide +kernel
theorem dX7_form_209 : decode cX7_form 209 = .ok (.iconst 1, 1) := by decide +kernel
theorem dX7_form_210 : decode cX7_form 210 = .ok (.goto 4, 3) := by decide +kernel
theorem dX7_form_213 : decode cX7_form 213 = .ok (.iconst 0, 1) := by decide +kernel
theorem dX7_form_214 : decode cX7_form 214 = .ok (.iadd, 1) := by decide +kernel
theorem dX7_form_215 : decode cX7_form 215 = .ok (.putfield 112, 3) := by decide +kernel
theorem dX7_form_218 : decode cX7_form 218 = .ok (.aload_n 0, 1) := by decide +kernel
theorem dX7_form_219 : decode cX7_form 219 = .ok (.iload_n 3, 1) := by decide +kernel
theorem dX7_form_220 : decode cX7_form 220 = .ok (.iload 5, 2) := by decide +kernel
theorem dX7_form_222 : decode cX7_form 222 = .ok (.iconst (-1), 1) := by decide +kernel
theorem dX7_form_223 : decode cX7_form 223 = .ok (.iload_n 2, 1) := by decide +kernel
theorem dX7_form_224 : decode cX7_form 224 = .ok (.invokevirtual 161, 3) := by decide +kernel
theorem dX7_form_227 : decode cX7_form 227 = .ok (.istore 6, 2) := by decide +kernel
theorem dX7_form_229 : decode cX7_form 229 = .ok (.iload 5, 2) := by decide +kernel
theorem dX7_form_231 : decode cX7_form 231 = .ok (.iconst 3, 1) := by decide +kernel
theorem dX7_form_232 : decode cX7_form 232 = .ok (.if_icmp .ne 86, 3) := by decide +kernel
theorem dX7_form_235 : decode cX7_form 235 = .ok (.aload_n 0, 1) := by decide +kernel
theorem dX7_form_236 : decode cX7_form 236 = .ok (.invokevirtual 181, 3) := by decide +kernel
theorem dX7_form_239 : decode cX7_form 239 = .ok (.istore 7, 2) := by decide +kernel
theorem dX7_form_241 : decode cX7_form 241 = .ok (.aload_n 0, 1) := by decide +kernel
theorem dX7_form_242 : decode cX7_form 242 = .ok (.getfield 122, 3) := by decide +kernel
theorem dX7_form_245 : decode cX7_form 245 = .ok (.ifCond .eq 7, 3) := by decide +kernel
theorem dX7_form_248 : decode cX7_form 248 = .ok (.iconst 0, 1) := by decide +kernel
theorem dX7_form_249 : decode cX7_form 249 = .ok (.goto 7, 3) := by decide +kernel
theorem dX7_form_252 : decode cX7_form 252 = .ok (.aload_n 0, 1) := by decide +kernel
theorem dX7_form_253 : decode cX7_form 253 = .ok (.invokevirtual 181, 3) := by decide +kernel
theorem dX7_form_256 : decode cX7_form 256 = .ok (.istore 8, 2) := by decide +kernel
theorem dX7_form_258 : decode cX7_form 258 = .ok (.aload_n 0, 1) := by decide +kernel
theorem dX7_form_259 : decode cX7_form 259 = .ok (.getfield 122, 3) := by decide +kernel
theorem dX7_form_262 : decode cX7_form 262 = .ok (.ifCond .eq 5, 3) := by decide +kernel
theorem dX7_form_265 : decode cX7_form 265 = .ok (.iconst (-1), 1) := by decide +kernel
theorem dX7_form_266 : decode cX7_form 266 = .ok (.ireturn, 1) := by decide +kernel
theorem dX7_form_267 : decode cX7_form 267 = .ok (.aload_n 0, 1) := by decide +kernel
theorem dX7_form_268 : decode cX7_form 268 = .ok (.iload_n 3, 1) := by decide +kernel
theorem dX7_form_269 : decode cX7_form 269 = .ok (.iload 6, 2) := by decide +kernel
theorem dX7_form_271 : decode cX7_form 271 = .ok (.iconst 1, 1) := by decide +kernel
theorem dX7_form_272 : decode cX7_form 272 = .ok (.iload 8, 2) := by decide +kernel
theorem dX7_form_274 : decode cX7_form 274 = .ok (.invokevirtual 108, 3) := by decide +kernel
theorem dX7_form_277 : decode cX7_form 277 = .ok (.aload_n 0, 1) := by decide +kernel
theorem dX7_form_278 : decode cX7_form 278 = .ok (.iload_n 3, 1) := by decide +kernel
theorem dX7_form_279 : decode cX7_form 279 = .ok (.iload 6, 2) := by decide +kernel
theorem dX7_form_281 : decode cX7_form 281 = .ok (.iconst 2, 1) := by decide +kernel
theorem dX7_form_282 : decode cX7_form 282 = .ok (.iload 7, 2) := by decide +kernel
theorem dX7_form_284 : decode cX7_form 284 = .ok (.invokevirtual 108, 3) := by decide +kernel
theorem dX7_form_287 : decode cX7_form 287 = .ok (.aload_n 0, 1) := by decide +kernel
theorem dX7_form_288 : decode cX7_form 288 = .ok (.iload 6, 2) := by decide +kernel
theorem dX7_form_290 : decode cX7_form 290 = .ok (.invokevirtual 184, 3) := by decide +kernel
theorem dX7_form_293 : decode cX7_form 293 = .ok (.istore 9, 2) := by decide +kernel
theorem dX7_form_295 : decode cX7_form 295 = .ok (.aload_n 0, 1) := by decide +kernel
theorem dX7_form_296 : decode cX7_form 296 = .ok (.iload_n 3, 1) := by decide +kernel
theorem dX7_form_297 : decode cX7_form 297 = .ok (.iload 6, 2) := by decide +kernel
theorem dX7_form_299 : decode cX7_form 299 = .ok (.iconst 3, 1) := by decide +kernel
theorem dX7_form_300 : decode cX7_form 300 = .ok (.iload 9, 2) := by decide +kernel
theorem dX7_form_302 : decode cX7_form 302 = .ok (.invokevirtual 108, 3) := by decide +kernel
theorem dX7_form_305 : decode cX7_form 305 = .ok (.aload_n 0, 1) := by decide +kernel
theorem dX7_form_306 : decode cX7_form 306 = .ok (.dup, 1) := by decide +kernel
theorem dX7_form_307 : decode cX7_form 307 = .ok (.getfield 158, 3) := by decide +kernel
theorem dX7_form_310 : decode cX7_form 310 = .ok (.iconst 2, 1) := by decide +kernel
theorem dX7_form_311 : decode cX7_form 311 = .ok (.isub, 1) := by decide +kernel
theorem dX7_form_312 : decode cX7_form 312 = .ok (.putfield 158, 3) := by decide +kernel
theorem dX7_form_315 : decode cX7_form 315 = .ok (.goto 204, 3) := by decide +kernel
theorem dX7_form_318 : decode cX7_form 318 = .ok (.iload 5, 2) := by decide +kernel
theorem dX7_form_320 : decode cX7_form 320 = .ok (.iconst 5, 1) := by decide +kernel
theorem dX7_form_321 : decode cX7_form 321 = .ok (.if_icmp .ne 141, 3) := by decide +kernel
theorem dX7_form_324 : decode cX7_form 324 = .ok (.aload_n 0, 1) := by decide +kernel
theorem dX7_form_325 : decode cX7_form 325 = .ok (.invokevirtual 181, 3) := by decide +kernel
theorem dX7_form_328 : decode cX7_form 328 = .ok (.istore 7, 2) := by decide +kernel
theorem dX7_form_330 : decode cX7_form 330 = .ok (.aload_n 0, 1) := by decide +kernel
theorem dX7_form_331 : decode cX7_form 331 = .ok (.getfield 122, 3) := by decide +kernel
theorem dX7_form_334 : decode cX7_form 334 = .ok (.ifCond .eq 5, 3) := by decide +kernel
theorem dX7_form_337 : decode cX7_form 337 = .ok (.iconst (-1), 1) := by decide +kernel
theorem dX7_form_338 : decode cX7_form 338 = .ok (.ireturn, 1) := by decide +kernel
theorem dX7_form_339 : decode cX7_form 339 = .ok (.aload_n 0, 1) := by decide +kernel
theorem dX7_form_340 : decode cX7_form 340 = .ok (.iload_n 3, 1) := by decide +kernel
theorem dX7_form_341 : decode cX7_form 341 = .ok (.iload 6, 2) := by decide +kernel
theorem dX7_form_343 : decode cX7_form 343 = .ok (.iconst 1, 1) := by decide +kernel
theorem dX7_form_344 : decode cX7_form 344 = .ok (.iload 7, 2) := by decide +kernel
theorem dX7_form_346 : decode cX7_form 346 = .ok (.invokevirtual 108, 3) := by decide +kernel
theorem dX7_form_349 : decode cX7_form 349 = .ok (.aload_n 0, 1) := by decide +kernel
theorem dX7_form_350 : decode cX7_form 350 = .ok (.dup, 1) := by decide +kernel
theorem dX7_form_351 : decode cX7_form 351 = .ok (.getfield 158, 3) := by decide +kernel
theorem dX7_form_354 : decode cX7_form 354 = .ok (.iconst 1, 1) := by decide +kernel
theorem dX7_form_355 : decode cX7_form 355 = .ok (.isub, 1) := by decide +kernel
theorem dX7_form_356 : decode cX7_form 356 = .ok (.putfield 158, 3) := by decide +kernel
theorem dX7_form_359 : decode cX7_form 359 = .ok (.aload_n 0, 1) := by decide +kernel
theorem dX7_form_360 : decode cX7_form 360 = .ok (.getfield 48, 3) := by decide +kernel
theorem dX7_form_363 : decode cX7_form 363 = .ok (.aload_n 0, 1) := by decide +kernel
theorem dX7_form_364 : decode cX7_form 364 = .ok (.getfield 158, 3) := by decide +kernel
theorem dX7_form_367 : decode cX7_form 367 = .ok (.iaload, 1) := by decide +kernel
theorem dX7_form_368 : decode cX7_form 368 = .ok (.istore 8, 2) := by decide +kernel
theorem dX7_form_370 : decode cX7_form 370 = .ok (.aload_n 0, 1) := by decide +kernel
theorem dX7_form_371 : decode cX7_form 371 = .ok (.iload 6, 2) := by decide +kernel
theorem dX7_form_373 : decode cX7_form 373 = .ok (.invokevirtual 184, 3) := by decide +kernel
theorem dX7_form_376 : decode cX7_form 376 = .ok (.istore 9, 2) := by decide +kernel
theorem dX7_form_378 : decode cX7_form 378 = .ok (.aload_n 0, 1) := by decide +kernel
theorem dX7_form_379 : decode cX7_form 379 = .ok (.iload_n 3, 1) := by decide +kernel
theorem dX7_form_380 : decode cX7_form 380 = .ok (.iload 6, 2) := by decide +kernel
theorem dX7_form_382 : decode cX7_form 382 = .ok (.iconst 3, 1) := by decide +kernel
theorem dX7_form_383 : decode cX7_form 383 = .ok (.iload 9, 2) := by decide +kernel
theorem dX7_form_385 : decode cX7_form 385 = .ok (.invokevirtual 108, 3) := by decide +kernel
theorem dX7_form_388 : decode cX7_form 388 = .ok (.aload_n 0, 1) := by decide +kernel
theorem dX7_form_389 : decode cX7_form 389 = .ok (.getfield 48, 3) := by decide +kernel
theorem dX7_form_392 : decode cX7_form 392 = .ok (.aload_n 0, 1) := by decide +kernel
theorem dX7_form_393 : decode cX7_form 393 = .ok (.getfield 158, 3) := by decide +kernel
theorem dX7_form_396 : decode cX7_form 396 = .ok (.iload 8, 2) := by decide +kernel
theorem dX7_form_398 : decode cX7_form 398 = .ok (.iastore, 1) := by decide +kernel
theorem dX7_form_399 : decode cX7_form 399 = .ok (.aload_n 0, 1) := by decide +kernel
theorem dX7_form_400 : decode cX7_form 400 = .ok (.getfield 51, 3) := by decide +kernel
theorem dX7_form_403 : decode cX7_form 403 = .ok (.aload_n 0, 1) := by decide +kernel
theorem dX7_form_404 : decode cX7_form 404 = .ok (.getfield 158, 3) := by decide +kernel
theorem dX7_form_407 : decode cX7_form 407 = .ok (.iload 7, 2) := by decide +kernel
theorem dX7_form_409 : decode cX7_form 409 = .ok (.iastore, 1) := by decide +kernel
theorem dX7_form_410 : decode cX7_form 410 = .ok (.aload_n 0, 1) := by decide +kernel
theorem dX7_form_411 : decode cX7_form 411 = .ok (.dup, 1) := by decide +kernel
theorem dX7_form_412 : decode cX7_form 412 = .ok (.getfield 158, 3) := by decide +kernel
theorem dX7_form_415 : decode cX7_form 415 = .ok (.iconst 1, 1) := by decide +kernel
theorem dX7_form_416 : decode cX7_form 416 = .ok (.iadd, 1) := by decide +kernel
theorem dX7_form_417 : decode cX7_form 417 = .ok (.putfield 158, 3) := by decide +kernel
theorem dX7_form_420 : decode cX7_form 420 = .ok (.aload_n 0, 1) := by decide +kernel
theorem dX7_form_421 : decode cX7_form 421 = .ok (.getfield 122, 3) := by decide +kernel
theorem dX7_form_424 : decode cX7_form 424 = .ok (.ifCond .eq 7, 3) := by decide +kernel
theorem dX7_form_427 : decode cX7_form 427 = .ok (.iconst (-1), 1) := by decide +kernel
theorem dX7_form_428 : decode cX7_form 428 = .ok (.goto 9, 3) := by decide +kernel
theorem dX7_form_431 : decode cX7_form 431 = .ok (.aload_n 0, 1) := by decide +kernel
theorem dX7_form_432 : decode cX7_form 432 = .ok (.iload 6, 2) := by decide +kernel
theorem dX7_form_434 : decode cX7_form 434 = .ok (.invokevirtual 184, 3) := by decide +kernel
theorem dX7_form_437 : decode cX7_form 437 = .ok (.istore 10, 2) := by decide +kernel
theorem dX7_form_439 : decode cX7_form 439 = .ok (.aload_n 0, 1) := by decide +kernel
theorem dX7_form_440 : decode cX7_form 440 = .ok (.iload_n 3, 1) := by decide +kernel
theorem dX7_form_441 : decode cX7_form 441 = .ok (.iload 6, 2) := by decide +kernel
theorem dX7_form_443 : decode cX7_form 443 = .ok (.iconst 4, 1) := by decide +kernel
theorem dX7_form_444 : decode cX7_form 444 = .ok (.iload 10, 2) := by decide +kernel
theorem dX7_form_446 : decode cX7_form 446 = .ok (.invokevirtual 108, 3) := by decide +kernel
theorem dX7_form_449 : decode cX7_form 449 = .ok (.aload_n 0, 1) := by decide +kernel
theorem dX7_form_450 : decode cX7_form 450 = .ok (.dup, 1) := by decide +kernel
theorem dX7_form_451 : decode cX7_form 451 = .ok (.getfield 158, 3) := by decide +kernel
theorem dX7_form_454 : decode cX7_form 454 = .ok (.iconst 1, 1) := by decide +kernel
theorem dX7_form_455 : decode cX7_form 455 = .ok (.isub, 1) := by decide +kernel
theorem dX7_form_456 : decode cX7_form 456 = .ok (.putfield 158, 3) := by decide +kernel
theorem dX7_form_459 : decode cX7_form 459 = .ok (.goto 60, 3) := by decide +kernel
theorem dX7_form_462 : decode cX7_form 462 = .ok (.iload 5, 2) := by decide +kernel
theorem dX7_form_464 : decode cX7_form 464 = .ok (.iconst 4, 1) := by decide +kernel
theorem dX7_form_465 : decode cX7_form 465 = .ok (.if_icmp .ne 7, 3) := by decide +kernel
theorem dX7_form_468 : decode cX7_form 468 = .ok (.iconst 3, 1) := by decide +kernel
theorem dX7_form_469 : decode cX7_form 469 = .ok (.goto 4, 3) := by decide +kernel
theorem dX7_form_472 : decode cX7_form 472 = .ok (.iconst 2, 1) := by decide +kernel
theorem dX7_form_473 : decode cX7_form 473 = .ok (.istore 7, 2) := by decide +kernel
theorem dX7_form_475 : decode cX7_form 475 = .ok (.iconst 0, 1) := by decide +kernel
theorem dX7_form_476 : decode cX7_form 476 = .ok (.istore 8, 2) := by decide +kernel
theorem dX7_form_478 : decode cX7_form 478 = .ok (.iload 8, 2) := by decide +kernel
theorem dX7_form_480 : decode cX7_form 480 = .ok (.iload 7, 2) := by decide +kernel
theorem dX7_form_482 : decode cX7_form 482 = .ok (.if_icmp .ge 37, 3) := by decide +kernel
theorem dX7_form_485 : decode cX7_form 485 = .ok (.aload_n 0, 1) := by decide +kernel
theorem dX7_form_486 : decode cX7_form 486 = .ok (.getfield 122, 3) := by decide +kernel
theorem dX7_form_489 : decode cX7_form 489 = .ok (.ifCond .ne 30, 3) := by decide +kernel
theorem dX7_form_492 : decode cX7_form 492 = .ok (.aload_n 0, 1) := by decide +kernel
theorem dX7_form_493 : decode cX7_form 493 = .ok (.iload 6, 2) := by decide +kernel
theorem dX7_form_495 : decode cX7_form 495 = .ok (.invokevirtual 184, 3) := by decide +kernel
theorem dX7_form_498 : decode cX7_form 498 = .ok (.istore 9, 2) := by decide +kernel
theorem dX7_form_500 : decode cX7_form 500 = .ok (.aload_n 0, 1) := by decide +kernel
theorem dX7_form_501 : decode cX7_form 501 = .ok (.iload_n 3, 1) := by decide +kernel
theorem dX7_form_502 : decode cX7_form 502 = .ok (.iload 6, 2) := by decide +kernel
theorem dX7_form_504 : decode cX7_form 504 = .ok (.iconst 3, 1) := by decide +kernel
theorem dX7_form_505 : decode cX7_form 505 = .ok (.iload 8, 2) := by decide +kernel
theorem dX7_form_507 : decode cX7_form 507 = .ok (.iadd, 1) := by decide +kernel
theorem dX7_form_508 : decode cX7_form 508 = .ok (.iload 9, 2) := by decide +kernel
theorem dX7_form_510 : decode cX7_form 510 = .ok (.invokevirtual 108, 3) := by decide +kernel
theorem dX7_form_513 : decode cX7_form 513 = .ok (.iinc 8 1, 3) := by decide +kernel
theorem dX7_form_516 : decode cX7_form 516 = .ok (.goto (-38), 3) := by decide +kernel
theorem dX7_form_519 : decode cX7_form 519 = .ok (.aload_n 0, 1) := by decide +kernel
theorem dX7_form_520 : decode cX7_form 520 = .ok (.invokevirtual 148, 3) := by decide +kernel
theorem dX7_form_523 : decode cX7_form 523 = .ok (.aload_n 0, 1) := by decide +kernel
theorem dX7_form_524 : decode cX7_form 524 = .ok (.getfield 122, 3) := by decide +kernel
theorem dX7_form_527 : decode cX7_form 527 = .ok (.ifCond .ne 21, 3) := by decide +kernel
theorem dX7_form_530 : decode cX7_form 530 = .ok (.aload_n 0, 1) := by decide +kernel
theorem dX7_form_531 : decode cX7_form 531 = .ok (.invokevirtual 118, 3) := by decide +kernel
theorem dX7_form_534 : decode cX7_form 534 = .ok (.bipush 41, 2) := by decide +kernel
theorem dX7_form_536 : decode cX7_form 536 = .ok (.if_icmp .eq 12, 3) := by decide +kernel
theorem dX7_form_539 : decode cX7_form 539 = .ok (.aload_n 0, 1) := by decide +kernel
theorem dX7_form_540 : decode cX7_form 540 = .ok (.aload_n 0, 1) := by decide +kernel
theorem dX7_form_541 : decode cX7_form 541 = .ok (.getfield 112, 3) := by decide +kernel
theorem dX7_form_544 : decode cX7_form 544 = .ok (.invokevirtual 151, 3) := by decide +kernel
theorem dX7_form_547 : decode cX7_form 547 = .ok (.ireturn, 1) := by decide +kernel
theorem dX7_form_548 : decode cX7_form 548 = .ok (.aload_n 0, 1) := by decide +kernel
theorem dX7_form_549 : decode cX7_form 549 = .ok (.dup, 1) := by decide +kernel
theorem dX7_form_550 : decode cX7_form 550 = .ok (.getfield 112, 3) := by decide +kernel
theorem dX7_form_553 : decode cX7_form 553 = .ok (.iconst 1, 1) := by decide +kernel
theorem dX7_form_554 : decode cX7_form 554 = .ok (.iadd, 1) := by decide +kernel
theorem dX7_form_555 : decode cX7_form 555 = .ok (.putfield 112, 3) := by decide +kernel
theorem dX7_form_558 : decode cX7_form 558 = .ok (.iload 6, 2) := by decide +kernel
theorem dX7_form_560 : decode cX7_form 560 = .ok (.ireturn, 1) := by decide +kernel
theorem dX7_read_0 : decode cX7_read 0 = .ok (.aload_n 0, 1) := by decide +kernel
theorem dX7_read_1 : decode cX7_read 1 = .ok (.iconst 0, 1) := by decide +kernel
theorem dX7_read_2 : decode cX7_read 2 = .ok (.putfield 97, 3) := by decide +kernel
theorem dX7_read_5 : decode cX7_read 5 = .ok (.iconst 1, 1) := by decide +kernel
theorem dX7_read_6 : decode cX7_read 6 = .ok (.aload_n 0, 1) := by decide +kernel
theorem dX7_read_7 : decode cX7_read 7 = .ok (.getfield 101, 3) := by decide +kernel
theorem dX7_read_10 : decode cX7_read 10 = .ok (.isub, 1) := by decide +kernel
theorem dX7_read_11 : decode cX7_read 11 = .ok (.istore_n 1, 1) := by decide +kernel
theorem dX7_read_12 : decode cX7_read 12 = .ok (.aload_n 0, 1) := by decide +kernel
theorem dX7_read_13 : decode cX7_read 13 = .ok (.getfield 13, 3) := by decide +kernel
theorem dX7_read_16 : decode cX7_read 16 = .ok (.iload_n 1, 1) := by decide +kernel
theorem dX7_read_17 : decode cX7_read 17 = .ok (.iconst 0, 1) := by decide +kernel
theorem dX7_read_18 : decode cX7_read 18 = .ok (.iastore, 1) := by decide +kernel
theorem dX7_read_19 : decode cX7_read 19 = .ok (.aload_n 0, 1) := by decide +kernel
theorem dX7_read_20 : decode cX7_read 20 = .ok (.getfield 17, 3) := by decide +kernel
theorem dX7_read_23 : decode cX7_read 23 = .ok (.iload_n 1, 1) := by decide +kernel
theorem dX7_read_24 : decode cX7_read 24 = .ok (.iconst 0, 1) := by decide +kernel
theorem dX7_read_25 : decode cX7_read 25 = .ok (.iastore, 1) := by decide +kernel
theorem dX7_read_26 : decode cX7_read 26 = .ok (.aload_n 0, 1) := by decide +kernel
theorem dX7_read_27 : decode cX7_read 27 = .ok (.iconst 0, 1) := by decide +kernel
theorem dX7_read_28 : decode cX7_read 28 = .ok (.putfield 112, 3) := by decide +kernel
theorem dX7_read_31 : decode cX7_read 31 = .ok (.aload_n 0, 1) := by decide +kernel
theorem dX7_read_32 : decode cX7_read 32 = .ok (.iconst 0, 1) := by decide +kernel
theorem dX7_read_33 : decode cX7_read 33 = .ok (.putfield 122, 3) := by decide +kernel
theorem dX7_read_36 : decode cX7_read 36 = .ok (.aload_n 0, 1) := by decide +kernel
theorem dX7_read_37 : decode cX7_read 37 = .ok (.iconst 0, 1) := by decide +kernel
theorem dX7_read_38 : decode cX7_read 38 = .ok (.putfield 168, 3) := by decide +kernel
theorem dX7_read_41 : decode cX7_read 41 = .ok (.aload_n 0, 1) := by decide +kernel
theorem dX7_read_42 : decode cX7_read 42 = .ok (.iconst 0, 1) := by decide +kernel
theorem dX7_read_43 : decode cX7_read 43 = .ok (.putfield 178, 3) := by decide +kernel
theorem dX7_read_46 : decode cX7_read 46 = .ok (.aload_n 0, 1) := by decide +kernel
theorem dX7_read_47 : decode cX7_read 47 = .ok (.iconst 0, 1) := by decide +kernel
theorem dX7_read_48 : decode cX7_read 48 = .ok (.putfield 158, 3) := by decide +kernel
theorem dX7_read_51 : decode cX7_read 51 = .ok (.aload_n 0, 1) := by decide +kernel
theorem dX7_read_52 : decode cX7_read 52 = .ok (.iconst (-1), 1) := by decide +kernel
theorem dX7_read_53 : decode cX7_read 53 = .ok (.invokevirtual 184, 3) := by decide +kernel
theorem dX7_read_56 : decode cX7_read 56 = .ok (.istore_n 2, 1) := by decide +kernel
theorem dX7_read_57 : decode cX7_read 57 = .ok (.aload_n 0, 1) := by decide +kernel
theorem dX7_read_58 : decode cX7_read 58 = .ok (.invokevirtual 148, 3) := by decide +kernel
theorem dX7_read_61 : decode cX7_read 61 = .ok (.aload_n 0, 1) := by decide +kernel
theorem dX7_read_62 : decode cX7_read 62 = .ok (.getfield 122, 3) := by decide +kernel
theorem dX7_read_65 : decode cX7_read 65 = .ok (.ifCond .ne 23, 3) := by decide +kernel
theorem dX7_read_68 : decode cX7_read 68 = .ok (.aload_n 0, 1) := by decide +kernel
theorem dX7_read_69 : decode cX7_read 69 = .ok (.getfield 112, 3) := by decide +kernel
theorem dX7_read_72 : decode cX7_read 72 = .ok (.aload_n 0, 1) := by decide +kernel
theorem dX7_read_73 : decode cX7_read 73 = .ok (.getfield 115, 3) := by decide +kernel
theorem dX7_read_76 : decode cX7_read 76 = .ok (.if_icmp .ge 12, 3) := by decide +kernel
theorem dX7_read_79 : decode cX7_read 79 = .ok (.aload_n 0, 1) := by decide +kernel
theorem dX7_read_80 : decode cX7_read 80 = .ok (.aload_n 0, 1) := by decide +kernel
theorem dX7_read_81 : decode cX7_read 81 = .ok (.getfield 112, 3) := by decide +kernel
theorem dX7_read_84 : decode cX7_read 84 = .ok (.invokevirtual 151, 3) := by decide +kernel
theorem dX7_read_87 : decode cX7_read 87 = .ok (.istore_n 3, 1) := by decide +kernel
theorem dX7_read_88 : decode cX7_read 88 = .ok (.aload_n 0, 1) := by decide +kernel
theorem dX7_read_89 : decode cX7_read 89 = .ok (.getfield 122, 3) := by decide +kernel
theorem dX7_read_92 : decode cX7_read 92 = .ok (.ifCond .eq 8, 3) := by decide +kernel
theorem dX7_read_95 : decode cX7_read 95 = .ok (.aload_n 0, 1) := by decide +kernel
theorem dX7_read_96 : decode cX7_read 96 = .ok (.getfield 126, 3) := by decide +kernel
theorem dX7_read_99 : decode cX7_read 99 = .ok (.ireturn, 1) := by decide +kernel
theorem dX7_read_100 : decode cX7_read 100 = .ok (.aload_n 0, 1) := by decide +kernel
theorem dX7_read_101 : decode cX7_read 101 = .ok (.invokevirtual 200, 3) := by decide +kernel
theorem dX7_read_104 : decode cX7_read 104 = .ok (.iconst (-1), 1) := by decide +kernel
theorem dX7_read_105 : decode cX7_read 105 = .ok (.ireturn, 1) := by decide +kernel
theorem dX7_change_0 : decode cX7_change 0 = .ok (.aload_n 0, 1) := by decide +kernel
theorem dX7_change_1 : decode cX7_change 1 = .ok (.iconst 1, 1) := by decide +kernel
theorem dX7_change_2 : decode cX7_change 2 = .ok (.aload_n 0, 1) := by decide +kernel
theorem dX7_change_3 : decode cX7_change 3 = .ok (.getfield 101, 3) := by decide +kernel
theorem dX7_change_6 : decode cX7_change 6 = .ok (.isub, 1) := by decide +kernel
theorem dX7_change_7 : decode cX7_change 7 = .ok (.putfield 101, 3) := by decide +kernel
theorem dX7_change_10 : decode cX7_change 10 = .ok (.aload_n 0, 1) := by decide +kernel
theorem dX7_change_11 : decode cX7_change 11 = .ok (.iconst 1, 1) := by decide +kernel
theorem dX7_change_12 : decode cX7_change 12 = .ok (.putfield 203, 3) := by decide +kernel
theorem dX7_change_15 : decode cX7_change 15 = .ok (.aload_n 0, 1) := by decide +kernel
theorem dX7_change_16 : decode cX7_change 16 = .ok (.iconst 0, 1) := by decide +kernel
theorem dX7_change_17 : decode cX7_change 17 = .ok (.putfield 206, 3) := by decide +kernel
theorem dX7_change_20 : decode cX7_change 20 = .ok (.aload_n 0, 1) := by decide +kernel
theorem dX7_change_21 : decode cX7_change 21 = .ok (.iconst 0, 1) := by decide +kernel
theorem dX7_change_22 : decode cX7_change 22 = .ok (.putfield 209, 3) := by decide +kernel
theorem dX7_change_25 : decode cX7_change 25 = .ok (.aload_n 0, 1) := by decide +kernel
theorem dX7_change_26 : decode cX7_change 26 = .ok (.lconst 0, 1) := by decide +kernel
theorem dX7_change_27 : decode cX7_change 27 = .ok (.putfield 212, 3) := by decide +kernel
theorem dX7_change_30 : decode cX7_change 30 = .ok (.aload_n 0, 1) := by decide +kernel
theorem dX7_change_31 : decode cX7_change 31 = .ok (.iconst 0, 1) := by decide +kernel
theorem dX7_change_32 : decode cX7_change 32 = .ok (.putfield 216, 3) := by decide +kernel
theorem dX7_change_35 : decode cX7_change 35 = .ok (.iconst 0, 1) := by decide +kernel
theorem dX7_change_36 : decode cX7_change 36 = .ok (.istore_n 1, 1) := by decide +kernel
theorem dX7_change_37 : decode cX7_change 37 = .ok (.iload_n 1, 1) := by decide +kernel
theorem dX7_change_38 : decode cX7_change 38 = .ok (.bipush 100, 2) := by decide +kernel
theorem dX7_change_40 : decode cX7_change 40 = .ok (.if_icmp .ge 16, 3) := by decide +kernel
theorem dX7_change_43 : decode cX7_change 43 = .ok (.aload_n 0, 1) := by decide +kernel
theorem dX7_change_44 : decode cX7_change 44 = .ok (.getfield 32, 3) := by decide +kernel
theorem dX7_change_47 : decode cX7_change 47 = .ok (.iload_n 1, 1) := by decide +kernel
theorem dX7_change_48 : decode cX7_change 48 = .ok (.iconst 0, 1) := by decide +kernel
theorem dX7_change_49 : decode cX7_change 49 = .ok (.iastore, 1) := by decide +kernel
theorem dX7_change_50 : decode cX7_change 50 = .ok (.iinc 1 1, 3) := by decide +kernel
theorem dX7_change_53 : decode cX7_change 53 = .ok (.goto (-16), 3) := by decide +kernel
theorem dX7_change_56 : decode cX7_change 56 = .ok (.iconst 0, 1) := by decide +kernel
theorem dX7_change_57 : decode cX7_change 57 = .ok (.istore_n 1, 1) := by decide +kernel
theorem dX7_change_58 : decode cX7_change 58 = .ok (.iload_n 1, 1) := by decide +kernel
theorem dX7_change_59 : decode cX7_change 59 = .ok (.aload_n 0, 1) := by decide +kernel
theorem dX7_change_60 : decode cX7_change 60 = .ok (.getfield 13, 3) := by decide +kernel
theorem dX7_change_63 : decode cX7_change 63 = .ok (.aload_n 0, 1) := by decide +kernel
theorem dX7_change_64 : decode cX7_change 64 = .ok (.getfield 101, 3) := by decide +kernel
theorem dX7_change_67 : decode cX7_change 67 = .ok (.iaload, 1) := by decide +kernel
theorem dX7_change_68 : decode cX7_change 68 = .ok (.if_icmp .ge 146, 3) := by decide +kernel
theorem dX7_change_71 : decode cX7_change 71 = .ok (.aload_n 0, 1) := by decide +kernel
theorem dX7_change_72 : decode cX7_change 72 = .ok (.iload_n 1, 1) := by decide +kernel
theorem dX7_change_73 : decode cX7_change 73 = .ok (.iconst 0, 1) := by decide +kernel
theorem dX7_change_74 : decode cX7_change 74 = .ok (.invokevirtual 219, 3) := by decide +kernel
theorem dX7_change_77 : decode cX7_change 77 = .ok (.istore_n 2, 1) := by decide +kernel
theorem dX7_change_78 : decode cX7_change 78 = .ok (.iload_n 2, 1) := by decide +kernel
theorem dX7_change_79 : decode cX7_change 79 = .ok (.iconst 2, 1) := by decide +kernel
theorem dX7_change_80 : decode cX7_change 80 = .ok (.if_icmp .eq 8, 3) := by decide +kernel
theorem dX7_change_83 : decode cX7_change 83 = .ok (.iload_n 2, 1) := by decide +kernel
theorem dX7_change_84 : decode cX7_change 84 = .ok (.iconst 3, 1) := by decide +kernel
theorem dX7_change_85 : decode cX7_change 85 = .ok (.if_icmp .ne 7, 3) := by decide +kernel
theorem dX7_change_88 : decode cX7_change 88 = .ok (.iconst 1, 1) := by decide +kernel
theorem dX7_change_89 : decode cX7_change 89 = .ok (.goto 4, 3) := by decide +kernel
theorem dX7_change_92 : decode cX7_change 92 = .ok (.iconst 0, 1) := by decide +kernel
theorem dX7_change_93 : decode cX7_change 93 = .ok (.istore_n 3, 1) := by decide +kernel
theorem dX7_change_94 : decode cX7_change 94 = .ok (.aload_n 0, 1) := by decide +kernel
theorem dX7_change_95 : decode cX7_change 95 = .ok (.getfield 23, 3) := by decide +kernel
theorem dX7_change_98 : decode cX7_change 98 = .ok (.iload_n 1, 1) := by decide +kernel
theorem dX7_change_99 : decode cX7_change 99 = .ok (.iload_n 3, 1) := by decide +kernel
theorem dX7_change_100 : decode cX7_change 100 = .ok (.ifCond .eq 10, 3) := by decide +kernel
theorem dX7_change_103 : decode cX7_change 103 = .ok (.aload_n 0, 1) := by decide +kernel
theorem dX7_change_104 : decode cX7_change 104 = .ok (.getfield 216, 3) := by decide +kernel
theorem dX7_change_107 : decode cX7_change 107 = .ok (.goto 4, 3) := by decide +kernel
theorem dX7_change_110 : decode cX7_change 110 = .ok (.iconst (-1), 1) := by decide +kernel
theorem dX7_change_111 : decode cX7_change 111 = .ok (.iastore, 1) := by decide +kernel
theorem dX7_change_112 : decode cX7_change 112 = .ok (.iload_n 3, 1) := by decide +kernel
theorem dX7_change_113 : decode cX7_change 113 = .ok (.ifCond .eq 23, 3) := by decide +kernel
theorem dX7_change_116 : decode cX7_change 116 = .ok (.aload_n 0, 1) := by decide +kernel
theorem dX7_change_117 : decode cX7_change 117 = .ok (.getfield 26, 3) := by decide +kernel
theorem dX7_change_120 : decode cX7_change 120 = .ok (.aload_n 0, 1) := by decide +kernel
theorem dX7_change_121 : decode cX7_change 121 = .ok (.getfield 216, 3) := by decide +kernel
theorem dX7_change_124 : decode cX7_change 124 = .ok (.iload_n 1, 1) := by decide +kernel
theorem dX7_change_125 : decode cX7_change 125 = .ok (.iastore, 1) := by decide +kernel
theorem dX7_change_126 : decode cX7_change 126 = .ok (.aload_n 0, 1) := by decide +kernel
theorem dX7_change_127 : decode cX7_change 127 = .ok (.dup, 1) := by decide +kernel
theorem dX7_change_128 : decode cX7_change 128 = .ok (.getfield 216, 3) := by decide +kernel
theorem dX7_change_131 : decode cX7_change 131 = .ok (.iconst 1, 1) := by decide +kernel
theorem dX7_change_132 : decode cX7_change 132 = .ok (.iadd, 1) := by decide +kernel
theorem dX7_change_133 : decode cX7_change 133 = .ok (.putfield 216, 3) := by decide +kernel
theorem dX7_change_136 : decode cX7_change 136 = .ok (.iload_n 2, 1) := by decide +kernel
theorem dX7_change_137 : decode cX7_change 137 = .ok (.ifCond .ne 18, 3) := by decide +kernel
theorem dX7_change_140 : decode cX7_change 140 = .ok (.aload_n 0, 1) := by decide +kernel
theorem dX7_change_141 : decode cX7_change 141 = .ok (.getfield 32, 3) := by decide +kernel
theorem dX7_change_144 : decode cX7_change 144 = .ok (.aload_n 0, 1) := by decide +kernel
theorem dX7_change_145 : decode cX7_change 145 = .ok (.iload_n 1, 1) := by decide +kernel
theorem dX7_change_146 : decode cX7_change 146 = .ok (.iconst 1, 1) := by decide +kernel
theorem dX7_change_147 : decode cX7_change 147 = .ok (.invokevirtual 219, 3) := by decide +kernel
theorem dX7_change_150 : decode cX7_change 150 = .ok (.dup2, 1) := by decide +kernel
theorem dX7_change_151 : decode cX7_change 151 = .ok (.iaload, 1) := by decide +kernel
theorem dX7_change_152 : decode cX7_change 152 = .ok (.iconst 1, 1) := by decide +kernel
theorem dX7_change_153 : decode cX7_change 153 = .ok (.iadd, 1) := by decide +kernel
theorem dX7_change_154 : decode cX7_change 154 = .ok (.iastore, 1) := by decide +kernel
theorem dX7_change_155 : decode cX7_change 155 = .ok (.aload_n 0, 1) := by decide +kernel
theorem dX7_change_156 : decode cX7_change 156 = .ok (.iload_n 1, 1) := by decide +kernel
theorem dX7_change_157 : decode cX7_change 157 = .ok (.bipush 6, 2) := by decide +kernel
theorem dX7_change_159 : decode cX7_change 159 = .ok (.invokevirtual 219, 3) := by decide +kernel
theorem dX7_change_162 : decode cX7_change 162 = .ok (.istore 4, 2) := by decide +kernel
theorem dX7_change_164 : decode cX7_change 164 = .ok (.aload_n 0, 1) := by decide +kernel
theorem dX7_change_165 : decode cX7_change 165 = .ok (.getfield 29, 3) := by decide +kernel
theorem dX7_change_168 : decode cX7_change 168 = .ok (.iload_n 1, 1) := by decide +kernel
theorem dX7_change_169 : decode cX7_change 169 = .ok (.iload 4, 2) := by decide +kernel
theorem dX7_change_171 : decode cX7_change 171 = .ok (.iconst (-1), 1) := by decide +kernel
theorem dX7_change_172 : decode cX7_change 172 = .ok (.if_icmp .ne 7, 3) := by decide +kernel
theorem dX7_change_175 : decode cX7_change 175 = .ok (.iconst (-1), 1) := by decide +kernel
theorem dX7_change_176 : decode cX7_change 176 = .ok (.goto 31, 3) := by decide +kernel
theorem dX7_change_179 : decode cX7_change 179 = .ok (.aload_n 0, 1) := by decide +kernel
theorem dX7_change_180 : decode cX7_change 180 = .ok (.getfield 23, 3) := by decide +kernel
theorem dX7_change_183 : decode cX7_change 183 = .ok (.iload 4, 2) := by decide +kernel
theorem dX7_change_185 : decode cX7_change 185 = .ok (.iaload, 1) := by decide +kernel
theorem dX7_change_186 : decode cX7_change 186 = .ok (.iconst (-1), 1) := by decide +kernel
theorem dX7_change_187 : decode cX7_change 187 = .ok (.if_icmp .eq 13, 3) := by decide +kernel
theorem dX7_change_190 : decode cX7_change 190 = .ok (.aload_n 0, 1) := by decide +kernel
theorem dX7_change_191 : decode cX7_change 191 = .ok (.getfield 23, 3) := by decide +kernel
theorem dX7_change_194 : decode cX7_change 194 = .ok (.iload 4, 2) := by decide +kernel
theorem dX7_change_196 : decode cX7_change 196 = .ok (.iaload, 1) := by decide +kernel
theorem dX7_change_197 : decode cX7_change 197 = .ok (.goto 10, 3) := by decide +kernel
theorem dX7_change_200 : decode cX7_change 200 = .ok (.aload_n 0, 1) := by decide +kernel
theorem dX7_change_201 : decode cX7_change 201 = .ok (.getfield 29, 3) := by decide +kernel
theorem dX7_change_204 : decode cX7_change 204 = .ok (.iload 4, 2) := by decide +kernel
theorem dX7_change_206 : decode cX7_change 206 = .ok (.iaload, 1) := by decide +kernel
theorem dX7_change_207 : decode cX7_change 207 = .ok (.iastore, 1) := by decide +kernel
theorem dX7_change_208 : decode cX7_change 208 = .ok (.iinc 1 1, 3) := by decide +kernel
theorem dX7_change_211 : decode cX7_change 211 = .ok (.goto (-153), 3) := by decide +kernel
theorem dX7_change_214 : decode cX7_change 214 = .ok (.aload_n 0, 1) := by decide +kernel
theorem dX7_change_215 : decode cX7_change 215 = .ok (.invokevirtual 222, 3) := by decide +kernel
theorem dX7_change_218 : decode cX7_change 218 = .ok (.return_, 1) := by decide +kernel
theorem dX7_joinExpr_0 : decode cX7_joinExpr 0 = .ok (.aload_n 0, 1) := by decide +kernel
theorem dX7_joinExpr_1 : decode cX7_joinExpr 1 = .ok (.getfield 35, 3) := by decide +kernel
theorem dX7_joinExpr_4 : decode cX7_joinExpr 4 = .ok (.iload_n 1, 1) := by decide +kernel
theorem dX7_joinExpr_5 : decode cX7_joinExpr 5 = .ok (.laload, 1) := by decide +kernel
theorem dX7_joinExpr_6 : decode cX7_joinExpr 6 = .ok (.lload_n 2, 1) := by decide +kernel
theorem dX7_joinExpr_7 : decode cX7_joinExpr 7 = .ok (.lor, 1) := by decide +kernel
theorem dX7_joinExpr_8 : decode cX7_joinExpr 8 = .ok (.aload_n 0, 1) := by decide +kernel
theorem dX7_joinExpr_9 : decode cX7_joinExpr 9 = .ok (.getfield 35, 3) := by decide +kernel
theorem dX7_joinExpr_12 : decode cX7_joinExpr 12 = .ok (.iload_n 1, 1) := by decide +kernel
theorem dX7_joinExpr_13 : decode cX7_joinExpr 13 = .ok (.laload, 1) := by decide +kernel
theorem dX7_joinExpr_14 : decode cX7_joinExpr 14 = .ok (.lcmp, 1) := by decide +kernel
theorem dX7_joinExpr_15 : decode cX7_joinExpr 15 = .ok (.ifCond .eq 18, 3) := by decide +kernel
theorem dX7_joinExpr_18 : decode cX7_joinExpr 18 = .ok (.aload_n 0, 1) := by decide +kernel
theorem dX7_joinExpr_19 : decode cX7_joinExpr 19 = .ok (.getfield 35, 3) := by decide +kernel
theorem dX7_joinExpr_22 : decode cX7_joinExpr 22 = .ok (.iload_n 1, 1) := by decide +kernel
theorem dX7_joinExpr_23 : decode cX7_joinExpr 23 = .ok (.dup2, 1) := by decide +kernel
theorem dX7_joinExpr_24 : decode cX7_joinExpr 24 = .ok (.laload, 1) := by decide +kernel
theorem dX7_joinExpr_25 : decode cX7_joinExpr 25 = .ok (.lload_n 2, 1) := by decide +kernel
theorem dX7_joinExpr_26 : decode cX7_joinExpr 26 = .ok (.lor, 1) := by decide +kernel
theorem dX7_joinExpr_27 : decode cX7_joinExpr 27 = .ok (.lastore, 1) := by decide +kernel
theorem dX7_joinExpr_28 : decode cX7_joinExpr 28 = .ok (.aload_n 0, 1) := by decide +kernel
theorem dX7_joinExpr_29 : decode cX7_joinExpr 29 = .ok (.iconst 1, 1) := by decide +kernel
theorem dX7_joinExpr_30 : decode cX7_joinExpr 30 = .ok (.putfield 225, 3) := by decide +kernel
theorem dX7_joinExpr_33 : decode cX7_joinExpr 33 = .ok (.return_, 1) := by decide +kernel
theorem dX7_joinVariable_0 : decode cX7_joinVariable 0 = .ok (.aload_n 0, 1) := by decide +kernel
theorem dX7_joinVariable_1 : decode cX7_joinVariable 1 = .ok (.getfield 39, 3) := by decide +kernel
theorem dX7_joinVariable_4 : decode cX7_joinVariable 4 = .ok (.iload_n 1, 1) := by decide +kernel
theorem dX7_joinVariable_5 : decode cX7_joinVariable 5 = .ok (.laload, 1) := by decide +kernel
theorem dX7_joinVariable_6 : decode cX7_joinVariable 6 = .ok (.lload_n 2, 1) := by decide +kernel
theorem dX7_joinVariable_7 : decode cX7_joinVariable 7 = .ok (.lor, 1) := by decide +kernel
theorem dX7_joinVariable_8 : decode cX7_joinVariable 8 = .ok (.aload_n 0, 1) := by decide +kernel
theorem dX7_joinVariable_9 : decode cX7_joinVariable 9 = .ok (.getfield 39, 3) := by decide +kernel
theorem dX7_joinVariable_12 : decode cX7_joinVariable 12 = .ok (.iload_n 1, 1) := by decide +kernel
theorem dX7_joinVariable_13 : decode cX7_joinVariable 13 = .ok (.laload, 1) := by decide +kernel
theorem dX7_joinVariable_14 : decode cX7_joinVariable 14 = .ok (.lcmp, 1) := by decide +kernel
theorem dX7_joinVariable_15 : decode cX7_joinVariable 15 = .ok (.ifCond .eq 18, 3) := by decide +kernel
theorem dX7_joinVariable_18 : decode cX7_joinVariable 18 = .ok (.aload_n 0, 1) := by decide +kernel
theorem dX7_joinVariable_19 : decode cX7_joinVariable 19 = .ok (.getfield 39, 3) := by decide +kernel
theorem dX7_joinVariable_22 : decode cX7_joinVariable 22 = .ok (.iload_n 1, 1) := by decide +kernel
theorem dX7_joinVariable_23 : decode cX7_joinVariable 23 = .ok (.dup2, 1) := by decide +kernel
theorem dX7_joinVariable_24 : decode cX7_joinVariable 24 = .ok (.laload, 1) := by decide +kernel
theorem dX7_joinVariable_25 : decode cX7_joinVariable 25 = .ok (.lload_n 2, 1) := by decide +kernel
theorem dX7_joinVariable_26 : decode cX7_joinVariable 26 = .ok (.lor, 1) := by decide +kernel
theorem dX7_joinVariable_27 : decode cX7_joinVariable 27 = .ok (.lastore, 1) := by decide +kernel
theorem dX7_joinVariable_28 : decode cX7_joinVariable 28 = .ok (.aload_n 0, 1) := by decide +kernel
theorem dX7_joinVariable_29 : decode cX7_joinVariable 29 = .ok (.iconst 1, 1) := by decide +kernel
theorem dX7_joinVariable_30 : decode cX7_joinVariable 30 = .ok (.putfield 225, 3) := by decide +kernel
theorem dX7_joinVariable_33 : decode cX7_joinVariable 33 = .ok (.return_, 1) := by decide +kernel
theorem dX7_findFlows_0 : decode cX7_findFlows 0 = .ok (.iconst 0, 1) := by decide +kernel
