theorem dX7_goOn_130 : decode cX7_goOn 130 = .ok (.aload_n 0, 1) := by decide +kernel
theorem dX7_goOn_131 : decode cX7_goOn 131 = .ok (.getfield 64, 3) := by decide +kernel
theorem dX7_goOn_134 : decode cX7_goOn 134 = .ok (.iload_n 1, 1) := by decide +kernel
theorem dX7_goOn_135 : decode cX7_goOn 135 = .ok (.iaload, 1) := by decide +kernel
theorem dX7_goOn_136 : decode cX7_goOn 136 = .ok (.iconst 1, 1) := by decide +kernel
theorem dX7_goOn_137 : decode cX7_goOn 137 = .ok (.if_icmp .ne 54, 3) := by decide +kernel
theorem dX7_goOn_140 : decode cX7_goOn 140 = .ok (.aload_n 0, 1) := by decide +kernel
theorem dX7_goOn_141 : decode cX7_goOn 141 = .ok (.getfield 67, 3) := by decide +kernel
theorem dX7_goOn_144 : decode cX7_goOn 144 = .ok (.iload_n 1, 1) := by decide +kernel
theorem dX7_goOn_145 : decode cX7_goOn 145 = .ok (.aload_n 0, 1) := by decide +kernel
theorem dX7_goOn_146 : decode cX7_goOn 146 = .ok (.getfield 271, 3) := by decide +kernel
theorem dX7_goOn_149 : decode cX7_goOn 149 = .ok (.iastore, 1) := by decide +kernel
theorem dX7_goOn_150 : decode cX7_goOn 150 = .ok (.aload_n 0, 1) := by decide +kernel
theorem dX7_goOn_151 : decode cX7_goOn 151 = .ok (.getfield 70, 3) := by decide +kernel
theorem dX7_goOn_154 : decode cX7_goOn 154 = .ok (.iload_n 1, 1) := by decide +kernel
theorem dX7_goOn_155 : decode cX7_goOn 155 = .ok (.aload_n 0, 1) := by decide +kernel
theorem dX7_goOn_156 : decode cX7_goOn 156 = .ok (.getfield 274, 3) := by decide +kernel
theorem dX7_goOn_159 : decode cX7_goOn 159 = .ok (.lastore, 1) := by decide +kernel
theorem dX7_goOn_160 : decode cX7_goOn 160 = .ok (.aload_n 0, 1) := by decide +kernel
theorem dX7_goOn_161 : decode cX7_goOn 161 = .ok (.getfield 73, 3) := by decide +kernel
theorem dX7_goOn_164 : decode cX7_goOn 164 = .ok (.iload_n 1, 1) := by decide +kernel
theorem dX7_goOn_165 : decode cX7_goOn 165 = .ok (.aload_n 0, 1) := by decide +kernel
theorem dX7_goOn_166 : decode cX7_goOn 166 = .ok (.getfield 277, 3) := by decide +kernel
theorem dX7_goOn_169 : decode cX7_goOn 169 = .ok (.iastore, 1) := by decide +kernel
theorem dX7_goOn_170 : decode cX7_goOn 170 = .ok (.aload_n 0, 1) := by decide +kernel
theorem dX7_goOn_171 : decode cX7_goOn 171 = .ok (.getfield 64, 3) := by decide +kernel
theorem dX7_goOn_174 : decode cX7_goOn 174 = .ok (.iload_n 1, 1) := by decide +kernel
theorem dX7_goOn_175 : decode cX7_goOn 175 = .ok (.iconst 2, 1) := by decide +kernel
theorem dX7_goOn_176 : decode cX7_goOn 176 = .ok (.iastore, 1) := by decide +kernel
theorem dX7_goOn_177 : decode cX7_goOn 177 = .ok (.aload_n 0, 1) := by decide +kernel
theorem dX7_goOn_178 : decode cX7_goOn 178 = .ok (.aload_n 0, 1) := by decide +kernel
theorem dX7_goOn_179 : decode cX7_goOn 179 = .ok (.iload_n 2, 1) := by decide +kernel
theorem dX7_goOn_180 : decode cX7_goOn 180 = .ok (.iconst 4, 1) := by decide +kernel
theorem dX7_goOn_181 : decode cX7_goOn 181 = .ok (.invokevirtual 219, 3) := by decide +kernel
theorem dX7_goOn_184 : decode cX7_goOn 184 = .ok (.iload_n 3, 1) := by decide +kernel
theorem dX7_goOn_185 : decode cX7_goOn 185 = .ok (.invokevirtual 286, 3) := by decide +kernel
theorem dX7_goOn_188 : decode cX7_goOn 188 = .ok (.goto 27, 3) := by decide +kernel
theorem dX7_goOn_191 : decode cX7_goOn 191 = .ok (.iload 4, 2) := by decide +kernel
theorem dX7_goOn_193 : decode cX7_goOn 193 = .ok (.bipush 11, 2) := by decide +kernel
theorem dX7_goOn_195 : decode cX7_goOn 195 = .ok (.if_icmp .ne 12, 3) := by decide +kernel
theorem dX7_goOn_198 : decode cX7_goOn 198 = .ok (.aload_n 0, 1) := by decide +kernel
theorem dX7_goOn_199 : decode cX7_goOn 199 = .ok (.iload_n 2, 1) := by decide +kernel
theorem dX7_goOn_200 : decode cX7_goOn 200 = .ok (.iload_n 1, 1) := by decide +kernel
theorem dX7_goOn_201 : decode cX7_goOn 201 = .ok (.invokevirtual 302, 3) := by decide +kernel
theorem dX7_goOn_204 : decode cX7_goOn 204 = .ok (.goto 11, 3) := by decide +kernel
theorem dX7_goOn_207 : decode cX7_goOn 207 = .ok (.aload_n 0, 1) := by decide +kernel
theorem dX7_goOn_208 : decode cX7_goOn 208 = .ok (.iload_n 2, 1) := by decide +kernel
theorem dX7_goOn_209 : decode cX7_goOn 209 = .ok (.iload 4, 2) := by decide +kernel
theorem dX7_goOn_211 : decode cX7_goOn 211 = .ok (.iload_n 1, 1) := by decide +kernel
theorem dX7_goOn_212 : decode cX7_goOn 212 = .ok (.invokevirtual 305, 3) := by decide +kernel
theorem dX7_goOn_215 : decode cX7_goOn 215 = .ok (.return_, 1) := by decide +kernel
theorem dX7_stuck_0 : decode cX7_stuck 0 = .ok (.aload_n 0, 1) := by decide +kernel
theorem dX7_stuck_1 : decode cX7_stuck 1 = .ok (.iconst 2, 1) := by decide +kernel
theorem dX7_stuck_2 : decode cX7_stuck 2 = .ok (.putfield 283, 3) := by decide +kernel
theorem dX7_stuck_5 : decode cX7_stuck 5 = .ok (.aload_n 0, 1) := by decide +kernel
theorem dX7_stuck_6 : decode cX7_stuck 6 = .ok (.iload_n 1, 1) := by decide +kernel
theorem dX7_stuck_7 : decode cX7_stuck 7 = .ok (.i2l, 1) := by decide +kernel
theorem dX7_stuck_8 : decode cX7_stuck 8 = .ok (.putfield 212, 3) := by decide +kernel
theorem dX7_stuck_11 : decode cX7_stuck 11 = .ok (.return_, 1) := by decide +kernel
theorem dX7_call_0 : decode cX7_call 0 = .ok (.aload_n 0, 1) := by decide +kernel
theorem dX7_call_1 : decode cX7_call 1 = .ok (.getfield 67, 3) := by decide +kernel
theorem dX7_call_4 : decode cX7_call 4 = .ok (.iload_n 2, 1) := by decide +kernel
theorem dX7_call_5 : decode cX7_call 5 = .ok (.iaload, 1) := by decide +kernel
theorem dX7_call_6 : decode cX7_call 6 = .ok (.ifCond .ne 9, 3) := by decide +kernel
theorem dX7_call_9 : decode cX7_call 9 = .ok (.aload_n 0, 1) := by decide +kernel
theorem dX7_call_10 : decode cX7_call 10 = .ok (.iload_n 1, 1) := by decide +kernel
theorem dX7_call_11 : decode cX7_call 11 = .ok (.invokevirtual 296, 3) := by decide +kernel
theorem dX7_call_14 : decode cX7_call 14 = .ok (.return_, 1) := by decide +kernel
theorem dX7_call_15 : decode cX7_call 15 = .ok (.aload_n 0, 1) := by decide +kernel
theorem dX7_call_16 : decode cX7_call 16 = .ok (.getfield 70, 3) := by decide +kernel
theorem dX7_call_19 : decode cX7_call 19 = .ok (.iload_n 2, 1) := by decide +kernel
theorem dX7_call_20 : decode cX7_call 20 = .ok (.laload, 1) := by decide +kernel
theorem dX7_call_21 : decode cX7_call 21 = .ok (.l2i, 1) := by decide +kernel
theorem dX7_call_22 : decode cX7_call 22 = .ok (.istore_n 3, 1) := by decide +kernel
theorem dX7_call_23 : decode cX7_call 23 = .ok (.aload_n 0, 1) := by decide +kernel
theorem dX7_call_24 : decode cX7_call 24 = .ok (.getfield 45, 3) := by decide +kernel
theorem dX7_call_27 : decode cX7_call 27 = .ok (.iload_n 1, 1) := by decide +kernel
theorem dX7_call_28 : decode cX7_call 28 = .ok (.dup2, 1) := by decide +kernel
theorem dX7_call_29 : decode cX7_call 29 = .ok (.laload, 1) := by decide +kernel
theorem dX7_call_30 : decode cX7_call 30 = .ok (.lconst 1, 1) := by decide +kernel
theorem dX7_call_31 : decode cX7_call 31 = .ok (.iload_n 3, 1) := by decide +kernel
theorem dX7_call_32 : decode cX7_call 32 = .ok (.lshl, 1) := by decide +kernel
theorem dX7_call_33 : decode cX7_call 33 = .ok (.lor, 1) := by decide +kernel
theorem dX7_call_34 : decode cX7_call 34 = .ok (.lastore, 1) := by decide +kernel
theorem dX7_call_35 : decode cX7_call 35 = .ok (.aload_n 0, 1) := by decide +kernel
theorem dX7_call_36 : decode cX7_call 36 = .ok (.getfield 26, 3) := by decide +kernel
theorem dX7_call_39 : decode cX7_call 39 = .ok (.iload_n 3, 1) := by decide +kernel
theorem dX7_call_40 : decode cX7_call 40 = .ok (.iaload, 1) := by decide +kernel
theorem dX7_call_41 : decode cX7_call 41 = .ok (.istore 4, 2) := by decide +kernel
theorem dX7_call_43 : decode cX7_call 43 = .ok (.aload_n 0, 1) := by decide +kernel
theorem dX7_call_44 : decode cX7_call 44 = .ok (.getfield 271, 3) := by decide +kernel
theorem dX7_call_47 : decode cX7_call 47 = .ok (.istore 5, 2) := by decide +kernel
theorem dX7_call_49 : decode cX7_call 49 = .ok (.aload_n 0, 1) := by decide +kernel
theorem dX7_call_50 : decode cX7_call 50 = .ok (.getfield 274, 3) := by decide +kernel
theorem dX7_call_53 : decode cX7_call 53 = .ok (.lstore 6, 2) := by decide +kernel
theorem dX7_call_55 : decode cX7_call 55 = .ok (.aload_n 0, 1) := by decide +kernel
theorem dX7_call_56 : decode cX7_call 56 = .ok (.getfield 277, 3) := by decide +kernel
theorem dX7_call_59 : decode cX7_call 59 = .ok (.istore 8, 2) := by decide +kernel
theorem dX7_call_61 : decode cX7_call 61 = .ok (.aload_n 0, 1) := by decide +kernel
theorem dX7_call_62 : decode cX7_call 62 = .ok (.getfield 73, 3) := by decide +kernel
theorem dX7_call_65 : decode cX7_call 65 = .ok (.iload_n 2, 1) := by decide +kernel
theorem dX7_call_66 : decode cX7_call 66 = .ok (.iaload, 1) := by decide +kernel
theorem dX7_call_67 : decode cX7_call 67 = .ok (.istore 9, 2) := by decide +kernel
theorem dX7_call_69 : decode cX7_call 69 = .ok (.aload_n 0, 1) := by decide +kernel
theorem dX7_call_70 : decode cX7_call 70 = .ok (.iload 4, 2) := by decide +kernel
theorem dX7_call_72 : decode cX7_call 72 = .ok (.iconst 0, 1) := by decide +kernel
theorem dX7_call_73 : decode cX7_call 73 = .ok (.invokevirtual 219, 3) := by decide +kernel
theorem dX7_call_76 : decode cX7_call 76 = .ok (.iconst 3, 1) := by decide +kernel
theorem dX7_call_77 : decode cX7_call 77 = .ok (.if_icmp .ne 35, 3) := by decide +kernel
theorem dX7_call_80 : decode cX7_call 80 = .ok (.aload_n 0, 1) := by decide +kernel
theorem dX7_call_81 : decode cX7_call 81 = .ok (.iconst 1, 1) := by decide +kernel
theorem dX7_call_82 : decode cX7_call 82 = .ok (.putfield 271, 3) := by decide +kernel
theorem dX7_call_85 : decode cX7_call 85 = .ok (.aload_n 0, 1) := by decide +kernel
theorem dX7_call_86 : decode cX7_call 86 = .ok (.iload_n 3, 1) := by decide +kernel
theorem dX7_call_87 : decode cX7_call 87 = .ok (.i2l, 1) := by decide +kernel
theorem dX7_call_88 : decode cX7_call 88 = .ok (.putfield 274, 3) := by decide +kernel
theorem dX7_call_91 : decode cX7_call 91 = .ok (.aload_n 0, 1) := by decide +kernel
theorem dX7_call_92 : decode cX7_call 92 = .ok (.iload 9, 2) := by decide +kernel
theorem dX7_call_94 : decode cX7_call 94 = .ok (.putfield 277, 3) := by decide +kernel
theorem dX7_call_97 : decode cX7_call 97 = .ok (.aload_n 0, 1) := by decide +kernel
theorem dX7_call_98 : decode cX7_call 98 = .ok (.aload_n 0, 1) := by decide +kernel
theorem dX7_call_99 : decode cX7_call 99 = .ok (.iload 4, 2) := by decide +kernel
theorem dX7_call_101 : decode cX7_call 101 = .ok (.iconst 2, 1) := by decide +kernel
theorem dX7_call_102 : decode cX7_call 102 = .ok (.invokevirtual 219, 3) := by decide +kernel
theorem dX7_call_105 : decode cX7_call 105 = .ok (.iload 9, 2) := by decide +kernel
theorem dX7_call_107 : decode cX7_call 107 = .ok (.invokevirtual 299, 3) := by decide +kernel
theorem dX7_call_110 : decode cX7_call 110 = .ok (.istore 9, 2) := by decide +kernel
theorem dX7_call_112 : decode cX7_call 112 = .ok (.aload_n 0, 1) := by decide +kernel
theorem dX7_call_113 : decode cX7_call 113 = .ok (.iload 5, 2) := by decide +kernel
theorem dX7_call_115 : decode cX7_call 115 = .ok (.putfield 271, 3) := by decide +kernel
theorem dX7_call_118 : decode cX7_call 118 = .ok (.aload_n 0, 1) := by decide +kernel
theorem dX7_call_119 : decode cX7_call 119 = .ok (.lload 6, 2) := by decide +kernel
theorem dX7_call_121 : decode cX7_call 121 = .ok (.putfield 274, 3) := by decide +kernel
theorem dX7_call_124 : decode cX7_call 124 = .ok (.aload_n 0, 1) := by decide +kernel
theorem dX7_call_125 : decode cX7_call 125 = .ok (.iload 8, 2) := by decide +kernel
theorem dX7_call_127 : decode cX7_call 127 = .ok (.putfield 277, 3) := by decide +kernel
theorem dX7_call_130 : decode cX7_call 130 = .ok (.aload_n 0, 1) := by decide +kernel
theorem dX7_call_131 : decode cX7_call 131 = .ok (.aload_n 0, 1) := by decide +kernel
theorem dX7_call_132 : decode cX7_call 132 = .ok (.iload 4, 2) := by decide +kernel
theorem dX7_call_134 : decode cX7_call 134 = .ok (.iconst 1, 1) := by decide +kernel
theorem dX7_call_135 : decode cX7_call 135 = .ok (.invokevirtual 219, 3) := by decide +kernel
theorem dX7_call_138 : decode cX7_call 138 = .ok (.iload 9, 2) := by decide +kernel
theorem dX7_call_140 : decode cX7_call 140 = .ok (.invokevirtual 299, 3) := by decide +kernel
theorem dX7_call_143 : decode cX7_call 143 = .ok (.istore 9, 2) := by decide +kernel
theorem dX7_call_145 : decode cX7_call 145 = .ok (.aload_n 0, 1) := by decide +kernel
theorem dX7_call_146 : decode cX7_call 146 = .ok (.dup, 1) := by decide +kernel
theorem dX7_call_147 : decode cX7_call 147 = .ok (.getfield 280, 3) := by decide +kernel
theorem dX7_call_150 : decode cX7_call 150 = .ok (.iconst 1, 1) := by decide +kernel
theorem dX7_call_151 : decode cX7_call 151 = .ok (.isub, 1) := by decide +kernel
theorem dX7_call_152 : decode cX7_call 152 = .ok (.putfield 280, 3) := by decide +kernel
theorem dX7_call_155 : decode cX7_call 155 = .ok (.aload_n 0, 1) := by decide +kernel
theorem dX7_call_156 : decode cX7_call 156 = .ok (.aload_n 0, 1) := by decide +kernel
theorem dX7_call_157 : decode cX7_call 157 = .ok (.iload 4, 2) := by decide +kernel
theorem dX7_call_159 : decode cX7_call 159 = .ok (.iconst 3, 1) := by decide +kernel
theorem dX7_call_160 : decode cX7_call 160 = .ok (.invokevirtual 219, 3) := by decide +kernel
theorem dX7_call_163 : decode cX7_call 163 = .ok (.iload 9, 2) := by decide +kernel
theorem dX7_call_165 : decode cX7_call 165 = .ok (.invokevirtual 286, 3) := by decide +kernel
theorem dX7_call_168 : decode cX7_call 168 = .ok (.return_, 1) := by decide +kernel
theorem dX7_reckon_0 : decode cX7_reckon 0 = .ok (.aload_n 0, 1) := by decide +kernel
theorem dX7_reckon_1 : decode cX7_reckon 1 = .ok (.getfield 271, 3) := by decide +kernel
theorem dX7_reckon_4 : decode cX7_reckon 4 = .ok (.iconst 1, 1) := by decide +kernel
theorem dX7_reckon_5 : decode cX7_reckon 5 = .ok (.if_icmp .eq 13, 3) := by decide +kernel
theorem dX7_reckon_8 : decode cX7_reckon 8 = .ok (.aload_n 0, 1) := by decide +kernel
theorem dX7_reckon_9 : decode cX7_reckon 9 = .ok (.getfield 67, 3) := by decide +kernel
theorem dX7_reckon_12 : decode cX7_reckon 12 = .ok (.iload_n 3, 1) := by decide +kernel
theorem dX7_reckon_13 : decode cX7_reckon 13 = .ok (.iaload, 1) := by decide +kernel
theorem dX7_reckon_14 : decode cX7_reckon 14 = .ok (.iconst 1, 1) := by decide +kernel
theorem dX7_reckon_15 : decode cX7_reckon 15 = .ok (.if_icmp .ne 9, 3) := by decide +kernel
theorem dX7_reckon_18 : decode cX7_reckon 18 = .ok (.aload_n 0, 1) := by decide +kernel
theorem dX7_reckon_19 : decode cX7_reckon 19 = .ok (.iload_n 1, 1) := by decide +kernel
theorem dX7_reckon_20 : decode cX7_reckon 20 = .ok (.invokevirtual 296, 3) := by decide +kernel
theorem dX7_reckon_23 : decode cX7_reckon 23 = .ok (.return_, 1) := by decide +kernel
theorem dX7_reckon_24 : decode cX7_reckon 24 = .ok (.aload_n 0, 1) := by decide +kernel
theorem dX7_reckon_25 : decode cX7_reckon 25 = .ok (.getfield 70, 3) := by decide +kernel
theorem dX7_reckon_28 : decode cX7_reckon 28 = .ok (.iload_n 3, 1) := by decide +kernel
theorem dX7_reckon_29 : decode cX7_reckon 29 = .ok (.laload, 1) := by decide +kernel
theorem dX7_reckon_30 : decode cX7_reckon 30 = .ok (.lstore 4, 2) := by decide +kernel
theorem dX7_reckon_32 : decode cX7_reckon 32 = .ok (.aload_n 0, 1) := by decide +kernel
theorem dX7_reckon_33 : decode cX7_reckon 33 = .ok (.iload_n 2, 1) := by decide +kernel
theorem dX7_reckon_34 : decode cX7_reckon 34 = .ok (.bipush 6, 2) := by decide +kernel
theorem dX7_reckon_36 : decode cX7_reckon 36 = .ok (.if_icmp .ne 13, 3) := by decide +kernel
theorem dX7_reckon_39 : decode cX7_reckon 39 = .ok (.lload 4, 2) := by decide +kernel
theorem dX7_reckon_41 : decode cX7_reckon 41 = .ok (.aload_n 0, 1) := by decide +kernel
theorem dX7_reckon_42 : decode cX7_reckon 42 = .ok (.getfield 274, 3) := by decide +kernel
theorem dX7_reckon_45 : decode cX7_reckon 45 = .ok (.ladd, 1) := by decide +kernel
theorem dX7_reckon_46 : decode cX7_reckon 46 = .ok (.goto 74, 3) := by decide +kernel
theorem dX7_reckon_49 : decode cX7_reckon 49 = .ok (.iload_n 2, 1) := by decide +kernel
theorem dX7_reckon_50 : decode cX7_reckon 50 = .ok (.bipush 7, 2) := by decide +kernel
theorem dX7_reckon_52 : decode cX7_reckon 52 = .ok (.if_icmp .ne 13, 3) := by decide +kernel
theorem dX7_reckon_55 : decode cX7_reckon 55 = .ok (.lload 4, 2) := by decide +kernel
theorem dX7_reckon_57 : decode cX7_reckon 57 = .ok (.aload_n 0, 1) := by decide +kernel
theorem dX7_reckon_58 : decode cX7_reckon 58 = .ok (.getfield 274, 3) := by decide +kernel
theorem dX7_reckon_61 : decode cX7_reckon 61 = .ok (.lsub, 1) := by decide +kernel
theorem dX7_reckon_62 : decode cX7_reckon 62 = .ok (.goto 58, 3) := by decide +kernel
theorem dX7_reckon_65 : decode cX7_reckon 65 = .ok (.iload_n 2, 1) := by decide +kernel
theorem dX7_reckon_66 : decode cX7_reckon 66 = .ok (.bipush 8, 2) := by decide +kernel
theorem dX7_reckon_68 : decode cX7_reckon 68 = .ok (.if_icmp .ne 13, 3) := by decide +kernel
theorem dX7_reckon_71 : decode cX7_reckon 71 = .ok (.lload 4, 2) := by decide +kernel
theorem dX7_reckon_73 : decode cX7_reckon 73 = .ok (.aload_n 0, 1) := by decide +kernel
theorem dX7_reckon_74 : decode cX7_reckon 74 = .ok (.getfield 274, 3) := by decide +kernel
theorem dX7_reckon_77 : decode cX7_reckon 77 = .ok (.lmul, 1) := by decide +kernel
theorem dX7_reckon_78 : decode cX7_reckon 78 = .ok (.goto 42, 3) := by decide +kernel
theorem dX7_reckon_81 : decode cX7_reckon 81 = .ok (.iload_n 2, 1) := by decide +kernel
theorem dX7_reckon_82 : decode cX7_reckon 82 = .ok (.bipush 9, 2) := by decide +kernel
theorem dX7_reckon_84 : decode cX7_reckon 84 = .ok (.if_icmp .ne 21, 3) := by decide +kernel
theorem dX7_reckon_87 : decode cX7_reckon 87 = .ok (.lload 4, 2) := by decide +kernel
theorem dX7_reckon_89 : decode cX7_reckon 89 = .ok (.aload_n 0, 1) := by decide +kernel
theorem dX7_reckon_90 : decode cX7_reckon 90 = .ok (.getfield 274, 3) := by decide +kernel
theorem dX7_reckon_93 : decode cX7_reckon 93 = .ok (.lcmp, 1) := by decide +kernel
theorem dX7_reckon_94 : decode cX7_reckon 94 = .ok (.ifCond .ne 7, 3) := by decide +kernel
theorem dX7_reckon_97 : decode cX7_reckon 97 = .ok (.lconst 1, 1) := by decide +kernel
theorem dX7_reckon_98 : decode cX7_reckon 98 = .ok (.goto 22, 3) := by decide +kernel
theorem dX7_reckon_101 : decode cX7_reckon 101 = .ok (.lconst 0, 1) := by decide +kernel
theorem dX7_reckon_102 : decode cX7_reckon 102 = .ok (.goto 18, 3) := by decide +kernel
theorem dX7_reckon_105 : decode cX7_reckon 105 = .ok (.lload 4, 2) := by decide +kernel
theorem dX7_reckon_107 : decode cX7_reckon 107 = .ok (.aload_n 0, 1) := by decide +kernel
theorem dX7_reckon_108 : decode cX7_reckon 108 = .ok (.getfield 274, 3) := by decide +kernel
theorem dX7_reckon_111 : decode cX7_reckon 111 = .ok (.lcmp, 1) := by decide +kernel
theorem dX7_reckon_112 : decode cX7_reckon 112 = .ok (.ifCond .ge 7, 3) := by decide +kernel
theorem dX7_reckon_115 : decode cX7_reckon 115 = .ok (.lconst 1, 1) := by decide +kernel
theorem dX7_reckon_116 : decode cX7_reckon 116 = .ok (.goto 4, 3) := by decide +kernel
theorem dX7_reckon_119 : decode cX7_reckon 119 = .ok (.lconst 0, 1) := by decide +kernel
theorem dX7_reckon_120 : decode cX7_reckon 120 = .ok (.putfield 274, 3) := by decide +kernel
theorem dX7_reckon_123 : decode cX7_reckon 123 = .ok (.aload_n 0, 1) := by decide +kernel
theorem dX7_reckon_124 : decode cX7_reckon 124 = .ok (.iconst 0, 1) := by decide +kernel
theorem dX7_reckon_125 : decode cX7_reckon 125 = .ok (.putfield 271, 3) := by decide +kernel
theorem dX7_reckon_128 : decode cX7_reckon 128 = .ok (.aload_n 0, 1) := by decide +kernel
theorem dX7_reckon_129 : decode cX7_reckon 129 = .ok (.dup, 1) := by decide +kernel
theorem dX7_reckon_130 : decode cX7_reckon 130 = .ok (.getfield 280, 3) := by decide +kernel
theorem dX7_reckon_133 : decode cX7_reckon 133 = .ok (.iconst 1, 1) := by decide +kernel
theorem dX7_reckon_134 : decode cX7_reckon 134 = .ok (.isub, 1) := by decide +kernel
theorem dX7_reckon_135 : decode cX7_reckon 135 = .ok (.putfield 280, 3) := by decide +kernel
theorem dX7_reckon_138 : decode cX7_reckon 138 = .ok (.return_, 1) := by decide +kernel
theorem dX7_result_0 : decode cX7_result 0 = .ok (.aload_n 0, 1) := by decide +kernel
theorem dX7_result_1 : decode cX7_result 1 = .ok (.iconst 0, 1) := by decide +kernel
theorem dX7_result_2 : decode cX7_result 2 = .ok (.putfield 97, 3) := by decide +kernel
theorem dX7_result_5 : decode cX7_result 5 = .ok (.aload_n 0, 1) := by decide +kernel
theorem dX7_result_6 : decode cX7_result 6 = .ok (.getfield 206, 3) := by decide +kernel
theorem dX7_result_9 : decode cX7_result 9 = .ok (.ifCond .eq 10, 3) := by decide +kernel
theorem dX7_result_12 : decode cX7_result 12 = .ok (.aload_n 0, 1) := by decide +kernel
theorem dX7_result_13 : decode cX7_result 13 = .ok (.getfield 212, 3) := by decide +kernel
theorem dX7_result_16 : decode cX7_result 16 = .ok (.goto 4, 3) := by decide +kernel
theorem dX7_result_19 : decode cX7_result 19 = .ok (.lconst 0, 1) := by decide +kernel
theorem dX7_result_20 : decode cX7_result 20 = .ok (.lreturn, 1) := by decide +kernel
theorem dX7_used_0 : decode cX7_used 0 = .ok (.aload_n 0, 1) := by decide +kernel
theorem dX7_used_1 : decode cX7_used 1 = .ok (.iconst 0, 1) := by decide +kernel
theorem dX7_used_2 : decode cX7_used 2 = .ok (.putfield 97, 3) := by decide +kernel
theorem dX7_used_5 : decode cX7_used 5 = .ok (.aload_n 0, 1) := by decide +kernel
theorem dX7_used_6 : decode cX7_used 6 = .ok (.getfield 206, 3) := by decide +kernel
theorem dX7_used_9 : decode cX7_used 9 = .ok (.ifCond .eq 20, 3) := by decide +kernel
theorem dX7_used_12 : decode cX7_used 12 = .ok (.aload_n 0, 1) := by decide +kernel
theorem dX7_used_13 : decode cX7_used 13 = .ok (.iload_n 1, 1) := by decide +kernel
theorem dX7_used_14 : decode cX7_used 14 = .ok (.invokevirtual 262, 3) := by decide +kernel
theorem dX7_used_17 : decode cX7_used 17 = .ok (.ifCond .eq 12, 3) := by decide +kernel
theorem dX7_used_20 : decode cX7_used 20 = .ok (.aload_n 0, 1) := by decide +kernel
theorem dX7_used_21 : decode cX7_used 21 = .ok (.getfield 45, 3) := by decide +kernel
theorem dX7_used_24 : decode cX7_used 24 = .ok (.iload_n 1, 1) := by decide +kernel
theorem dX7_used_25 : decode cX7_used 25 = .ok (.laload, 1) := by decide +kernel
theorem dX7_used_26 : decode cX7_used 26 = .ok (.goto 4, 3) := by decide +kernel
theorem dX7_used_29 : decode cX7_used 29 = .ok (.lconst 0, 1) := by decide +kernel
theorem dX7_used_30 : decode cX7_used 30 = .ok (.lreturn, 1) := by decide +kernel
theorem dX7_copy_0 : decode cX7_copy 0 = .ok (.aload_n 0, 1) := by decide +kernel
theorem dX7_copy_1 : decode cX7_copy 1 = .ok (.getfield 309, 3) := by decide +kernel
theorem dX7_copy_4 : decode cX7_copy 4 = .ok (.ifCond .eq 5, 3) := by decide +kernel
theorem dX7_copy_7 : decode cX7_copy 7 = .ok (.iconst (-1), 1) := by decide +kernel
theorem dX7_copy_8 : decode cX7_copy 8 = .ok (.ireturn, 1) := by decide +kernel
theorem dX7_copy_9 : decode cX7_copy 9 = .ok (.iload_n 1, 1) := by decide +kernel
theorem dX7_copy_10 : decode cX7_copy 10 = .ok (.iload_n 3, 1) := by decide +kernel
theorem dX7_copy_11 : decode cX7_copy 11 = .ok (.if_icmp .ne 35, 3) := by decide +kernel
theorem dX7_copy_14 : decode cX7_copy 14 = .ok (.aload_n 0, 1) := by decide +kernel
theorem dX7_copy_15 : decode cX7_copy 15 = .ok (.iload_n 1, 1) := by decide +kernel
theorem dX7_copy_16 : decode cX7_copy 16 = .ok (.iconst 0, 1) := by decide +kernel
theorem dX7_copy_17 : decode cX7_copy 17 = .ok (.invokevirtual 219, 3) := by decide +kernel
theorem dX7_copy_20 : decode cX7_copy 20 = .ok (.iconst 5, 1) := by decide +kernel
theorem dX7_copy_21 : decode cX7_copy 21 = .ok (.if_icmp .ne 18, 3) := by decide +kernel
theorem dX7_copy_24 : decode cX7_copy 24 = .ok (.aload_n 0, 1) := by decide +kernel
theorem dX7_copy_25 : decode cX7_copy 25 = .ok (.aload_n 0, 1) := by decide +kernel
theorem dX7_copy_26 : decode cX7_copy 26 = .ok (.iload_n 1, 1) := by decide +kernel
theorem dX7_copy_27 : decode cX7_copy 27 = .ok (.iconst 4, 1) := by decide +kernel
theorem dX7_copy_28 : decode cX7_copy 28 = .ok (.invokevirtual 219, 3) := by decide +kernel
theorem dX7_copy_31 : decode cX7_copy 31 = .ok (.iload_n 2, 1) := by decide +kernel
theorem dX7_copy_32 : decode cX7_copy 32 = .ok (.iconst (-1), 1) := by decide +kernel
theorem dX7_copy_33 : decode cX7_copy 33 = .ok (.invokevirtual 312, 3) := by decide +kernel
theorem dX7_copy_36 : decode cX7_copy 36 = .ok (.goto 9, 3) := by decide +kernel
theorem dX7_copy_39 : decode cX7_copy 39 = .ok (.aload_n 0, 1) := by decide +kernel
theorem dX7_copy_40 : decode cX7_copy 40 = .ok (.iload_n 1, 1) := by decide +kernel
theorem dX7_copy_41 : decode cX7_copy 41 = .ok (.iload_n 2, 1) := by decide +kernel
theorem dX7_copy_42 : decode cX7_copy 42 = .ok (.invokevirtual 315, 3) := by decide +kernel
theorem dX7_copy_45 : decode cX7_copy 45 = .ok (.ireturn, 1) := by decide +kernel
theorem dX7_copy_46 : decode cX7_copy 46 = .ok (.iconst 1, 1) := by decide +kernel
theorem dX7_copy_47 : decode cX7_copy 47 = .ok (.aload_n 0, 1) := by decide +kernel
theorem dX7_copy_48 : decode cX7_copy 48 = .ok (.getfield 101, 3) := by decide +kernel
theorem dX7_copy_51 : decode cX7_copy 51 = .ok (.isub, 1) := by decide +kernel
theorem dX7_copy_52 : decode cX7_copy 52 = .ok (.istore 4, 2) := by decide +kernel
theorem dX7_copy_54 : decode cX7_copy 54 = .ok (.aload_n 0, 1) := by decide +kernel
theorem dX7_copy_55 : decode cX7_copy 55 = .ok (.iload_n 1, 1) := by decide +kernel
theorem dX7_copy_56 : decode cX7_copy 56 = .ok (.iconst 0, 1) := by decide +kernel
theorem dX7_copy_57 : decode cX7_copy 57 = .ok (.invokevirtual 219, 3) := by decide +kernel
theorem dX7_copy_60 : decode cX7_copy 60 = .ok (.istore 5, 2) := by decide +kernel
theorem dX7_copy_62 : decode cX7_copy 62 = .ok (.iload 5, 2) := by decide +kernel
theorem dX7_copy_64 : decode cX7_copy 64 = .ok (.iconst 2, 1) := by decide +kernel
theorem dX7_copy_65 : decode cX7_copy 65 = .ok (.if_icmp .eq 9, 3) := by decide +kernel
theorem dX7_copy_68 : decode cX7_copy 68 = .ok (.iload 5, 2) := by decide +kernel
theorem dX7_copy_70 : decode cX7_copy 70 = .ok (.iconst 3, 1) := by decide +kernel
theorem dX7_copy_71 : decode cX7_copy 71 = .ok (.if_icmp .ne 7, 3) := by decide +kernel
theorem dX7_copy_74 : decode cX7_copy 74 = .ok (.iconst 1, 1) := by decide +kernel
theorem dX7_copy_75 : decode cX7_copy 75 = .ok (.goto 4, 3) := by decide +kernel
theorem dX7_copy_78 : decode cX7_copy 78 = .ok (.iconst 0, 1) := by decide +kernel
theorem dX7_copy_79 : decode cX7_copy 79 = .ok (.istore 6, 2) := by decide +kernel
theorem dX7_copy_81 : decode cX7_copy 81 = .ok (.aload_n 0, 1) := by decide +kernel
theorem dX7_copy_82 : decode cX7_copy 82 = .ok (.dup, 1) := by decide +kernel
theorem dX7_copy_83 : decode cX7_copy 83 = .ok (.getfield 317, 3) := by decide +kernel
theorem dX7_copy_86 : decode cX7_copy 86 = .ok (.iload 6, 2) := by decide +kernel
theorem dX7_copy_88 : decode cX7_copy 88 = .ok (.ifCond .eq 7, 3) := by decide +kernel
theorem dX7_copy_91 : decode cX7_copy 91 = .ok (.iconst 1, 1) := by decide +kernel
theorem dX7_copy_92 : decode cX7_copy 92 = .ok (.goto 4, 3) := by decide +kernel
theorem dX7_copy_95 : decode cX7_copy 95 = .ok (.iconst 0, 1) := by decide +kernel
theorem dX7_copy_96 : decode cX7_copy 96 = .ok (.iadd, 1) := by decide +kernel
theorem dX7_copy_97 : decode cX7_copy 97 = .ok (.putfield 317, 3) := by decide +kernel
theorem dX7_copy_100 : decode cX7_copy 100 = .ok (.aload_n 0, 1) := by decide +kernel
theorem dX7_copy_101 : decode cX7_copy 101 = .ok (.aload_n 0, 1) := by decide +kernel
theorem dX7_copy_102 : decode cX7_copy 102 = .ok (.getfield 309, 3) := by decide +kernel
theorem dX7_copy_105 : decode cX7_copy 105 = .ok (.ifCond .ne 25, 3) := by decide +kernel
theorem dX7_copy_108 : decode cX7_copy 108 = .ok (.aload_n 0, 1) := by decide +kernel
theorem dX7_copy_109 : decode cX7_copy 109 = .ok (.getfield 13, 3) := by decide +kernel
theorem dX7_copy_112 : decode cX7_copy 112 = .ok (.iload 4, 2) := by decide +kernel
theorem dX7_copy_114 : decode cX7_copy 114 = .ok (.iaload, 1) := by decide +kernel
theorem dX7_copy_115 : decode cX7_copy 115 = .ok (.sipush 200, 3) := by decide +kernel
theorem dX7_copy_118 : decode cX7_copy 118 = .ok (.if_icmp .eq 12, 3) := by decide +kernel
theorem dX7_copy_121 : decode cX7_copy 121 = .ok (.aload_n 0, 1) := by decide +kernel
theorem dX7_copy_122 : decode cX7_copy 122 = .ok (.getfield 317, 3) := by decide +kernel
theorem dX7_copy_125 : decode cX7_copy 125 = .ok (.bipush 50, 2) := by decide +kernel
theorem dX7_copy_127 : decode cX7_copy 127 = .ok (.if_icmp .le 7, 3) := by decide +kernel
theorem dX7_copy_130 : decode cX7_copy 130 = .ok (.iconst 1, 1) := by decide +kernel
theorem dX7_copy_131 : decode cX7_copy 131 = .ok (.goto 4, 3) := by decide +kernel
theorem dX7_copy_134 : decode cX7_copy 134 = .ok (.iconst 0, 1) := by decide +kernel
theorem dX7_copy_135 : decode cX7_copy 135 = .ok (.putfield 309, 3) := by decide +kernel
theorem dX7_copy_138 : decode cX7_copy 138 = .ok (.aload_n 0, 1) := by decide +kernel
theorem dX7_copy_139 : decode cX7_copy 139 = .ok (.getfield 309, 3) := by decide +kernel
theorem dX7_copy_142 : decode cX7_copy 142 = .ok (.ifCond .eq 5, 3) := by decide +kernel
theorem dX7_copy_145 : decode cX7_copy 145 = .ok (.iconst (-1), 1) := by decide +kernel
theorem dX7_copy_146 : decode cX7_copy 146 = .ok (.ireturn, 1) := by decide +kernel
theorem dX7_copy_147 : decode cX7_copy 147 = .ok (.aload_n 0, 1) := by decide +kernel
theorem dX7_copy_148 : decode cX7_copy 148 = .ok (.iload 4, 2) := by decide +kernel
theorem dX7_copy_150 : decode cX7_copy 150 = .ok (.iload 5, 2) := by decide +kernel
theorem dX7_copy_152 : decode cX7_copy 152 = .ok (.iload 5, 2) := by decide +kernel
theorem dX7_copy_154 : decode cX7_copy 154 = .ok (.ifCond .ne 17, 3) := by decide +kernel
theorem dX7_copy_157 : decode cX7_copy 157 = .ok (.aload_n 0, 1) := by decide +kernel
theorem dX7_copy_158 : decode cX7_copy 158 = .ok (.getfield 91, 3) := by decide +kernel
theorem dX7_copy_161 : decode cX7_copy 161 = .ok (.aload_n 0, 1) := by decide +kernel
theorem dX7_copy_162 : decode cX7_copy 162 = .ok (.iload_n 1, 1) := by decide +kernel
theorem dX7_copy_163 : decode cX7_copy 163 = .ok (.iconst 1, 1) := by decide +kernel
theorem dX7_copy_164 : decode cX7_copy 164 = .ok (.invokevirtual 219, 3) := by decide +kernel
theorem dX7_copy_167 : decode cX7_copy 167 = .ok (.iaload, 1) := by decide +kernel
theorem dX7_copy_168 : decode cX7_copy 168 = .ok (.goto 19, 3) := by decide +kernel
theorem dX7_copy_171 : decode cX7_copy 171 = .ok (.iload 5, 2) := by decide +kernel
theorem dX7_copy_173 : decode cX7_copy 173 = .ok (.iconst 1, 1) := by decide +kernel
theorem dX7_copy_174 : decode cX7_copy 174 = .ok (.if_icmp .ne 12, 3) := by decide +kernel
theorem dX7_copy_177 : decode cX7_copy 177 = .ok (.aload_n 0, 1) := by decide +kernel
theorem dX7_copy_178 : decode cX7_copy 178 = .ok (.iload_n 1, 1) := by decide +kernel
theorem dX7_copy_179 : decode cX7_copy 179 = .ok (.iconst 1, 1) := by decide +kernel
theorem dX7_copy_180 : decode cX7_copy 180 = .ok (.invokevirtual 219, 3) := by decide +kernel
theorem dX7_copy_183 : decode cX7_copy 183 = .ok (.goto 4, 3) := by decide +kernel
theorem dX7_copy_186 : decode cX7_copy 186 = .ok (.iconst (-1), 1) := by decide +kernel
theorem dX7_copy_187 : decode cX7_copy 187 = .ok (.iload_n 2, 1) := by decide +kernel
theorem dX7_copy_188 : decode cX7_copy 188 = .ok (.invokevirtual 161, 3) := by decide +kernel
theorem dX7_copy_191 : decode cX7_copy 191 = .ok (.istore 7, 2) := by decide +kernel
theorem dX7_copy_193 : decode cX7_copy 193 = .ok (.iload 5, 2) := by decide +kernel
theorem dX7_copy_195 : decode cX7_copy 195 = .ok (.iconst 3, 1) := by decide +kernel
theorem dX7_copy_196 : decode cX7_copy 196 = .ok (.if_icmp .ne 66, 3) := by decide +kernel
theorem dX7_copy_199 : decode cX7_copy 199 = .ok (.aload_n 0, 1) := by decide +kernel
theorem dX7_copy_200 : decode cX7_copy 200 = .ok (.iload_n 1, 1) := by decide +kernel
theorem dX7_copy_201 : decode cX7_copy 201 = .ok (.iconst 2, 1) := by decide +kernel
theorem dX7_copy_202 : decode cX7_copy 202 = .ok (.invokevirtual 219, 3) := by decide +kernel
theorem dX7_copy_205 : decode cX7_copy 205 = .ok (.istore 8, 2) := by decide +kernel
theorem dX7_copy_207 : decode cX7_copy 207 = .ok (.aload_n 0, 1) := by decide +kernel
theorem dX7_copy_208 : decode cX7_copy 208 = .ok (.getfield 91, 3) := by decide +kernel
theorem dX7_copy_211 : decode cX7_copy 211 = .ok (.iload 8, 2) := by decide +kernel
theorem dX7_copy_213 : decode cX7_copy 213 = .ok (.iaload, 1) := by decide +kernel
theorem dX7_copy_214 : decode cX7_copy 214 = .ok (.istore 9, 2) := by decide +kernel
theorem dX7_copy_216 : decode cX7_copy 216 = .ok (.aload_n 0, 1) := by decide +kernel
theorem dX7_copy_217 : decode cX7_copy 217 = .ok (.invokevirtual 320, 3) := by decide +kernel
theorem dX7_copy_220 : decode cX7_copy 220 = .ok (.istore 10, 2) := by decide +kernel
theorem dX7_copy_222 : decode cX7_copy 222 = .ok (.aload_n 0, 1) := by decide +kernel
theorem dX7_copy_223 : decode cX7_copy 223 = .ok (.iload 4, 2) := by decide +kernel
theorem dX7_copy_225 : decode cX7_copy 225 = .ok (.iload 7, 2) := by decide +kernel
theorem dX7_copy_227 : decode cX7_copy 227 = .ok (.iconst 2, 1) := by decide +kernel
theorem dX7_copy_228 : decode cX7_copy 228 = .ok (.iload 10, 2) := by decide +kernel
theorem dX7_copy_230 : decode cX7_copy 230 = .ok (.invokevirtual 108, 3) := by decide +kernel
theorem dX7_copy_233 : decode cX7_copy 233 = .ok (.aload_n 0, 1) := by decide +kernel
theorem dX7_copy_234 : decode cX7_copy 234 = .ok (.getfield 91, 3) := by decide +kernel
theorem dX7_copy_237 : decode cX7_copy 237 = .ok (.iload 8, 2) := by decide +kernel
theorem dX7_copy_239 : decode cX7_copy 239 = .ok (.iload 10, 2) := by decide +kernel
theorem dX7_copy_241 : decode cX7_copy 241 = .ok (.iastore, 1) := by decide +kernel
theorem dX7_copy_242 : decode cX7_copy 242 = .ok (.aload_n 0, 1) := by decide +kernel
theorem dX7_copy_243 : decode cX7_copy 243 = .ok (.iload_n 1, 1) := by decide +kernel
theorem dX7_copy_244 : decode cX7_copy 244 = .ok (.iload 7, 2) := by decide +kernel
theorem dX7_copy_246 : decode cX7_copy 246 = .ok (.iload_n 3, 1) := by decide +kernel
theorem dX7_copy_247 : decode cX7_copy 247 = .ok (.invokevirtual 323, 3) := by decide +kernel
theorem dX7_copy_250 : decode cX7_copy 250 = .ok (.aload_n 0, 1) := by decide +kernel
theorem dX7_copy_251 : decode cX7_copy 251 = .ok (.getfield 91, 3) := by decide +kernel
theorem dX7_copy_254 : decode cX7_copy 254 = .ok (.iload 8, 2) := by decide +kernel
theorem dX7_copy_256 : decode cX7_copy 256 = .ok (.iload 9, 2) := by decide +kernel
theorem dX7_copy_258 : decode cX7_copy 258 = .ok (.iastore, 1) := by decide +kernel
theorem dX7_copy_259 : decode cX7_copy 259 = .ok (.goto 81, 3) := by decide +kernel
theorem dX7_copy_262 : decode cX7_copy 262 = .ok (.iload 5, 2) := by decide +kernel
theorem dX7_copy_264 : decode cX7_copy 264 = .ok (.iconst 2, 1) := by decide +kernel
theorem dX7_copy_265 : decode cX7_copy 265 = .ok (.if_icmp .eq 9, 3) := by decide +kernel
theorem dX7_copy_268 : decode cX7_copy 268 = .ok (.iload 5, 2) := by decide +kernel
theorem dX7_copy_270 : decode cX7_copy 270 = .ok (.iconst 5, 1) := by decide +kernel
theorem dX7_copy_271 : decode cX7_copy 271 = .ok (.if_icmp .ne 14, 3) := by decide +kernel
theorem dX7_copy_274 : decode cX7_copy 274 = .ok (.aload_n 0, 1) := by decide +kernel
theorem dX7_copy_275 : decode cX7_copy 275 = .ok (.iload_n 1, 1) := by decide +kernel
theorem dX7_copy_276 : decode cX7_copy 276 = .ok (.iload 7, 2) := by decide +kernel
theorem dX7_copy_278 : decode cX7_copy 278 = .ok (.iload_n 3, 1) := by decide +kernel
theorem dX7_copy_279 : decode cX7_copy 279 = .ok (.invokevirtual 323, 3) := by decide +kernel
theorem dX7_copy_282 : decode cX7_copy 282 = .ok (.goto 58, 3) := by decide +kernel
theorem dX7_copy_285 : decode cX7_copy 285 = .ok (.iconst 3, 1) := by decide +kernel
theorem dX7_copy_286 : decode cX7_copy 286 = .ok (.istore 8, 2) := by decide +kernel
theorem dX7_copy_288 : decode cX7_copy 288 = .ok (.iload 8, 2) := by decide +kernel
theorem dX7_copy_290 : decode cX7_copy 290 = .ok (.bipush 6, 2) := by decide +kernel
theorem dX7_copy_292 : decode cX7_copy 292 = .ok (.if_icmp .ge 48, 3) := by decide +kernel
theorem dX7_copy_295 : decode cX7_copy 295 = .ok (.aload_n 0, 1) := by decide +kernel
theorem dX7_copy_296 : decode cX7_copy 296 = .ok (.iload_n 1, 1) := by decide +kernel
theorem dX7_copy_297 : decode cX7_copy 297 = .ok (.iload 8, 2) := by decide +kernel
theorem dX7_copy_299 : decode cX7_copy 299 = .ok (.invokevirtual 219, 3) := by decide +kernel
theorem dX7_copy_302 : decode cX7_copy 302 = .ok (.iconst (-1), 1) := by decide +kernel
theorem dX7_copy_303 : decode cX7_copy 303 = .ok (.if_icmp .eq 31, 3) := by decide +kernel
theorem dX7_copy_306 : decode cX7_copy 306 = .ok (.aload_n 0, 1) := by decide +kernel
theorem dX7_copy_307 : decode cX7_copy 307 = .ok (.aload_n 0, 1) := by decide +kernel
theorem dX7_copy_308 : decode cX7_copy 308 = .ok (.iload_n 1, 1) := by decide +kernel
theorem dX7_copy_309 : decode cX7_copy 309 = .ok (.iload 8, 2) := by decide +kernel
theorem dX7_copy_311 : decode cX7_copy 311 = .ok (.invokevirtual 219, 3) := by decide +kernel
theorem dX7_copy_314 : decode cX7_copy 314 = .ok (.iload 7, 2) := by decide +kernel
theorem dX7_copy_316 : decode cX7_copy 316 = .ok (.iload_n 3, 1) := by decide +kernel
theorem dX7_copy_317 : decode cX7_copy 317 = .ok (.invokevirtual 312, 3) := by decide +kernel
theorem dX7_copy_320 : decode cX7_copy 320 = .ok (.istore 9, 2) := by decide +kernel
theorem dX7_copy_322 : decode cX7_copy 322 = .ok (.aload_n 0, 1) := by decide +kernel
theorem dX7_copy_323 : decode cX7_copy 323 = .ok (.iload 4, 2) := by decide +kernel
theorem dX7_copy_325 : decode cX7_copy 325 = .ok (.iload 7, 2) := by decide +kernel
theorem dX7_copy_327 : decode cX7_copy 327 = .ok (.iload 8, 2) := by decide +kernel
theorem dX7_copy_329 : decode cX7_copy 329 = .ok (.iload 9, 2) := by decide +kernel
theorem dX7_copy_331 : decode cX7_copy 331 = .ok (.invokevirtual 108, 3) := by decide +kernel
theorem dX7_copy_334 : decode cX7_copy 334 = .ok (.iinc 8 1, 3) := by decide +kernel
theorem dX7_copy_337 : decode cX7_copy 337 = .ok (.goto (-49), 3) := by decide +kernel
theorem dX7_copy_340 : decode cX7_copy 340 = .ok (.iload 7, 2) := by decide +kernel
theorem dX7_copy_342 : decode cX7_copy 342 = .ok (.ireturn, 1) := by decide +kernel
theorem dX7_fresh_0 : decode cX7_fresh 0 = .ok (.aload_n 0, 1) := by decide +kernel
theorem dX7_fresh_1 : decode cX7_fresh 1 = .ok (.getfield 17, 3) := by decide +kernel
theorem dX7_fresh_4 : decode cX7_fresh 4 = .ok (.iconst 1, 1) := by decide +kernel
theorem dX7_fresh_5 : decode cX7_fresh 5 = .ok (.aload_n 0, 1) := by decide +kernel
theorem dX7_fresh_6 : decode cX7_fresh 6 = .ok (.getfield 101, 3) := by decide +kernel
theorem dX7_fresh_9 : decode cX7_fresh 9 = .ok (.isub, 1) := by decide +kernel
theorem dX7_fresh_10 : decode cX7_fresh 10 = .ok (.iaload, 1) := by decide +kernel
theorem dX7_fresh_11 : decode cX7_fresh 11 = .ok (.istore_n 1, 1) := by decide +kernel
theorem dX7_fresh_12 : decode cX7_fresh 12 = .ok (.aload_n 0, 1) := by decide +kernel
theorem dX7_fresh_13 : decode cX7_fresh 13 = .ok (.aload_n 0, 1) := by decide +kernel
theorem dX7_fresh_14 : decode cX7_fresh 14 = .ok (.getfield 309, 3) := by decide +kernel
theorem dX7_fresh_17 : decode cX7_fresh 17 = .ok (.ifCond .ne 9, 3) := by decide +kernel
theorem dX7_fresh_20 : decode cX7_fresh 20 = .ok (.iload_n 1, 1) := by decide +kernel
theorem dX7_fresh_21 : decode cX7_fresh 21 = .ok (.bipush 100, 2) := by decide +kernel
theorem dX7_fresh_23 : decode cX7_fresh 23 = .ok (.if_icmp .ne 7, 3) := by decide +kernel
theorem dX7_fresh_26 : decode cX7_fresh 26 = .ok (.iconst 1, 1) := by decide +kernel
theorem dX7_fresh_27 : decode cX7_fresh 27 = .ok (.goto 4, 3) := by decide +kernel
theorem dX7_fresh_30 : decode cX7_fresh 30 = .ok (.iconst 0, 1) := by decide +kernel
theorem dX7_fresh_31 : decode cX7_fresh 31 = .ok (.putfield 309, 3) := by decide +kernel
theorem dX7_fresh_34 : decode cX7_fresh 34 = .ok (.aload_n 0, 1) := by decide +kernel
theorem dX7_fresh_35 : decode cX7_fresh 35 = .ok (.getfield 17, 3) := by decide +kernel
theorem dX7_fresh_38 : decode cX7_fresh 38 = .ok (.iconst 1, 1) := by decide +kernel
theorem dX7_fresh_39 : decode cX7_fresh 39 = .ok (.aload_n 0, 1) := by decide +kernel
theorem dX7_fresh_40 : decode cX7_fresh 40 = .ok (.getfield 101, 3) := by decide +kernel
theorem dX7_fresh_43 : decode cX7_fresh 43 = .ok (.isub, 1) := by decide +kernel
theorem dX7_fresh_44 : decode cX7_fresh 44 = .ok (.dup2, 1) := by decide +kernel
theorem dX7_fresh_45 : decode cX7_fresh 45 = .ok (.iaload, 1) := by decide +kernel
theorem dX7_fresh_46 : decode cX7_fresh 46 = .ok (.aload_n 0, 1) := by decide +kernel
theorem dX7_fresh_47 : decode cX7_fresh 47 = .ok (.getfield 309, 3) := by decide +kernel
theorem dX7_fresh_50 : decode cX7_fresh 50 = .ok (.ifCond .eq 7, 3) := by decide +kernel
theorem dX7_fresh_53 : decode cX7_fresh 53 = .ok (.iconst 0, 1) := by decide +kernel
theorem dX7_fresh_54 : decode cX7_fresh 54 = .ok (.goto 4, 3) := by decide +kernel
theorem dX7_fresh_57 : decode cX7_fresh 57 = .ok (.iconst 1, 1) := by decide +kernel
theorem dX7_fresh_58 : decode cX7_fresh 58 = .ok (.iadd, 1) := by decide +kernel
theorem dX7_fresh_59 : decode cX7_fresh 59 = .ok (.iastore, 1) := by decide +kernel
theorem dX7_fresh_60 : decode cX7_fresh 60 = .ok (.iload_n 1, 1) := by decide +kernel
theorem dX7_fresh_61 : decode cX7_fresh 61 = .ok (.ireturn, 1) := by decide +kernel
theorem dX7_binder_0 : decode cX7_binder 0 = .ok (.iconst 1, 1) := by decide +kernel
theorem dX7_binder_1 : decode cX7_binder 1 = .ok (.aload_n 0, 1) := by decide +kernel
theorem dX7_binder_2 : decode cX7_binder 2 = .ok (.getfield 101, 3) := by decide +kernel
theorem dX7_binder_5 : decode cX7_binder 5 = .ok (.isub, 1) := by decide +kernel
theorem dX7_binder_6 : decode cX7_binder 6 = .ok (.istore 4, 2) := by decide +kernel
theorem dX7_binder_8 : decode cX7_binder 8 = .ok (.aload_n 0, 1) := by decide +kernel
theorem dX7_binder_9 : decode cX7_binder 9 = .ok (.iload_n 1, 1) := by decide +kernel
theorem dX7_binder_10 : decode cX7_binder 10 = .ok (.iconst 1, 1) := by decide +kernel
theorem dX7_binder_11 : decode cX7_binder 11 = .ok (.invokevirtual 219, 3) := by decide +kernel
theorem dX7_binder_14 : decode cX7_binder 14 = .ok (.istore 5, 2) := by decide +kernel
theorem dX7_binder_16 : decode cX7_binder 16 = .ok (.aload_n 0, 1) := by decide +kernel
theorem dX7_binder_17 : decode cX7_binder 17 = .ok (.invokevirtual 320, 3) := by decide +kernel
theorem dX7_binder_20 : decode cX7_binder 20 = .ok (.istore 6, 2) := by decide +kernel
theorem dX7_binder_22 : decode cX7_binder 22 = .ok (.aload_n 0, 1) := by decide +kernel
theorem dX7_binder_23 : decode cX7_binder 23 = .ok (.iload 4, 2) := by decide +kernel
theorem dX7_binder_25 : decode cX7_binder 25 = .ok (.iload_n 2, 1) := by decide +kernel
theorem dX7_binder_26 : decode cX7_binder 26 = .ok (.iconst 1, 1) := by decide +kernel
theorem dX7_binder_27 : decode cX7_binder 27 = .ok (.iload 6, 2) := by decide +kernel
theorem dX7_binder_29 : decode cX7_binder 29 = .ok (.invokevirtual 108, 3) := by decide +kernel
theorem dX7_binder_32 : decode cX7_binder 32 = .ok (.aload_n 0, 1) := by decide +kernel
theorem dX7_binder_33 : decode cX7_binder 33 = .ok (.iload_n 1, 1) := by decide +kernel
theorem dX7_binder_34 : decode cX7_binder 34 = .ok (.iconst 0, 1) := by decide +kernel
theorem dX7_binder_35 : decode cX7_binder 35 = .ok (.invokevirtual 219, 3) := by decide +kernel
theorem dX7_binder_38 : decode cX7_binder 38 = .ok (.iconst 5, 1) := by decide +kernel
theorem dX7_binder_39 : decode cX7_binder 39 = .ok (.if_icmp .ne 7, 3) := by decide +kernel
theorem dX7_binder_42 : decode cX7_binder 42 = .ok (.iconst 4, 1) := by decide +kernel
theorem dX7_binder_43 : decode cX7_binder 43 = .ok (.goto 4, 3) := by decide +kernel
theorem dX7_binder_46 : decode cX7_binder 46 = .ok (.iconst 3, 1) := by decide +kernel
theorem dX7_binder_47 : decode cX7_binder 47 = .ok (.istore 7, 2) := by decide +kernel
theorem dX7_binder_49 : decode cX7_binder 49 = .ok (.iload 7, 2) := by decide +kernel
theorem dX7_binder_51 : decode cX7_binder 51 = .ok (.iconst 4, 1) := by decide +kernel
theorem dX7_binder_52 : decode cX7_binder 52 = .ok (.if_icmp .ne 27, 3) := by decide +kernel
theorem dX7_binder_55 : decode cX7_binder 55 = .ok (.aload_n 0, 1) := by decide +kernel
theorem dX7_binder_56 : decode cX7_binder 56 = .ok (.aload_n 0, 1) := by decide +kernel
theorem dX7_binder_57 : decode cX7_binder 57 = .ok (.iload_n 1, 1) := by decide +kernel
theorem dX7_binder_58 : decode cX7_binder 58 = .ok (.iconst 3, 1) := by decide +kernel
theorem dX7_binder_59 : decode cX7_binder 59 = .ok (.invokevirtual 219, 3) := by decide +kernel
theorem dX7_binder_62 : decode cX7_binder 62 = .ok (.iload_n 2, 1) := by decide +kernel
theorem dX7_binder_63 : decode cX7_binder 63 = .ok (.iload_n 3, 1) := by decide +kernel
theorem dX7_binder_64 : decode cX7_binder 64 = .ok (.invokevirtual 312, 3) := by decide +kernel
theorem dX7_binder_67 : decode cX7_binder 67 = .ok (.istore 8, 2) := by decide +kernel
theorem dX7_binder_69 : decode cX7_binder 69 = .ok (.aload_n 0, 1) := by decide +kernel
theorem dX7_binder_70 : decode cX7_binder 70 = .ok (.iload 4, 2) := by decide +kernel
theorem dX7_binder_72 : decode cX7_binder 72 = .ok (.iload_n 2, 1) := by decide +kernel
theorem dX7_binder_73 : decode cX7_binder 73 = .ok (.iconst 3, 1) := by decide +kernel
theorem dX7_binder_74 : decode cX7_binder 74 = .ok (.iload 8, 2) := by decide +kernel
theorem dX7_binder_76 : decode cX7_binder 76 = .ok (.invokevirtual 108, 3) := by decide +kernel
theorem dX7_binder_79 : decode cX7_binder 79 = .ok (.aload_n 0, 1) := by decide +kernel
theorem dX7_binder_80 : decode cX7_binder 80 = .ok (.getfield 309, 3) := by decide +kernel
theorem dX7_binder_83 : decode cX7_binder 83 = .ok (.ifCond .eq 4, 3) := by decide +kernel
theorem dX7_binder_86 : decode cX7_binder 86 = .ok (.return_, 1) := by decide +kernel
theorem dX7_binder_87 : decode cX7_binder 87 = .ok (.aload_n 0, 1) := by decide +kernel
theorem dX7_binder_88 : decode cX7_binder 88 = .ok (.getfield 91, 3) := by decide +kernel
theorem dX7_binder_91 : decode cX7_binder 91 = .ok (.iload 5, 2) := by decide +kernel
theorem dX7_binder_93 : decode cX7_binder 93 = .ok (.iaload, 1) := by decide +kernel
theorem dX7_binder_94 : decode cX7_binder 94 = .ok (.istore 8, 2) := by decide +kernel
theorem dX7_binder_96 : decode cX7_binder 96 = .ok (.aload_n 0, 1) := by decide +kernel
theorem dX7_binder_97 : decode cX7_binder 97 = .ok (.getfield 91, 3) := by decide +kernel
theorem dX7_binder_100 : decode cX7_binder 100 = .ok (.iload 5, 2) := by decide +kernel
theorem dX7_binder_102 : decode cX7_binder 102 = .ok (.iload 6, 2) := by decide +kernel
theorem dX7_binder_104 : decode cX7_binder 104 = .ok (.iastore, 1) := by decide +kernel
theorem dX7_binder_105 : decode cX7_binder 105 = .ok (.aload_n 0, 1) := by decide +kernel
theorem dX7_binder_106 : decode cX7_binder 106 = .ok (.aload_n 0, 1) := by decide +kernel
theorem dX7_binder_107 : decode cX7_binder 107 = .ok (.iload_n 1, 1) := by decide +kernel
theorem dX7_binder_108 : decode cX7_binder 108 = .ok (.iload 7, 2) := by decide +kernel
theorem dX7_binder_110 : decode cX7_binder 110 = .ok (.invokevirtual 219, 3) := by decide +kernel
theorem dX7_binder_113 : decode cX7_binder 113 = .ok (.iload_n 2, 1) := by decide +kernel
theorem dX7_binder_114 : decode cX7_binder 114 = .ok (.iload_n 3, 1) := by decide +kernel
theorem dX7_binder_115 : decode cX7_binder 115 = .ok (.invokevirtual 312, 3) := by decide +kernel
theorem dX7_binder_118 : decode cX7_binder 118 = .ok (.istore 9, 2) := by decide +kernel
theorem dX7_binder_120 : decode cX7_binder 120 = .ok (.aload_n 0, 1) := by decide +kernel
theorem dX7_binder_121 : decode cX7_binder 121 = .ok (.iload 4, 2) := by decide +kernel
theorem dX7_binder_123 : decode cX7_binder 123 = .ok (.iload_n 2, 1) := by decide +kernel
theorem dX7_binder_124 : decode cX7_binder 124 = .ok (.iload 7, 2) := by decide +kernel
theorem dX7_binder_126 : decode cX7_binder 126 = .ok (.iload 9, 2) := by decide +kernel
theorem dX7_binder_128 : decode cX7_binder 128 = .ok (.invokevirtual 108, 3) := by decide +kernel
theorem dX7_binder_131 : decode cX7_binder 131 = .ok (.aload_n 0, 1) := by decide +kernel
theorem dX7_binder_132 : decode cX7_binder 132 = .ok (.getfield 91, 3) := by decide +kernel
theorem dX7_binder_135 : decode cX7_binder 135 = .ok (.iload 5, 2) := by decide +kernel
theorem dX7_binder_137 : decode cX7_binder 137 = .ok (.iload 8, 2) := by decide +kernel
theorem dX7_binder_139 : decode cX7_binder 139 = .ok (.iastore, 1) := by decide +kernel
theorem dX7_binder_140 : decode cX7_binder 140 = .ok (.return_, 1) := by decide +kernel
theorem dX7_place_0 : decode cX7_place 0 = .ok (.iconst 1, 1) := by decide +kernel
theorem dX7_place_1 : decode cX7_place 1 = .ok (.aload_n 0, 1) := by decide +kernel
theorem dX7_place_2 : decode cX7_place 2 = .ok (.getfield 101, 3) := by decide +kernel
theorem dX7_place_5 : decode cX7_place 5 = .ok (.isub, 1) := by decide +kernel
theorem dX7_place_6 : decode cX7_place 6 = .ok (.istore_n 3, 1) := by decide +kernel
theorem dX7_place_7 : decode cX7_place 7 = .ok (.aload_n 0, 1) := by decide +kernel
theorem dX7_place_8 : decode cX7_place 8 = .ok (.getfield 26, 3) := by decide +kernel
theorem dX7_place_11 : decode cX7_place 11 = .ok (.aload_n 0, 1) := by decide +kernel
theorem dX7_place_12 : decode cX7_place 12 = .ok (.iload_n 1, 1) := by decide +kernel
theorem dX7_place_13 : decode cX7_place 13 = .ok (.invokevirtual 250, 3) := by decide +kernel
theorem dX7_place_16 : decode cX7_place 16 = .ok (.iaload, 1) := by decide +kernel
theorem dX7_place_17 : decode cX7_place 17 = .ok (.istore 4, 2) := by decide +kernel
theorem dX7_place_19 : decode cX7_place 19 = .ok (.aload_n 0, 1) := by decide +kernel
theorem dX7_place_20 : decode cX7_place 20 = .ok (.aload_n 0, 1) := by decide +kernel
theorem dX7_place_21 : decode cX7_place 21 = .ok (.getfield 309, 3) := by decide +kernel
theorem dX7_place_24 : decode cX7_place 24 = .ok (.ifCond .ne 15, 3) := by decide +kernel
theorem dX7_place_27 : decode cX7_place 27 = .ok (.aload_n 0, 1) := by decide +kernel
theorem dX7_place_28 : decode cX7_place 28 = .ok (.getfield 13, 3) := by decide +kernel
theorem dX7_place_31 : decode cX7_place 31 = .ok (.iload_n 3, 1) := by decide +kernel
theorem dX7_place_32 : decode cX7_place 32 = .ok (.iaload, 1) := by decide +kernel
theorem dX7_place_33 : decode cX7_place 33 = .ok (.sipush 200, 3) := by decide +kernel
theorem dX7_place_36 : decode cX7_place 36 = .ok (.if_icmp .ne 7, 3) := by decide +kernel
theorem dX7_place_39 : decode cX7_place 39 = .ok (.iconst 1, 1) := by decide +kernel
theorem dX7_place_40 : decode cX7_place 40 = .ok (.goto 4, 3) := by decide +kernel
theorem dX7_place_43 : decode cX7_place 43 = .ok (.iconst 0, 1) := by decide +kernel
theorem dX7_place_44 : decode cX7_place 44 = .ok (.putfield 309, 3) := by decide +kernel
theorem dX7_place_47 : decode cX7_place 47 = .ok (.aload_n 0, 1) := by decide +kernel
theorem dX7_place_48 : decode cX7_place 48 = .ok (.getfield 309, 3) := by decide +kernel
theorem dX7_place_51 : decode cX7_place 51 = .ok (.ifCond .eq 5, 3) := by decide +kernel
theorem dX7_place_54 : decode cX7_place 54 = .ok (.iconst (-1), 1) := by decide +kernel
theorem dX7_place_55 : decode cX7_place 55 = .ok (.ireturn, 1) := by decide +kernel
theorem dX7_place_56 : decode cX7_place 56 = .ok (.aload_n 0, 1) := by decide +kernel
theorem dX7_place_57 : decode cX7_place 57 = .ok (.iload_n 3, 1) := by decide +kernel
theorem dX7_place_58 : decode cX7_place 58 = .ok (.iconst 5, 1) := by decide +kernel
theorem dX7_place_59 : decode cX7_place 59 = .ok (.iconst (-1), 1) := by decide +kernel
theorem dX7_place_60 : decode cX7_place 60 = .ok (.iload_n 2, 1) := by decide +kernel
theorem dX7_place_61 : decode cX7_place 61 = .ok (.invokevirtual 161, 3) := by decide +kernel
theorem dX7_place_64 : decode cX7_place 64 = .ok (.istore 5, 2) := by decide +kernel
theorem dX7_place_66 : decode cX7_place 66 = .ok (.aload_n 0, 1) := by decide +kernel
theorem dX7_place_67 : decode cX7_place 67 = .ok (.invokevirtual 320, 3) := by decide +kernel
theorem dX7_place_70 : decode cX7_place 70 = .ok (.istore 6, 2) := by decide +kernel
theorem dX7_place_72 : decode cX7_place 72 = .ok (.aload_n 0, 1) := by decide +kernel
theorem dX7_place_73 : decode cX7_place 73 = .ok (.iload_n 3, 1) := by decide +kernel
theorem dX7_place_74 : decode cX7_place 74 = .ok (.iload 5, 2) := by decide +kernel
theorem dX7_place_76 : decode cX7_place 76 = .ok (.iconst 1, 1) := by decide +kernel
theorem dX7_place_77 : decode cX7_place 77 = .ok (.iload 6, 2) := by decide +kernel
theorem dX7_place_79 : decode cX7_place 79 = .ok (.invokevirtual 108, 3) := by decide +kernel
theorem dX7_place_82 : decode cX7_place 82 = .ok (.aload_n 0, 1) := by decide +kernel
theorem dX7_place_83 : decode cX7_place 83 = .ok (.aload_n 0, 1) := by decide +kernel
theorem dX7_place_84 : decode cX7_place 84 = .ok (.iload_n 1, 1) := by decide +kernel
theorem dX7_place_85 : decode cX7_place 85 = .ok (.iconst 4, 1) := by decide +kernel
theorem dX7_place_86 : decode cX7_place 86 = .ok (.invokevirtual 219, 3) := by decide +kernel
theorem dX7_place_89 : decode cX7_place 89 = .ok (.iload 5, 2) := by decide +kernel
theorem dX7_place_91 : decode cX7_place 91 = .ok (.iconst (-1), 1) := by decide +kernel
theorem dX7_place_92 : decode cX7_place 92 = .ok (.invokevirtual 312, 3) := by decide +kernel
theorem dX7_place_95 : decode cX7_place 95 = .ok (.istore 7, 2) := by decide +kernel
theorem dX7_place_97 : decode cX7_place 97 = .ok (.aload_n 0, 1) := by decide +kernel
theorem dX7_place_98 : decode cX7_place 98 = .ok (.iload_n 3, 1) := by decide +kernel
theorem dX7_place_99 : decode cX7_place 99 = .ok (.iload 5, 2) := by decide +kernel
theorem dX7_place_101 : decode cX7_place 101 = .ok (.iconst 3, 1) := by decide +kernel
theorem dX7_place_102 : decode cX7_place 102 = .ok (.iload 7, 2) := by decide +kernel
theorem dX7_place_104 : decode cX7_place 104 = .ok (.invokevirtual 108, 3) := by decide +kernel
theorem dX7_place_107 : decode cX7_place 107 = .ok (.aload_n 0, 1) := by decide +kernel
theorem dX7_place_108 : decode cX7_place 108 = .ok (.getfield 309, 3) := by decide +kernel
theorem dX7_place_111 : decode cX7_place 111 = .ok (.ifCond .eq 5, 3) := by decide +kernel
theorem dX7_place_114 : decode cX7_place 114 = .ok (.iconst (-1), 1) := by decide +kernel
theorem dX7_place_115 : decode cX7_place 115 = .ok (.ireturn, 1) := by decide +kernel
theorem dX7_place_116 : decode cX7_place 116 = .ok (.aload_n 0, 1) := by decide +kernel
theorem dX7_place_117 : decode cX7_place 117 = .ok (.iload 4, 2) := by decide +kernel
theorem dX7_place_119 : decode cX7_place 119 = .ok (.iconst 1, 1) := by decide +kernel
theorem dX7_place_120 : decode cX7_place 120 = .ok (.invokevirtual 219, 3) := by decide +kernel
theorem dX7_place_123 : decode cX7_place 123 = .ok (.istore 8, 2) := by decide +kernel
theorem dX7_place_125 : decode cX7_place 125 = .ok (.aload_n 0, 1) := by decide +kernel
theorem dX7_place_126 : decode cX7_place 126 = .ok (.getfield 91, 3) := by decide +kernel
theorem dX7_place_129 : decode cX7_place 129 = .ok (.iload 8, 2) := by decide +kernel
theorem dX7_place_131 : decode cX7_place 131 = .ok (.iaload, 1) := by decide +kernel
theorem dX7_place_132 : decode cX7_place 132 = .ok (.istore 9, 2) := by decide +kernel
theorem dX7_place_134 : decode cX7_place 134 = .ok (.aload_n 0, 1) := by decide +kernel
theorem dX7_place_135 : decode cX7_place 135 = .ok (.getfield 91, 3) := by decide +kernel
theorem dX7_place_138 : decode cX7_place 138 = .ok (.iload 8, 2) := by decide +kernel
theorem dX7_place_140 : decode cX7_place 140 = .ok (.iload 6, 2) := by decide +kernel
theorem dX7_place_142 : decode cX7_place 142 = .ok (.iastore, 1) := by decide +kernel
theorem dX7_place_143 : decode cX7_place 143 = .ok (.aload_n 0, 1) := by decide +kernel
theorem dX7_place_144 : decode cX7_place 144 = .ok (.aload_n 0, 1) := by decide +kernel
theorem dX7_place_145 : decode cX7_place 145 = .ok (.iload 4, 2) := by decide +kernel
theorem dX7_place_147 : decode cX7_place 147 = .ok (.iconst 3, 1) := by decide +kernel
theorem dX7_place_148 : decode cX7_place 148 = .ok (.invokevirtual 219, 3) := by decide +kernel
theorem dX7_place_151 : decode cX7_place 151 = .ok (.iload 5, 2) := by decide +kernel
theorem dX7_place_153 : decode cX7_place 153 = .ok (.iconst (-1), 1) := by decide +kernel
theorem dX7_place_154 : decode cX7_place 154 = .ok (.invokevirtual 312, 3) := by decide +kernel
theorem dX7_place_157 : decode cX7_place 157 = .ok (.istore 10, 2) := by decide +kernel
theorem dX7_place_159 : decode cX7_place 159 = .ok (.aload_n 0, 1) := by decide +kernel
theorem dX7_place_160 : decode cX7_place 160 = .ok (.iload_n 3, 1) := by decide +kernel
theorem dX7_place_161 : decode cX7_place 161 = .ok (.iload 5, 2) := by decide +kernel
theorem dX7_place_163 : decode cX7_place 163 = .ok (.iconst 4, 1) := by decide +kernel
theorem dX7_place_164 : decode cX7_place 164 = .ok (.iload 10, 2) := by decide +kernel
theorem dX7_place_166 : decode cX7_place 166 = .ok (.invokevirtual 108, 3) := by decide +kernel
theorem dX7_place_169 : decode cX7_place 169 = .ok (.aload_n 0, 1) := by decide +kernel
theorem dX7_place_170 : decode cX7_place 170 = .ok (.getfield 91, 3) := by decide +kernel
theorem dX7_place_173 : decode cX7_place 173 = .ok (.iload 8, 2) := by decide +kernel
theorem dX7_place_175 : decode cX7_place 175 = .ok (.iload 9, 2) := by decide +kernel
theorem dX7_place_177 : decode cX7_place 177 = .ok (.iastore, 1) := by decide +kernel
theorem dX7_place_178 : decode cX7_place 178 = .ok (.iload 5, 2) := by decide +kernel
theorem dX7_place_180 : decode cX7_place 180 = .ok (.ireturn, 1) := by decide +kernel
theorem dX7_changed_0 : decode cX7_changed 0 = .ok (.iconst 1, 1) := by decide +kernel
theorem dX7_changed_1 : decode cX7_changed 1 = .ok (.aload_n 0, 1) := by decide +kernel
theorem dX7_changed_2 : decode cX7_changed 2 = .ok (.getfield 101, 3) := by decide +kernel
theorem dX7_changed_5 : decode cX7_changed 5 = .ok (.isub, 1) := by decide +kernel
theorem dX7_changed_6 : decode cX7_changed 6 = .ok (.istore_n 2, 1) := by decide +kernel
theorem dX7_changed_7 : decode cX7_changed 7 = .ok (.aload_n 0, 1) := by decide +kernel
theorem dX7_changed_8 : decode cX7_changed 8 = .ok (.getfield 13, 3) := by decide +kernel
theorem dX7_changed_11 : decode cX7_changed 11 = .ok (.iload_n 2, 1) := by decide +kernel
theorem dX7_changed_12 : decode cX7_changed 12 = .ok (.iconst 0, 1) := by decide +kernel
theorem dX7_changed_13 : decode cX7_changed 13 = .ok (.iastore, 1) := by decide +kernel
theorem dX7_changed_14 : decode cX7_changed 14 = .ok (.aload_n 0, 1) := by decide +kernel
theorem dX7_changed_15 : decode cX7_changed 15 = .ok (.getfield 17, 3) := by decide +kernel
theorem dX7_changed_18 : decode cX7_changed 18 = .ok (.iload_n 2, 1) := by decide +kernel
theorem dX7_changed_19 : decode cX7_changed 19 = .ok (.iconst 0, 1) := by decide +kernel
theorem dX7_changed_20 : decode cX7_changed 20 = .ok (.iastore, 1) := by decide +kernel
theorem dX7_changed_21 : decode cX7_changed 21 = .ok (.aload_n 0, 1) := by decide +kernel
theorem dX7_changed_22 : decode cX7_changed 22 = .ok (.iconst 0, 1) := by decide +kernel
theorem dX7_changed_23 : decode cX7_changed 23 = .ok (.putfield 317, 3) := by decide +kernel
theorem dX7_changed_26 : decode cX7_changed 26 = .ok (.aload_n 0, 1) := by decide +kernel
theorem dX7_changed_27 : decode cX7_changed 27 = .ok (.iconst 0, 1) := by decide +kernel
theorem dX7_changed_28 : decode cX7_changed 28 = .ok (.putfield 309, 3) := by decide +kernel
theorem dX7_changed_31 : decode cX7_changed 31 = .ok (.aload_n 0, 1) := by decide +kernel
theorem dX7_changed_32 : decode cX7_changed 32 = .ok (.iconst 0, 1) := by decide +kernel
theorem dX7_changed_33 : decode cX7_changed 33 = .ok (.iconst (-1), 1) := by decide +kernel
theorem dX7_changed_34 : decode cX7_changed 34 = .ok (.iload_n 1, 1) := by decide +kernel
theorem dX7_changed_35 : decode cX7_changed 35 = .ok (.invokevirtual 312, 3) := by decide +kernel
theorem dX7_changed_38 : decode cX7_changed 38 = .ok (.istore_n 3, 1) := by decide +kernel
theorem dX7_changed_39 : decode cX7_changed 39 = .ok (.aload_n 0, 1) := by decide +kernel
theorem dX7_changed_40 : decode cX7_changed 40 = .ok (.getfield 309, 3) := by decide +kernel
theorem dX7_changed_43 : decode cX7_changed 43 = .ok (.ifCond .eq 5, 3) := by decide +kernel
theorem dX7_changed_46 : decode cX7_changed 46 = .ok (.iconst (-1), 1) := by decide +kernel
theorem dX7_changed_47 : decode cX7_changed 47 = .ok (.ireturn, 1) := by decide +kernel
theorem dX7_changed_48 : decode cX7_changed 48 = .ok (.aload_n 0, 1) := by decide +kernel
theorem dX7_changed_49 : decode cX7_changed 49 = .ok (.invokevirtual 200, 3) := by decide +kernel
theorem dX7_changed_52 : decode cX7_changed 52 = .ok (.aload_n 0, 1) := by decide +kernel
theorem dX7_changed_53 : decode cX7_changed 53 = .ok (.getfield 13, 3) := by decide +kernel
theorem dX7_changed_56 : decode cX7_changed 56 = .ok (.aload_n 0, 1) := by decide +kernel
theorem dX7_changed_57 : decode cX7_changed 57 = .ok (.getfield 101, 3) := by decide +kernel
theorem dX7_changed_60 : decode cX7_changed 60 = .ok (.iaload, 1) := by decide +kernel
theorem dX7_changed_61 : decode cX7_changed 61 = .ok (.ireturn, 1) := by decide +kernel
theorem dX7_inline_0 : decode cX7_inline 0 = .ok (.aload_n 0, 1) := by decide +kernel
theorem dX7_inline_1 : decode cX7_inline 1 = .ok (.iconst 0, 1) := by decide +kernel
theorem dX7_inline_2 : decode cX7_inline 2 = .ok (.putfield 97, 3) := by decide +kernel
theorem dX7_inline_5 : decode cX7_inline 5 = .ok (.aload_n 0, 1) := by decide +kernel
theorem dX7_inline_6 : decode cX7_inline 6 = .ok (.iload_n 1, 1) := by decide +kernel
theorem dX7_inline_7 : decode cX7_inline 7 = .ok (.invokevirtual 262, 3) := by decide +kernel
theorem dX7_inline_10 : decode cX7_inline 10 = .ok (.ifCond .eq 14, 3) := by decide +kernel
theorem dX7_inline_13 : decode cX7_inline 13 = .ok (.aload_n 0, 1) := by decide +kernel
theorem dX7_inline_14 : decode cX7_inline 14 = .ok (.iload_n 1, 1) := by decide +kernel
theorem dX7_inline_15 : decode cX7_inline 15 = .ok (.iconst 0, 1) := by decide +kernel
theorem dX7_inline_16 : decode cX7_inline 16 = .ok (.invokevirtual 219, 3) := by decide +kernel
theorem dX7_inline_19 : decode cX7_inline 19 = .ok (.bipush 11, 2) := by decide +kernel
theorem dX7_inline_21 : decode cX7_inline 21 = .ok (.if_icmp .eq 6, 3) := by decide +kernel
theorem dX7_inline_24 : decode cX7_inline 24 = .ok (.bipush (-2), 2) := by decide +kernel
theorem dX7_inline_26 : decode cX7_inline 26 = .ok (.ireturn, 1) := by decide +kernel
theorem dX7_inline_27 : decode cX7_inline 27 = .ok (.aload_n 0, 1) := by decide +kernel
theorem dX7_inline_28 : decode cX7_inline 28 = .ok (.iload_n 1, 1) := by decide +kernel
theorem dX7_inline_29 : decode cX7_inline 29 = .ok (.invokevirtual 256, 3) := by decide +kernel
theorem dX7_inline_32 : decode cX7_inline 32 = .ok (.ifCond .eq 11, 3) := by decide +kernel
theorem dX7_inline_35 : decode cX7_inline 35 = .ok (.aload_n 0, 1) := by decide +kernel
theorem dX7_inline_36 : decode cX7_inline 36 = .ok (.iload_n 1, 1) := by decide +kernel
theorem dX7_inline_37 : decode cX7_inline 37 = .ok (.invokevirtual 326, 3) := by decide +kernel
theorem dX7_inline_40 : decode cX7_inline 40 = .ok (.goto 4, 3) := by decide +kernel
theorem dX7_inline_43 : decode cX7_inline 43 = .ok (.iconst (-1), 1) := by decide +kernel
theorem dX7_inline_44 : decode cX7_inline 44 = .ok (.ireturn, 1) := by decide +kernel
theorem dX7_drop_0 : decode cX7_drop 0 = .ok (.aload_n 0, 1) := by decide +kernel
theorem dX7_drop_1 : decode cX7_drop 1 = .ok (.iconst 0, 1) := by decide +kernel
theorem dX7_drop_2 : decode cX7_drop 2 = .ok (.putfield 97, 3) := by decide +kernel
theorem dX7_drop_5 : decode cX7_drop 5 = .ok (.aload_n 0, 1) := by decide +kernel
theorem dX7_drop_6 : decode cX7_drop 6 = .ok (.iload_n 1, 1) := by decide +kernel
theorem dX7_drop_7 : decode cX7_drop 7 = .ok (.invokevirtual 262, 3) := by decide +kernel
theorem dX7_drop_10 : decode cX7_drop 10 = .ok (.ifCond .eq 13, 3) := by decide +kernel
theorem dX7_drop_13 : decode cX7_drop 13 = .ok (.aload_n 0, 1) := by decide +kernel
theorem dX7_drop_14 : decode cX7_drop 14 = .ok (.iload_n 1, 1) := by decide +kernel
theorem dX7_drop_15 : decode cX7_drop 15 = .ok (.iconst 0, 1) := by decide +kernel
theorem dX7_drop_16 : decode cX7_drop 16 = .ok (.invokevirtual 219, 3) := by decide +kernel
theorem dX7_drop_19 : decode cX7_drop 19 = .ok (.iconst 5, 1) := by decide +kernel
theorem dX7_drop_20 : decode cX7_drop 20 = .ok (.if_icmp .eq 6, 3) := by decide +kernel
theorem dX7_drop_23 : decode cX7_drop 23 = .ok (.bipush (-2), 2) := by decide +kernel
theorem dX7_drop_25 : decode cX7_drop 25 = .ok (.ireturn, 1) := by decide +kernel
theorem dX7_drop_26 : decode cX7_drop 26 = .ok (.aload_n 0, 1) := by decide +kernel
theorem dX7_drop_27 : decode cX7_drop 27 = .ok (.iload_n 1, 1) := by decide +kernel
theorem dX7_drop_28 : decode cX7_drop 28 = .ok (.invokevirtual 259, 3) := by decide +kernel
theorem dX7_drop_31 : decode cX7_drop 31 = .ok (.ifCond .eq 11, 3) := by decide +kernel
theorem dX7_drop_34 : decode cX7_drop 34 = .ok (.aload_n 0, 1) := by decide +kernel
theorem dX7_drop_35 : decode cX7_drop 35 = .ok (.iload_n 1, 1) := by decide +kernel
theorem dX7_drop_36 : decode cX7_drop 36 = .ok (.invokevirtual 326, 3) := by decide +kernel
theorem dX7_drop_39 : decode cX7_drop 39 = .ok (.goto 4, 3) := by decide +kernel
theorem dX7_drop_42 : decode cX7_drop 42 = .ok (.iconst (-1), 1) := by decide +kernel
theorem dX7_drop_43 : decode cX7_drop 43 = .ok (.ireturn, 1) := by decide +kernel
theorem dX7_type_0 : decode cX7_type 0 = .ok (.aload_n 0, 1) := by decide +kernel
theorem dX7_type_1 : decode cX7_type 1 = .ok (.iload_n 3, 1) := by decide +kernel
theorem dX7_type_2 : decode cX7_type 2 = .ok (.ifCond .lt 9, 3) := by decide +kernel
theorem dX7_type_5 : decode cX7_type 5 = .ok (.iload_n 3, 1) := by decide +kernel
theorem dX7_type_6 : decode cX7_type 6 = .ok (.bipush 8, 2) := by decide +kernel
theorem dX7_type_8 : decode cX7_type 8 = .ok (.if_icmp .le 7, 3) := by decide +kernel
theorem dX7_type_11 : decode cX7_type 11 = .ok (.iconst 1, 1) := by decide +kernel
theorem dX7_type_12 : decode cX7_type 12 = .ok (.goto 20, 3) := by decide +kernel
theorem dX7_type_15 : decode cX7_type 15 = .ok (.aload_n 0, 1) := by decide +kernel
theorem dX7_type_16 : decode cX7_type 16 = .ok (.getfield 115, 3) := by decide +kernel
theorem dX7_type_19 : decode cX7_type 19 = .ok (.iload_n 3, 1) := by decide +kernel
theorem dX7_type_20 : decode cX7_type 20 = .ok (.iadd, 1) := by decide +kernel
theorem dX7_type_21 : decode cX7_type 21 = .ok (.sipush 400, 3) := by decide +kernel
theorem dX7_type_24 : decode cX7_type 24 = .ok (.if_icmp .le 7, 3) := by decide +kernel
theorem dX7_type_27 : decode cX7_type 27 = .ok (.iconst 2, 1) := by decide +kernel
theorem dX7_type_28 : decode cX7_type 28 = .ok (.goto 4, 3) := by decide +kernel
theorem dX7_type_31 : decode cX7_type 31 = .ok (.iconst 0, 1) := by decide +kernel
theorem dX7_type_32 : decode cX7_type 32 = .ok (.putfield 97, 3) := by decide +kernel
theorem dX7_type_35 : decode cX7_type 35 = .ok (.aload_n 0, 1) := by decide +kernel
theorem dX7_type_36 : decode cX7_type 36 = .ok (.getfield 97, 3) := by decide +kernel
theorem dX7_type_39 : decode cX7_type 39 = .ok (.ifCond .le 5, 3) := by decide +kernel
theorem dX7_type_42 : decode cX7_type 42 = .ok (.iconst 0, 1) := by decide +kernel
theorem dX7_type_43 : decode cX7_type 43 = .ok (.ireturn, 1) := by decide +kernel
theorem dX7_type_44 : decode cX7_type 44 = .ok (.iconst 0, 1) := by decide +kernel
theorem dX7_type_45 : decode cX7_type 45 = .ok (.istore 4, 2) := by decide +kernel
theorem dX7_type_47 : decode cX7_type 47 = .ok (.iload 4, 2) := by decide +kernel
theorem dX7_type_49 : decode cX7_type 49 = .ok (.iload_n 3, 1) := by decide +kernel
theorem dX7_type_50 : decode cX7_type 50 = .ok (.if_icmp .ge 37, 3) := by decide +kernel
theorem dX7_type_53 : decode cX7_type 53 = .ok (.aload_n 0, 1) := by decide +kernel
theorem dX7_type_54 : decode cX7_type 54 = .ok (.getfield 7, 3) := by decide +kernel
theorem dX7_type_57 : decode cX7_type 57 = .ok (.aload_n 0, 1) := by decide +kernel
theorem dX7_type_58 : decode cX7_type 58 = .ok (.getfield 115, 3) := by decide +kernel
theorem dX7_type_61 : decode cX7_type 61 = .ok (.lload_n 1, 1) := by decide +kernel
theorem dX7_type_62 : decode cX7_type 62 = .ok (.bipush 8, 2) := by decide +kernel
theorem dX7_type_64 : decode cX7_type 64 = .ok (.iload 4, 2) := by decide +kernel
theorem dX7_type_66 : decode cX7_type 66 = .ok (.imul, 1) := by decide +kernel
theorem dX7_type_67 : decode cX7_type 67 = .ok (.lshr, 1) := by decide +kernel
theorem dX7_type_68 : decode cX7_type 68 = .ok (.l2i, 1) := by decide +kernel
theorem dX7_type_69 : decode cX7_type 69 = .ok (.i2b, 1) := by decide +kernel
theorem dX7_type_70 : decode cX7_type 70 = .ok (.bastore, 1) := by decide +kernel
theorem dX7_type_71 : decode cX7_type 71 = .ok (.aload_n 0, 1) := by decide +kernel
theorem dX7_type_72 : decode cX7_type 72 = .ok (.dup, 1) := by decide +kernel
theorem dX7_type_73 : decode cX7_type 73 = .ok (.getfield 115, 3) := by decide +kernel
theorem dX7_type_76 : decode cX7_type 76 = .ok (.iconst 1, 1) := by decide +kernel
theorem dX7_type_77 : decode cX7_type 77 = .ok (.iadd, 1) := by decide +kernel
theorem dX7_type_78 : decode cX7_type 78 = .ok (.putfield 115, 3) := by decide +kernel
theorem dX7_type_81 : decode cX7_type 81 = .ok (.iinc 4 1, 3) := by decide +kernel
theorem dX7_type_84 : decode cX7_type 84 = .ok (.goto (-37), 3) := by decide +kernel
theorem dX7_type_87 : decode cX7_type 87 = .ok (.aload_n 0, 1) := by decide +kernel
theorem dX7_type_88 : decode cX7_type 88 = .ok (.getfield 115, 3) := by decide +kernel
theorem dX7_type_91 : decode cX7_type 91 = .ok (.ireturn, 1) := by decide +kernel
theorem dX7_clear_0 : decode cX7_clear 0 = .ok (.aload_n 0, 1) := by decide +kernel
theorem dX7_clear_1 : decode cX7_clear 1 = .ok (.iconst 0, 1) := by decide +kernel
theorem dX7_clear_2 : decode cX7_clear 2 = .ok (.putfield 97, 3) := by decide +kernel
theorem dX7_clear_5 : decode cX7_clear 5 = .ok (.aload_n 0, 1) := by decide +kernel
theorem dX7_clear_6 : decode cX7_clear 6 = .ok (.getfield 115, 3) := by decide +kernel
theorem dX7_clear_9 : decode cX7_clear 9 = .ok (.istore_n 1, 1) := by decide +kernel
theorem dX7_clear_10 : decode cX7_clear 10 = .ok (.aload_n 0, 1) := by decide +kernel
theorem dX7_clear_11 : decode cX7_clear 11 = .ok (.iconst 0, 1) := by decide +kernel
theorem dX7_clear_12 : decode cX7_clear 12 = .ok (.putfield 115, 3) := by decide +kernel
theorem dX7_clear_15 : decode cX7_clear 15 = .ok (.iload_n 1, 1) := by decide +kernel
theorem dX7_clear_16 : decode cX7_clear 16 = .ok (.ireturn, 1) := by decide +kernel
theorem dX7_say_0 : decode cX7_say 0 = .ok (.aload_n 0, 1) := by decide +kernel
theorem dX7_say_1 : decode cX7_say 1 = .ok (.getfield 329, 3) := by decide +kernel
theorem dX7_say_4 : decode cX7_say 4 = .ok (.sipush 400, 3) := by decide +kernel
theorem dX7_say_7 : decode cX7_say 7 = .ok (.if_icmp .ge 14, 3) := by decide +kernel
theorem dX7_say_10 : decode cX7_say 10 = .ok (.aload_n 0, 1) := by decide +kernel
theorem dX7_say_11 : decode cX7_say 11 = .ok (.getfield 94, 3) := by decide +kernel
theorem dX7_say_14 : decode cX7_say 14 = .ok (.aload_n 0, 1) := by decide +kernel
theorem dX7_say_15 : decode cX7_say 15 = .ok (.getfield 329, 3) := by decide +kernel
theorem dX7_say_18 : decode cX7_say 18 = .ok (.iload_n 1, 1) := by decide +kernel
theorem dX7_say_19 : decode cX7_say 19 = .ok (.i2b, 1) := by decide +kernel
theorem dX7_say_20 : decode cX7_say 20 = .ok (.bastore, 1) := by decide +kernel
theorem dX7_say_21 : decode cX7_say 21 = .ok (.aload_n 0, 1) := by decide +kernel
theorem dX7_say_22 : decode cX7_say 22 = .ok (.dup, 1) := by decide +kernel
theorem dX7_say_23 : decode cX7_say 23 = .ok (.getfield 329, 3) := by decide +kernel
theorem dX7_say_26 : decode cX7_say 26 = .ok (.iconst 1, 1) := by decide +kernel
theorem dX7_say_27 : decode cX7_say 27 = .ok (.iadd, 1) := by decide +kernel
theorem dX7_say_28 : decode cX7_say 28 = .ok (.putfield 329, 3) := by decide +kernel
theorem dX7_say_31 : decode cX7_say 31 = .ok (.return_, 1) := by decide +kernel
theorem dX7_sayNumber_0 : decode cX7_sayNumber 0 = .ok (.iload_n 1, 1) := by decide +kernel
theorem dX7_sayNumber_1 : decode cX7_sayNumber 1 = .ok (.ifCond .ge 8, 3) := by decide +kernel
theorem dX7_sayNumber_4 : decode cX7_sayNumber 4 = .ok (.iload_n 1, 1) := by decide +kernel
theorem dX7_sayNumber_5 : decode cX7_sayNumber 5 = .ok (.ineg, 1) := by decide +kernel
theorem dX7_sayNumber_6 : decode cX7_sayNumber 6 = .ok (.goto 4, 3) := by decide +kernel
theorem dX7_sayNumber_9 : decode cX7_sayNumber 9 = .ok (.iload_n 1, 1) := by decide +kernel
theorem dX7_sayNumber_10 : decode cX7_sayNumber 10 = .ok (.istore_n 2, 1) := by decide +kernel
theorem dX7_sayNumber_11 : decode cX7_sayNumber 11 = .ok (.iload_n 1, 1) := by decide +kernel
theorem dX7_sayNumber_12 : decode cX7_sayNumber 12 = .ok (.ifCond .ge 9, 3) := by decide +kernel
theorem dX7_sayNumber_15 : decode cX7_sayNumber 15 = .ok (.aload_n 0, 1) := by decide +kernel
theorem dX7_sayNumber_16 : decode cX7_sayNumber 16 = .ok (.bipush 45, 2) := by decide +kernel
theorem dX7_sayNumber_18 : decode cX7_sayNumber 18 = .ok (.invokevirtual 332, 3) := by decide +kernel
theorem dX7_sayNumber_21 : decode cX7_sayNumber 21 = .ok (.iconst 1, 1) := by decide +kernel
theorem dX7_sayNumber_22 : decode cX7_sayNumber 22 = .ok (.istore_n 3, 1) := by decide +kernel
theorem dX7_sayNumber_23 : decode cX7_sayNumber 23 = .ok (.iload_n 2, 1) := by decide +kernel
theorem dX7_sayNumber_24 : decode cX7_sayNumber 24 = .ok (.iload_n 3, 1) := by decide +kernel
theorem dX7_sayNumber_25 : decode cX7_sayNumber 25 = .ok (.idiv, 1) := by decide +kernel
theorem dX7_sayNumber_26 : decode cX7_sayNumber 26 = .ok (.bipush 10, 2) := by decide +kernel
theorem dX7_sayNumber_28 : decode cX7_sayNumber 28 = .ok (.if_icmp .lt 11, 3) := by decide +kernel
theorem dX7_sayNumber_31 : decode cX7_sayNumber 31 = .ok (.iload_n 3, 1) := by decide +kernel
theorem dX7_sayNumber_32 : decode cX7_sayNumber 32 = .ok (.bipush 10, 2) := by decide +kernel
theorem dX7_sayNumber_34 : decode cX7_sayNumber 34 = .ok (.imul, 1) := by decide +kernel
theorem dX7_sayNumber_35 : decode cX7_sayNumber 35 = .ok (.istore_n 3, 1) := by decide +kernel
theorem dX7_sayNumber_36 : decode cX7_sayNumber 36 = .ok (.goto (-13), 3) := by decide +kernel
theorem dX7_sayNumber_39 : decode cX7_sayNumber 39 = .ok (.iload_n 3, 1) := by decide +kernel
theorem dX7_sayNumber_40 : decode cX7_sayNumber 40 = .ok (.ifCond .le 24, 3) := by decide +kernel
theorem dX7_sayNumber_43 : decode cX7_sayNumber 43 = .ok (.aload_n 0, 1) := by decide +kernel
theorem dX7_sayNumber_44 : decode cX7_sayNumber 44 = .ok (.bipush 48, 2) := by decide +kernel
theorem dX7_sayNumber_46 : decode cX7_sayNumber 46 = .ok (.iload_n 2, 1) := by decide +kernel
theorem dX7_sayNumber_47 : decode cX7_sayNumber 47 = .ok (.iload_n 3, 1) := by decide +kernel
theorem dX7_sayNumber_48 : decode cX7_sayNumber 48 = .ok (.idiv, 1) := by decide +kernel
theorem dX7_sayNumber_49 : decode cX7_sayNumber 49 = .ok (.bipush 10, 2) := by decide +kernel
theorem dX7_sayNumber_51 : decode cX7_sayNumber 51 = .ok (.irem, 1) := by decide +kernel
theorem dX7_sayNumber_52 : decode cX7_sayNumber 52 = .ok (.iadd, 1) := by decide +kernel
theorem dX7_sayNumber_53 : decode cX7_sayNumber 53 = .ok (.invokevirtual 332, 3) := by decide +kernel
theorem dX7_sayNumber_56 : decode cX7_sayNumber 56 = .ok (.iload_n 3, 1) := by decide +kernel
theorem dX7_sayNumber_57 : decode cX7_sayNumber 57 = .ok (.bipush 10, 2) := by decide +kernel
theorem dX7_sayNumber_59 : decode cX7_sayNumber 59 = .ok (.idiv, 1) := by decide +kernel
theorem dX7_sayNumber_60 : decode cX7_sayNumber 60 = .ok (.istore_n 3, 1) := by decide +kernel
theorem dX7_sayNumber_61 : decode cX7_sayNumber 61 = .ok (.goto (-22), 3) := by decide +kernel
theorem dX7_sayNumber_64 : decode cX7_sayNumber 64 = .ok (.return_, 1) := by decide +kernel
theorem dX7_sayVariable_0 : decode cX7_sayVariable 0 = .ok (.aload_n 0, 1) := by decide +kernel
theorem dX7_sayVariable_1 : decode cX7_sayVariable 1 = .ok (.bipush 118, 2) := by decide +kernel
theorem dX7_sayVariable_3 : decode cX7_sayVariable 3 = .ok (.invokevirtual 332, 3) := by decide +kernel
theorem dX7_sayVariable_6 : decode cX7_sayVariable 6 = .ok (.aload_n 0, 1) := by decide +kernel
theorem dX7_sayVariable_7 : decode cX7_sayVariable 7 = .ok (.iload_n 1, 1) := by decide +kernel
theorem dX7_sayVariable_8 : decode cX7_sayVariable 8 = .ok (.invokevirtual 335, 3) := by decide +kernel
theorem dX7_sayVariable_11 : decode cX7_sayVariable 11 = .ok (.return_, 1) := by decide +kernel
theorem dX7_sayExpr_0 : decode cX7_sayExpr 0 = .ok (.aload_n 0, 1) := by decide +kernel
theorem dX7_sayExpr_1 : decode cX7_sayExpr 1 = .ok (.iload_n 1, 1) := by decide +kernel
theorem dX7_sayExpr_2 : decode cX7_sayExpr 2 = .ok (.iconst 0, 1) := by decide +kernel
theorem dX7_sayExpr_3 : decode cX7_sayExpr 3 = .ok (.invokevirtual 219, 3) := by decide +kernel
theorem dX7_sayExpr_6 : decode cX7_sayExpr 6 = .ok (.istore_n 2, 1) := by decide +kernel
theorem dX7_sayExpr_7 : decode cX7_sayExpr 7 = .ok (.iload_n 2, 1) := by decide +kernel
theorem dX7_sayExpr_8 : decode cX7_sayExpr 8 = .ok (.ifCond .ne 16, 3) := by decide +kernel
theorem dX7_sayExpr_11 : decode cX7_sayExpr 11 = .ok (.aload_n 0, 1) := by decide +kernel
theorem dX7_sayExpr_12 : decode cX7_sayExpr 12 = .ok (.aload_n 0, 1) := by decide +kernel
theorem dX7_sayExpr_13 : decode cX7_sayExpr 13 = .ok (.iload_n 1, 1) := by decide +kernel
theorem dX7_sayExpr_14 : decode cX7_sayExpr 14 = .ok (.iconst 1, 1) := by decide +kernel
theorem dX7_sayExpr_15 : decode cX7_sayExpr 15 = .ok (.invokevirtual 219, 3) := by decide +kernel
theorem dX7_sayExpr_18 : decode cX7_sayExpr 18 = .ok (.invokevirtual 338, 3) := by decide +kernel
theorem dX7_sayExpr_21 : decode cX7_sayExpr 21 = .ok (.goto 79, 3) := by decide +kernel
theorem dX7_sayExpr_24 : decode cX7_sayExpr 24 = .ok (.iload_n 2, 1) := by decide +kernel
theorem dX7_sayExpr_25 : decode cX7_sayExpr 25 = .ok (.iconst 1, 1) := by decide +kernel
theorem dX7_sayExpr_26 : decode cX7_sayExpr 26 = .ok (.if_icmp .ne 16, 3) := by decide +kernel
theorem dX7_sayExpr_29 : decode cX7_sayExpr 29 = .ok (.aload_n 0, 1) := by decide +kernel
theorem dX7_sayExpr_30 : decode cX7_sayExpr 30 = .ok (.aload_n 0, 1) := by decide +kernel
theorem dX7_sayExpr_31 : decode cX7_sayExpr 31 = .ok (.iload_n 1, 1) := by decide +kernel
theorem dX7_sayExpr_32 : decode cX7_sayExpr 32 = .ok (.iconst 1, 1) := by decide +kernel
theorem dX7_sayExpr_33 : decode cX7_sayExpr 33 = .ok (.invokevirtual 219, 3) := by decide +kernel
theorem dX7_sayExpr_36 : decode cX7_sayExpr 36 = .ok (.invokevirtual 335, 3) := by decide +kernel
theorem dX7_sayExpr_39 : decode cX7_sayExpr 39 = .ok (.goto 61, 3) := by decide +kernel
theorem dX7_sayExpr_42 : decode cX7_sayExpr 42 = .ok (.iload_n 2, 1) := by decide +kernel
theorem dX7_sayExpr_43 : decode cX7_sayExpr 43 = .ok (.iconst 2, 1) := by decide +kernel
theorem dX7_sayExpr_44 : decode cX7_sayExpr 44 = .ok (.if_icmp .ne 38, 3) := by decide +kernel
theorem dX7_sayExpr_47 : decode cX7_sayExpr 47 = .ok (.aload_n 0, 1) := by decide +kernel
theorem dX7_sayExpr_48 : decode cX7_sayExpr 48 = .ok (.bipush 92, 2) := by decide +kernel
theorem dX7_sayExpr_50 : decode cX7_sayExpr 50 = .ok (.invokevirtual 332, 3) := by decide +kernel
theorem dX7_sayExpr_53 : decode cX7_sayExpr 53 = .ok (.aload_n 0, 1) := by decide +kernel
theorem dX7_sayExpr_54 : decode cX7_sayExpr 54 = .ok (.aload_n 0, 1) := by decide +kernel
theorem dX7_sayExpr_55 : decode cX7_sayExpr 55 = .ok (.iload_n 1, 1) := by decide +kernel
theorem dX7_sayExpr_56 : decode cX7_sayExpr 56 = .ok (.iconst 1, 1) := by decide +kernel
theorem dX7_sayExpr_57 : decode cX7_sayExpr 57 = .ok (.invokevirtual 219, 3) := by decide +kernel
theorem dX7_sayExpr_60 : decode cX7_sayExpr 60 = .ok (.invokevirtual 338, 3) := by decide +kernel
theorem dX7_sayExpr_63 : decode cX7_sayExpr 63 = .ok (.aload_n 0, 1) := by decide +kernel
theorem dX7_sayExpr_64 : decode cX7_sayExpr 64 = .ok (.bipush 46, 2) := by decide +kernel
theorem dX7_sayExpr_66 : decode cX7_sayExpr 66 = .ok (.invokevirtual 332, 3) := by decide +kernel
theorem dX7_sayExpr_69 : decode cX7_sayExpr 69 = .ok (.aload_n 0, 1) := by decide +kernel
theorem dX7_sayExpr_70 : decode cX7_sayExpr 70 = .ok (.aload_n 0, 1) := by decide +kernel
theorem dX7_sayExpr_71 : decode cX7_sayExpr 71 = .ok (.iload_n 1, 1) := by decide +kernel
theorem dX7_sayExpr_72 : decode cX7_sayExpr 72 = .ok (.iconst 3, 1) := by decide +kernel
theorem dX7_sayExpr_73 : decode cX7_sayExpr 73 = .ok (.invokevirtual 219, 3) := by decide +kernel
theorem dX7_sayExpr_76 : decode cX7_sayExpr 76 = .ok (.invokevirtual 341, 3) := by decide +kernel
theorem dX7_sayExpr_79 : decode cX7_sayExpr 79 = .ok (.goto 21, 3) := by decide +kernel
theorem dX7_sayExpr_82 : decode cX7_sayExpr 82 = .ok (.aload_n 0, 1) := by decide +kernel
theorem dX7_sayExpr_83 : decode cX7_sayExpr 83 = .ok (.bipush 40, 2) := by decide +kernel
theorem dX7_sayExpr_85 : decode cX7_sayExpr 85 = .ok (.invokevirtual 332, 3) := by decide +kernel
theorem dX7_sayExpr_88 : decode cX7_sayExpr 88 = .ok (.aload_n 0, 1) := by decide +kernel
theorem dX7_sayExpr_89 : decode cX7_sayExpr 89 = .ok (.iload_n 1, 1) := by decide +kernel
theorem dX7_sayExpr_90 : decode cX7_sayExpr 90 = .ok (.iload_n 2, 1) := by decide +kernel
theorem dX7_sayExpr_91 : decode cX7_sayExpr 91 = .ok (.invokevirtual 344, 3) := by decide +kernel
theorem dX7_sayExpr_94 : decode cX7_sayExpr 94 = .ok (.aload_n 0, 1) := by decide +kernel
theorem dX7_sayExpr_95 : decode cX7_sayExpr 95 = .ok (.bipush 41, 2) := by decide +kernel
theorem dX7_sayExpr_97 : decode cX7_sayExpr 97 = .ok (.invokevirtual 332, 3) := by decide +kernel
theorem dX7_sayExpr_100 : decode cX7_sayExpr 100 = .ok (.return_, 1) := by decide +kernel
theorem dX7_sayWord_0 : decode cX7_sayWord 0 = .ok (.iconst 0, 1) := by decide +kernel
theorem dX7_sayWord_1 : decode cX7_sayWord 1 = .ok (.istore_n 2, 1) := by decide +kernel
theorem dX7_sayWord_2 : decode cX7_sayWord 2 = .ok (.iload_n 2, 1) := by decide +kernel
theorem dX7_sayWord_3 : decode cX7_sayWord 3 = .ok (.aload_n 1, 1) := by decide +kernel
theorem dX7_sayWord_4 : decode cX7_sayWord 4 = .ok (.invokevirtual 136, 3) := by decide +kernel
theorem dX7_sayWord_7 : decode cX7_sayWord 7 = .ok (.if_icmp .ge 18, 3) := by decide +kernel
theorem dX7_sayWord_10 : decode cX7_sayWord 10 = .ok (.aload_n 0, 1) := by decide +kernel
theorem dX7_sayWord_11 : decode cX7_sayWord 11 = .ok (.aload_n 1, 1) := by decide +kernel
theorem dX7_sayWord_12 : decode cX7_sayWord 12 = .ok (.iload_n 2, 1) := by decide +kernel
theorem dX7_sayWord_13 : decode cX7_sayWord 13 = .ok (.invokevirtual 144, 3) := by decide +kernel
theorem dX7_sayWord_16 : decode cX7_sayWord 16 = .ok (.invokevirtual 332, 3) := by decide +kernel
theorem dX7_sayWord_19 : decode cX7_sayWord 19 = .ok (.iinc 2 1, 3) := by decide +kernel
theorem dX7_sayWord_22 : decode cX7_sayWord 22 = .ok (.goto (-20), 3) := by decide +kernel
theorem dX7_sayWord_25 : decode cX7_sayWord 25 = .ok (.return_, 1) := by decide +kernel
theorem dX7_sayForm_0 : decode cX7_sayForm 0 = .ok (.iload_n 2, 1) := by decide +kernel
theorem dX7_sayForm_1 : decode cX7_sayForm 1 = .ok (.iconst 4, 1) := by decide +kernel
theorem dX7_sayForm_2 : decode cX7_sayForm 2 = .ok (.if_icmp .ne 13, 3) := by decide +kernel
theorem dX7_sayForm_5 : decode cX7_sayForm 5 = .ok (.aload_n 0, 1) := by decide +kernel
theorem dX7_sayForm_6 : decode cX7_sayForm 6 = .ok (.ldc_w 347, 3) := by decide +kernel
theorem dX7_sayForm_9 : decode cX7_sayForm 9 = .ok (.invokevirtual 349, 3) := by decide +kernel
theorem dX7_sayForm_12 : decode cX7_sayForm 12 = .ok (.goto 110, 3) := by decide +kernel
theorem dX7_sayForm_15 : decode cX7_sayForm 15 = .ok (.iload_n 2, 1) := by decide +kernel
theorem dX7_sayForm_16 : decode cX7_sayForm 16 = .ok (.iconst 5, 1) := by decide +kernel
theorem dX7_sayForm_17 : decode cX7_sayForm 17 = .ok (.if_icmp .ne 29, 3) := by decide +kernel
theorem dX7_sayForm_20 : decode cX7_sayForm 20 = .ok (.aload_n 0, 1) := by decide +kernel
theorem dX7_sayForm_21 : decode cX7_sayForm 21 = .ok (.ldc_w 353, 3) := by decide +kernel
theorem dX7_sayForm_24 : decode cX7_sayForm 24 = .ok (.invokevirtual 349, 3) := by decide +kernel
theorem dX7_sayForm_27 : decode cX7_sayForm 27 = .ok (.aload_n 0, 1) := by decide +kernel
theorem dX7_sayForm_28 : decode cX7_sayForm 28 = .ok (.aload_n 0, 1) := by decide +kernel
theorem dX7_sayForm_29 : decode cX7_sayForm 29 = .ok (.iload_n 1, 1) := by decide +kernel
theorem dX7_sayForm_30 : decode cX7_sayForm 30 = .ok (.iconst 1, 1) := by decide +kernel
theorem dX7_sayForm_31 : decode cX7_sayForm 31 = .ok (.invokevirtual 219, 3) := by decide +kernel
theorem dX7_sayForm_34 : decode cX7_sayForm 34 = .ok (.invokevirtual 338, 3) := by decide +kernel
theorem dX7_sayForm_37 : decode cX7_sayForm 37 = .ok (.aload_n 0, 1) := by decide +kernel
theorem dX7_sayForm_38 : decode cX7_sayForm 38 = .ok (.bipush 32, 2) := by decide +kernel
theorem dX7_sayForm_40 : decode cX7_sayForm 40 = .ok (.invokevirtual 332, 3) := by decide +kernel
theorem dX7_sayForm_43 : decode cX7_sayForm 43 = .ok (.goto 79, 3) := by decide +kernel
theorem dX7_sayForm_46 : decode cX7_sayForm 46 = .ok (.iload_n 2, 1) := by decide +kernel
theorem dX7_sayForm_47 : decode cX7_sayForm 47 = .ok (.iconst 3, 1) := by decide +kernel
theorem dX7_sayForm_48 : decode cX7_sayForm 48 = .ok (.if_icmp .ne 45, 3) := by decide +kernel
theorem dX7_sayForm_51 : decode cX7_sayForm 51 = .ok (.aload_n 0, 1) := by decide +kernel
theorem dX7_sayForm_52 : decode cX7_sayForm 52 = .ok (.ldc_w 355, 3) := by decide +kernel
theorem dX7_sayForm_55 : decode cX7_sayForm 55 = .ok (.invokevirtual 349, 3) := by decide +kernel
theorem dX7_sayForm_58 : decode cX7_sayForm 58 = .ok (.aload_n 0, 1) := by decide +kernel
theorem dX7_sayForm_59 : decode cX7_sayForm 59 = .ok (.aload_n 0, 1) := by decide +kernel
theorem dX7_sayForm_60 : decode cX7_sayForm 60 = .ok (.iload_n 1, 1) := by decide +kernel
theorem dX7_sayForm_61 : decode cX7_sayForm 61 = .ok (.iconst 2, 1) := by decide +kernel
theorem dX7_sayForm_62 : decode cX7_sayForm 62 = .ok (.invokevirtual 219, 3) := by decide +kernel
theorem dX7_sayForm_65 : decode cX7_sayForm 65 = .ok (.invokevirtual 338, 3) := by decide +kernel
theorem dX7_sayForm_68 : decode cX7_sayForm 68 = .ok (.aload_n 0, 1) := by decide +kernel
theorem dX7_sayForm_69 : decode cX7_sayForm 69 = .ok (.bipush 32, 2) := by decide +kernel
theorem dX7_sayForm_71 : decode cX7_sayForm 71 = .ok (.invokevirtual 332, 3) := by decide +kernel
theorem dX7_sayForm_74 : decode cX7_sayForm 74 = .ok (.aload_n 0, 1) := by decide +kernel
theorem dX7_sayForm_75 : decode cX7_sayForm 75 = .ok (.aload_n 0, 1) := by decide +kernel
theorem dX7_sayForm_76 : decode cX7_sayForm 76 = .ok (.iload_n 1, 1) := by decide +kernel
theorem dX7_sayForm_77 : decode cX7_sayForm 77 = .ok (.iconst 1, 1) := by decide +kernel
theorem dX7_sayForm_78 : decode cX7_sayForm 78 = .ok (.invokevirtual 219, 3) := by decide +kernel
theorem dX7_sayForm_81 : decode cX7_sayForm 81 = .ok (.invokevirtual 338, 3) := by decide +kernel
theorem dX7_sayForm_84 : decode cX7_sayForm 84 = .ok (.aload_n 0, 1) := by decide +kernel
theorem dX7_sayForm_85 : decode cX7_sayForm 85 = .ok (.bipush 32, 2) := by decide +kernel
theorem dX7_sayForm_87 : decode cX7_sayForm 87 = .ok (.invokevirtual 332, 3) := by decide +kernel
theorem dX7_sayForm_90 : decode cX7_sayForm 90 = .ok (.goto 32, 3) := by decide +kernel
theorem dX7_sayForm_93 : decode cX7_sayForm 93 = .ok (.iload_n 2, 1) := by decide +kernel
theorem dX7_sayForm_94 : decode cX7_sayForm 94 = .ok (.bipush 11, 2) := by decide +kernel
theorem dX7_sayForm_96 : decode cX7_sayForm 96 = .ok (.if_icmp .ge 26, 3) := by decide +kernel
theorem dX7_sayForm_99 : decode cX7_sayForm 99 = .ok (.aload_n 0, 1) := by decide +kernel
theorem dX7_sayForm_100 : decode cX7_sayForm 100 = .ok (.ldc_w 357, 3) := by decide +kernel
theorem dX7_sayForm_103 : decode cX7_sayForm 103 = .ok (.iload_n 2, 1) := by decide +kernel
theorem dX7_sayForm_104 : decode cX7_sayForm 104 = .ok (.bipush 6, 2) := by decide +kernel
theorem dX7_sayForm_106 : decode cX7_sayForm 106 = .ok (.isub, 1) := by decide +kernel
theorem dX7_sayForm_107 : decode cX7_sayForm 107 = .ok (.iload_n 2, 1) := by decide +kernel
theorem dX7_sayForm_108 : decode cX7_sayForm 108 = .ok (.iconst 5, 1) := by decide +kernel
theorem dX7_sayForm_109 : decode cX7_sayForm 109 = .ok (.isub, 1) := by decide +kernel
theorem dX7_sayForm_110 : decode cX7_sayForm 110 = .ok (.invokevirtual 359, 3) := by decide +kernel
theorem dX7_sayForm_113 : decode cX7_sayForm 113 = .ok (.invokevirtual 349, 3) := by decide +kernel
theorem dX7_sayForm_116 : decode cX7_sayForm 116 = .ok (.aload_n 0, 1) := by decide +kernel
theorem dX7_sayForm_117 : decode cX7_sayForm 117 = .ok (.bipush 32, 2) := by decide +kernel
theorem dX7_sayForm_119 : decode cX7_sayForm 119 = .ok (.invokevirtual 332, 3) := by decide +kernel
theorem dX7_sayForm_122 : decode cX7_sayForm 122 = .ok (.iconst 3, 1) := by decide +kernel
theorem dX7_sayForm_123 : decode cX7_sayForm 123 = .ok (.istore_n 3, 1) := by decide +kernel
theorem dX7_sayForm_124 : decode cX7_sayForm 124 = .ok (.iload_n 3, 1) := by decide +kernel
theorem dX7_sayForm_125 : decode cX7_sayForm 125 = .ok (.bipush 6, 2) := by decide +kernel
theorem dX7_sayForm_127 : decode cX7_sayForm 127 = .ok (.if_icmp .ge 40, 3) := by decide +kernel
theorem dX7_sayForm_130 : decode cX7_sayForm 130 = .ok (.aload_n 0, 1) := by decide +kernel
theorem dX7_sayForm_131 : decode cX7_sayForm 131 = .ok (.iload_n 1, 1) := by decide +kernel
theorem dX7_sayForm_132 : decode cX7_sayForm 132 = .ok (.iload_n 3, 1) := by decide +kernel
theorem dX7_sayForm_133 : decode cX7_sayForm 133 = .ok (.invokevirtual 219, 3) := by decide +kernel
theorem dX7_sayForm_136 : decode cX7_sayForm 136 = .ok (.iconst (-1), 1) := by decide +kernel
theorem dX7_sayForm_137 : decode cX7_sayForm 137 = .ok (.if_icmp .eq 24, 3) := by decide +kernel
theorem dX7_sayForm_140 : decode cX7_sayForm 140 = .ok (.iload_n 3, 1) := by decide +kernel
theorem dX7_sayForm_141 : decode cX7_sayForm 141 = .ok (.iconst 3, 1) := by decide +kernel
theorem dX7_sayForm_142 : decode cX7_sayForm 142 = .ok (.if_icmp .le 9, 3) := by decide +kernel
theorem dX7_sayForm_145 : decode cX7_sayForm 145 = .ok (.aload_n 0, 1) := by decide +kernel
theorem dX7_sayForm_146 : decode cX7_sayForm 146 = .ok (.bipush 32, 2) := by decide +kernel
theorem dX7_sayForm_148 : decode cX7_sayForm 148 = .ok (.invokevirtual 332, 3) := by decide +kernel
theorem dX7_sayForm_151 : decode cX7_sayForm 151 = .ok (.aload_n 0, 1) := by decide +kernel
theorem dX7_sayForm_152 : decode cX7_sayForm 152 = .ok (.aload_n 0, 1) := by decide +kernel
theorem dX7_sayForm_153 : decode cX7_sayForm 153 = .ok (.iload_n 1, 1) := by decide +kernel
theorem dX7_sayForm_154 : decode cX7_sayForm 154 = .ok (.iload_n 3, 1) := by decide +kernel
theorem dX7_sayForm_155 : decode cX7_sayForm 155 = .ok (.invokevirtual 219, 3) := by decide +kernel
theorem dX7_sayForm_158 : decode cX7_sayForm 158 = .ok (.invokevirtual 341, 3) := by decide +kernel
theorem dX7_sayForm_161 : decode cX7_sayForm 161 = .ok (.iinc 3 1, 3) := by decide +kernel
theorem dX7_sayForm_164 : decode cX7_sayForm 164 = .ok (.goto (-40), 3) := by decide +kernel
theorem dX7_sayForm_167 : decode cX7_sayForm 167 = .ok (.return_, 1) := by decide +kernel
theorem dX7_write_0 : decode cX7_write 0 = .ok (.aload_n 0, 1) := by decide +kernel
theorem dX7_write_1 : decode cX7_write 1 = .ok (.iconst 0, 1) := by decide +kernel
theorem dX7_write_2 : decode cX7_write 2 = .ok (.putfield 97, 3) := by decide +kernel
theorem dX7_write_5 : decode cX7_write 5 = .ok (.aload_n 0, 1) := by decide +kernel
theorem dX7_write_6 : decode cX7_write 6 = .ok (.getfield 203, 3) := by decide +kernel
theorem dX7_write_9 : decode cX7_write 9 = .ok (.ifCond .ne 6, 3) := by decide +kernel
theorem dX7_write_12 : decode cX7_write 12 = .ok (.bipush (-2), 2) := by decide +kernel
theorem dX7_write_14 : decode cX7_write 14 = .ok (.ireturn, 1) := by decide +kernel
theorem dX7_write_15 : decode cX7_write 15 = .ok (.aload_n 0, 1) := by decide +kernel
theorem dX7_write_16 : decode cX7_write 16 = .ok (.iconst 0, 1) := by decide +kernel
theorem dX7_write_17 : decode cX7_write 17 = .ok (.putfield 329, 3) := by decide +kernel
theorem dX7_write_20 : decode cX7_write 20 = .ok (.aload_n 0, 1) := by decide +kernel
theorem dX7_write_21 : decode cX7_write 21 = .ok (.iconst 0, 1) := by decide +kernel
theorem dX7_write_22 : decode cX7_write 22 = .ok (.invokevirtual 341, 3) := by decide +kernel
theorem dX7_write_25 : decode cX7_write 25 = .ok (.aload_n 0, 1) := by decide +kernel
theorem dX7_write_26 : decode cX7_write 26 = .ok (.getfield 329, 3) := by decide +kernel
theorem dX7_write_29 : decode cX7_write 29 = .ok (.sipush 400, 3) := by decide +kernel
theorem dX7_write_32 : decode cX7_write 32 = .ok (.if_icmp .le 5, 3) := by decide +kernel
theorem dX7_write_35 : decode cX7_write 35 = .ok (.iconst (-1), 1) := by decide +kernel
theorem dX7_write_36 : decode cX7_write 36 = .ok (.ireturn, 1) := by decide +kernel
theorem dX7_write_37 : decode cX7_write 37 = .ok (.iconst 0, 1) := by decide +kernel
theorem dX7_write_38 : decode cX7_write 38 = .ok (.istore_n 1, 1) := by decide +kernel
theorem dX7_write_39 : decode cX7_write 39 = .ok (.iload_n 1, 1) := by decide +kernel
theorem dX7_write_40 : decode cX7_write 40 = .ok (.aload_n 0, 1) := by decide +kernel
theorem dX7_write_41 : decode cX7_write 41 = .ok (.getfield 329, 3) := by decide +kernel
theorem dX7_write_44 : decode cX7_write 44 = .ok (.if_icmp .ge 21, 3) := by decide +kernel
theorem dX7_write_47 : decode cX7_write 47 = .ok (.aload_n 0, 1) := by decide +kernel
theorem dX7_write_48 : decode cX7_write 48 = .ok (.getfield 7, 3) := by decide +kernel
theorem dX7_write_51 : decode cX7_write 51 = .ok (.iload_n 1, 1) := by decide +kernel
theorem dX7_write_52 : decode cX7_write 52 = .ok (.aload_n 0, 1) := by decide +kernel
theorem dX7_write_53 : decode cX7_write 53 = .ok (.getfield 94, 3) := by decide +kernel
theorem dX7_write_56 : decode cX7_write 56 = .ok (.iload_n 1, 1) := by decide +kernel
theorem dX7_write_57 : decode cX7_write 57 = .ok (.baload, 1) := by decide +kernel
theorem dX7_write_58 : decode cX7_write 58 = .ok (.bastore, 1) := by decide +kernel
theorem dX7_write_59 : decode cX7_write 59 = .ok (.iinc 1 1, 3) := by decide +kernel
theorem dX7_write_62 : decode cX7_write 62 = .ok (.goto (-23), 3) := by decide +kernel
theorem dX7_write_65 : decode cX7_write 65 = .ok (.aload_n 0, 1) := by decide +kernel
theorem dX7_write_66 : decode cX7_write 66 = .ok (.aload_n 0, 1) := by decide +kernel
theorem dX7_write_67 : decode cX7_write 67 = .ok (.getfield 329, 3) := by decide +kernel
theorem dX7_write_70 : decode cX7_write 70 = .ok (.putfield 115, 3) := by decide +kernel
theorem dX7_write_73 : decode cX7_write 73 = .ok (.aload_n 0, 1) := by decide +kernel
theorem dX7_write_74 : decode cX7_write 74 = .ok (.getfield 115, 3) := by decide +kernel
theorem dX7_write_77 : decode cX7_write 77 = .ok (.ireturn, 1) := by decide +kernel
theorem dX7_out_0 : decode cX7_out 0 = .ok (.aload_n 0, 1) := by decide +kernel
theorem dX7_out_1 : decode cX7_out 1 = .ok (.iconst 0, 1) := by decide +kernel
theorem dX7_out_2 : decode cX7_out 2 = .ok (.putfield 97, 3) := by decide +kernel
theorem dX7_out_5 : decode cX7_out 5 = .ok (.lconst 0, 1) := by decide +kernel
theorem dX7_out_6 : decode cX7_out 6 = .ok (.lstore_n 2, 1) := by decide +kernel
theorem dX7_out_7 : decode cX7_out 7 = .ok (.iconst 0, 1) := by decide +kernel
theorem dX7_out_8 : decode cX7_out 8 = .ok (.istore 4, 2) := by decide +kernel
theorem dX7_out_10 : decode cX7_out 10 = .ok (.iload 4, 2) := by decide +kernel
theorem dX7_out_12 : decode cX7_out 12 = .ok (.bipush 8, 2) := by decide +kernel
theorem dX7_out_14 : decode cX7_out 14 = .ok (.if_icmp .ge 61, 3) := by decide +kernel
theorem dX7_out_17 : decode cX7_out 17 = .ok (.iload_n 1, 1) := by decide +kernel
theorem dX7_out_18 : decode cX7_out 18 = .ok (.i2l, 1) := by decide +kernel
theorem dX7_out_19 : decode cX7_out 19 = .ok (.iload 4, 2) := by decide +kernel
theorem dX7_out_21 : decode cX7_out 21 = .ok (.i2l, 1) := by decide +kernel
theorem dX7_out_22 : decode cX7_out 22 = .ok (.ladd, 1) := by decide +kernel
theorem dX7_out_23 : decode cX7_out 23 = .ok (.lstore 5, 2) := by decide +kernel
theorem dX7_out_25 : decode cX7_out 25 = .ok (.lload_n 2, 1) := by decide +kernel
theorem dX7_out_26 : decode cX7_out 26 = .ok (.lload 5, 2) := by decide +kernel
theorem dX7_out_28 : decode cX7_out 28 = .ok (.lconst 0, 1) := by decide +kernel
theorem dX7_out_29 : decode cX7_out 29 = .ok (.lcmp, 1) := by decide +kernel
theorem dX7_out_30 : decode cX7_out 30 = .ok (.ifCond .lt 36, 3) := by decide +kernel
theorem dX7_out_33 : decode cX7_out 33 = .ok (.lload 5, 2) := by decide +kernel
theorem dX7_out_35 : decode cX7_out 35 = .ok (.aload_n 0, 1) := by decide +kernel
theorem dX7_out_36 : decode cX7_out 36 = .ok (.getfield 115, 3) := by decide +kernel
theorem dX7_out_39 : decode cX7_out 39 = .ok (.i2l, 1) := by decide +kernel
theorem dX7_out_40 : decode cX7_out 40 = .ok (.lcmp, 1) := by decide +kernel
theorem dX7_out_41 : decode cX7_out 41 = .ok (.ifCond .ge 25, 3) := by decide +kernel
theorem dX7_out_44 : decode cX7_out 44 = .ok (.aload_n 0, 1) := by decide +kernel
theorem dX7_out_45 : decode cX7_out 45 = .ok (.getfield 7, 3) := by decide +kernel
theorem dX7_out_48 : decode cX7_out 48 = .ok (.lload 5, 2) := by decide +kernel
theorem dX7_out_50 : decode cX7_out 50 = .ok (.l2i, 1) := by decide +kernel
theorem dX7_out_51 : decode cX7_out 51 = .ok (.baload, 1) := by decide +kernel
theorem dX7_out_52 : decode cX7_out 52 = .ok (.i2l, 1) := by decide +kernel
theorem dX7_out_53 : decode cX7_out 53 = .ok (.ldc2_w 363, 3) := by decide +kernel
theorem dX7_out_56 : decode cX7_out 56 = .ok (.land, 1) := by decide +kernel
theorem dX7_out_57 : decode cX7_out 57 = .ok (.bipush 8, 2) := by decide +kernel
theorem dX7_out_59 : decode cX7_out 59 = .ok (.iload 4, 2) := by decide +kernel
theorem dX7_out_61 : decode cX7_out 61 = .ok (.imul, 1) := by decide +kernel
theorem dX7_out_62 : decode cX7_out 62 = .ok (.lshl, 1) := by decide +kernel
theorem dX7_out_63 : decode cX7_out 63 = .ok (.goto 4, 3) := by decide +kernel
theorem dX7_out_66 : decode cX7_out 66 = .ok (.lconst 0, 1) := by decide +kernel
theorem dX7_out_67 : decode cX7_out 67 = .ok (.lor, 1) := by decide +kernel
theorem dX7_out_68 : decode cX7_out 68 = .ok (.lstore_n 2, 1) := by decide +kernel
theorem dX7_out_69 : decode cX7_out 69 = .ok (.iinc 4 1, 3) := by decide +kernel
theorem dX7_out_72 : decode cX7_out 72 = .ok (.goto (-62), 3) := by decide +kernel
theorem dX7_out_75 : decode cX7_out 75 = .ok (.lload_n 2, 1) := by decide +kernel
theorem dX7_out_76 : decode cX7_out 76 = .ok (.lreturn, 1) := by decide +kernel
