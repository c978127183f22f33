theorem dX7_findFlows_1 : decode cX7_findFlows 1 = .ok (.istore_n 1, 1) := by decide +kernel
theorem dX7_findFlows_2 : decode cX7_findFlows 2 = .ok (.iload_n 1, 1) := by decide +kernel
theorem dX7_findFlows_3 : decode cX7_findFlows 3 = .ok (.sipush 200, 3) := by decide +kernel
theorem dX7_findFlows_6 : decode cX7_findFlows 6 = .ok (.if_icmp .ge 16, 3) := by decide +kernel
theorem dX7_findFlows_9 : decode cX7_findFlows 9 = .ok (.aload_n 0, 1) := by decide +kernel
theorem dX7_findFlows_10 : decode cX7_findFlows 10 = .ok (.getfield 35, 3) := by decide +kernel
theorem dX7_findFlows_13 : decode cX7_findFlows 13 = .ok (.iload_n 1, 1) := by decide +kernel
theorem dX7_findFlows_14 : decode cX7_findFlows 14 = .ok (.lconst 0, 1) := by decide +kernel
theorem dX7_findFlows_15 : decode cX7_findFlows 15 = .ok (.lastore, 1) := by decide +kernel
theorem dX7_findFlows_16 : decode cX7_findFlows 16 = .ok (.iinc 1 1, 3) := by decide +kernel
theorem dX7_findFlows_19 : decode cX7_findFlows 19 = .ok (.goto (-17), 3) := by decide +kernel
theorem dX7_findFlows_22 : decode cX7_findFlows 22 = .ok (.iconst 0, 1) := by decide +kernel
theorem dX7_findFlows_23 : decode cX7_findFlows 23 = .ok (.istore_n 1, 1) := by decide +kernel
theorem dX7_findFlows_24 : decode cX7_findFlows 24 = .ok (.iload_n 1, 1) := by decide +kernel
theorem dX7_findFlows_25 : decode cX7_findFlows 25 = .ok (.bipush 100, 2) := by decide +kernel
theorem dX7_findFlows_27 : decode cX7_findFlows 27 = .ok (.if_icmp .ge 16, 3) := by decide +kernel
theorem dX7_findFlows_30 : decode cX7_findFlows 30 = .ok (.aload_n 0, 1) := by decide +kernel
theorem dX7_findFlows_31 : decode cX7_findFlows 31 = .ok (.getfield 39, 3) := by decide +kernel
theorem dX7_findFlows_34 : decode cX7_findFlows 34 = .ok (.iload_n 1, 1) := by decide +kernel
theorem dX7_findFlows_35 : decode cX7_findFlows 35 = .ok (.lconst 0, 1) := by decide +kernel
theorem dX7_findFlows_36 : decode cX7_findFlows 36 = .ok (.lastore, 1) := by decide +kernel
theorem dX7_findFlows_37 : decode cX7_findFlows 37 = .ok (.iinc 1 1, 3) := by decide +kernel
theorem dX7_findFlows_40 : decode cX7_findFlows 40 = .ok (.goto (-16), 3) := by decide +kernel
theorem dX7_findFlows_43 : decode cX7_findFlows 43 = .ok (.aload_n 0, 1) := by decide +kernel
theorem dX7_findFlows_44 : decode cX7_findFlows 44 = .ok (.iconst 1, 1) := by decide +kernel
theorem dX7_findFlows_45 : decode cX7_findFlows 45 = .ok (.putfield 225, 3) := by decide +kernel
theorem dX7_findFlows_48 : decode cX7_findFlows 48 = .ok (.aload_n 0, 1) := by decide +kernel
theorem dX7_findFlows_49 : decode cX7_findFlows 49 = .ok (.getfield 225, 3) := by decide +kernel
theorem dX7_findFlows_52 : decode cX7_findFlows 52 = .ok (.ifCond .eq 38, 3) := by decide +kernel
theorem dX7_findFlows_55 : decode cX7_findFlows 55 = .ok (.aload_n 0, 1) := by decide +kernel
theorem dX7_findFlows_56 : decode cX7_findFlows 56 = .ok (.iconst 0, 1) := by decide +kernel
theorem dX7_findFlows_57 : decode cX7_findFlows 57 = .ok (.putfield 225, 3) := by decide +kernel
theorem dX7_findFlows_60 : decode cX7_findFlows 60 = .ok (.aload_n 0, 1) := by decide +kernel
theorem dX7_findFlows_61 : decode cX7_findFlows 61 = .ok (.getfield 13, 3) := by decide +kernel
theorem dX7_findFlows_64 : decode cX7_findFlows 64 = .ok (.aload_n 0, 1) := by decide +kernel
theorem dX7_findFlows_65 : decode cX7_findFlows 65 = .ok (.getfield 101, 3) := by decide +kernel
theorem dX7_findFlows_68 : decode cX7_findFlows 68 = .ok (.iaload, 1) := by decide +kernel
theorem dX7_findFlows_69 : decode cX7_findFlows 69 = .ok (.iconst 1, 1) := by decide +kernel
theorem dX7_findFlows_70 : decode cX7_findFlows 70 = .ok (.isub, 1) := by decide +kernel
theorem dX7_findFlows_71 : decode cX7_findFlows 71 = .ok (.istore_n 1, 1) := by decide +kernel
theorem dX7_findFlows_72 : decode cX7_findFlows 72 = .ok (.iload_n 1, 1) := by decide +kernel
theorem dX7_findFlows_73 : decode cX7_findFlows 73 = .ok (.ifCond .lt 14, 3) := by decide +kernel
theorem dX7_findFlows_76 : decode cX7_findFlows 76 = .ok (.aload_n 0, 1) := by decide +kernel
theorem dX7_findFlows_77 : decode cX7_findFlows 77 = .ok (.iload_n 1, 1) := by decide +kernel
theorem dX7_findFlows_78 : decode cX7_findFlows 78 = .ok (.invokevirtual 228, 3) := by decide +kernel
theorem dX7_findFlows_81 : decode cX7_findFlows 81 = .ok (.iinc 1 (-1), 3) := by decide +kernel
theorem dX7_findFlows_84 : decode cX7_findFlows 84 = .ok (.goto (-12), 3) := by decide +kernel
theorem dX7_findFlows_87 : decode cX7_findFlows 87 = .ok (.goto (-39), 3) := by decide +kernel
theorem dX7_findFlows_90 : decode cX7_findFlows 90 = .ok (.iconst 0, 1) := by decide +kernel
theorem dX7_findFlows_91 : decode cX7_findFlows 91 = .ok (.istore_n 1, 1) := by decide +kernel
theorem dX7_findFlows_92 : decode cX7_findFlows 92 = .ok (.iload_n 1, 1) := by decide +kernel
theorem dX7_findFlows_93 : decode cX7_findFlows 93 = .ok (.bipush 50, 2) := by decide +kernel
theorem dX7_findFlows_95 : decode cX7_findFlows 95 = .ok (.if_icmp .ge 16, 3) := by decide +kernel
theorem dX7_findFlows_98 : decode cX7_findFlows 98 = .ok (.aload_n 0, 1) := by decide +kernel
theorem dX7_findFlows_99 : decode cX7_findFlows 99 = .ok (.getfield 42, 3) := by decide +kernel
theorem dX7_findFlows_102 : decode cX7_findFlows 102 = .ok (.iload_n 1, 1) := by decide +kernel
theorem dX7_findFlows_103 : decode cX7_findFlows 103 = .ok (.lconst 0, 1) := by decide +kernel
theorem dX7_findFlows_104 : decode cX7_findFlows 104 = .ok (.lastore, 1) := by decide +kernel
theorem dX7_findFlows_105 : decode cX7_findFlows 105 = .ok (.iinc 1 1, 3) := by decide +kernel
theorem dX7_findFlows_108 : decode cX7_findFlows 108 = .ok (.goto (-16), 3) := by decide +kernel
theorem dX7_findFlows_111 : decode cX7_findFlows 111 = .ok (.iconst 0, 1) := by decide +kernel
theorem dX7_findFlows_112 : decode cX7_findFlows 112 = .ok (.istore_n 1, 1) := by decide +kernel
theorem dX7_findFlows_113 : decode cX7_findFlows 113 = .ok (.iload_n 1, 1) := by decide +kernel
theorem dX7_findFlows_114 : decode cX7_findFlows 114 = .ok (.aload_n 0, 1) := by decide +kernel
theorem dX7_findFlows_115 : decode cX7_findFlows 115 = .ok (.getfield 13, 3) := by decide +kernel
theorem dX7_findFlows_118 : decode cX7_findFlows 118 = .ok (.aload_n 0, 1) := by decide +kernel
theorem dX7_findFlows_119 : decode cX7_findFlows 119 = .ok (.getfield 101, 3) := by decide +kernel
theorem dX7_findFlows_122 : decode cX7_findFlows 122 = .ok (.iaload, 1) := by decide +kernel
theorem dX7_findFlows_123 : decode cX7_findFlows 123 = .ok (.if_icmp .ge 55, 3) := by decide +kernel
theorem dX7_findFlows_126 : decode cX7_findFlows 126 = .ok (.aload_n 0, 1) := by decide +kernel
theorem dX7_findFlows_127 : decode cX7_findFlows 127 = .ok (.iload_n 1, 1) := by decide +kernel
theorem dX7_findFlows_128 : decode cX7_findFlows 128 = .ok (.iconst 0, 1) := by decide +kernel
theorem dX7_findFlows_129 : decode cX7_findFlows 129 = .ok (.invokevirtual 219, 3) := by decide +kernel
theorem dX7_findFlows_132 : decode cX7_findFlows 132 = .ok (.bipush 11, 2) := by decide +kernel
theorem dX7_findFlows_134 : decode cX7_findFlows 134 = .ok (.if_icmp .ne 38, 3) := by decide +kernel
theorem dX7_findFlows_137 : decode cX7_findFlows 137 = .ok (.aload_n 0, 1) := by decide +kernel
theorem dX7_findFlows_138 : decode cX7_findFlows 138 = .ok (.getfield 29, 3) := by decide +kernel
theorem dX7_findFlows_141 : decode cX7_findFlows 141 = .ok (.iload_n 1, 1) := by decide +kernel
theorem dX7_findFlows_142 : decode cX7_findFlows 142 = .ok (.iaload, 1) := by decide +kernel
theorem dX7_findFlows_143 : decode cX7_findFlows 143 = .ok (.iconst (-1), 1) := by decide +kernel
theorem dX7_findFlows_144 : decode cX7_findFlows 144 = .ok (.if_icmp .eq 28, 3) := by decide +kernel
theorem dX7_findFlows_147 : decode cX7_findFlows 147 = .ok (.aload_n 0, 1) := by decide +kernel
theorem dX7_findFlows_148 : decode cX7_findFlows 148 = .ok (.getfield 42, 3) := by decide +kernel
theorem dX7_findFlows_151 : decode cX7_findFlows 151 = .ok (.aload_n 0, 1) := by decide +kernel
theorem dX7_findFlows_152 : decode cX7_findFlows 152 = .ok (.getfield 29, 3) := by decide +kernel
theorem dX7_findFlows_155 : decode cX7_findFlows 155 = .ok (.iload_n 1, 1) := by decide +kernel
theorem dX7_findFlows_156 : decode cX7_findFlows 156 = .ok (.iaload, 1) := by decide +kernel
theorem dX7_findFlows_157 : decode cX7_findFlows 157 = .ok (.dup2, 1) := by decide +kernel
theorem dX7_findFlows_158 : decode cX7_findFlows 158 = .ok (.laload, 1) := by decide +kernel
theorem dX7_findFlows_159 : decode cX7_findFlows 159 = .ok (.aload_n 0, 1) := by decide +kernel
theorem dX7_findFlows_160 : decode cX7_findFlows 160 = .ok (.getfield 35, 3) := by decide +kernel
theorem dX7_findFlows_163 : decode cX7_findFlows 163 = .ok (.aload_n 0, 1) := by decide +kernel
theorem dX7_findFlows_164 : decode cX7_findFlows 164 = .ok (.iload_n 1, 1) := by decide +kernel
theorem dX7_findFlows_165 : decode cX7_findFlows 165 = .ok (.iconst 3, 1) := by decide +kernel
theorem dX7_findFlows_166 : decode cX7_findFlows 166 = .ok (.invokevirtual 219, 3) := by decide +kernel
theorem dX7_findFlows_169 : decode cX7_findFlows 169 = .ok (.laload, 1) := by decide +kernel
theorem dX7_findFlows_170 : decode cX7_findFlows 170 = .ok (.lor, 1) := by decide +kernel
theorem dX7_findFlows_171 : decode cX7_findFlows 171 = .ok (.lastore, 1) := by decide +kernel
theorem dX7_findFlows_172 : decode cX7_findFlows 172 = .ok (.iinc 1 1, 3) := by decide +kernel
theorem dX7_findFlows_175 : decode cX7_findFlows 175 = .ok (.goto (-62), 3) := by decide +kernel
theorem dX7_findFlows_178 : decode cX7_findFlows 178 = .ok (.iconst 0, 1) := by decide +kernel
theorem dX7_findFlows_179 : decode cX7_findFlows 179 = .ok (.istore_n 1, 1) := by decide +kernel
theorem dX7_findFlows_180 : decode cX7_findFlows 180 = .ok (.iload_n 1, 1) := by decide +kernel
theorem dX7_findFlows_181 : decode cX7_findFlows 181 = .ok (.aload_n 0, 1) := by decide +kernel
theorem dX7_findFlows_182 : decode cX7_findFlows 182 = .ok (.getfield 216, 3) := by decide +kernel
theorem dX7_findFlows_185 : decode cX7_findFlows 185 = .ok (.if_icmp .ge 59, 3) := by decide +kernel
theorem dX7_findFlows_188 : decode cX7_findFlows 188 = .ok (.iconst 0, 1) := by decide +kernel
theorem dX7_findFlows_189 : decode cX7_findFlows 189 = .ok (.istore_n 2, 1) := by decide +kernel
theorem dX7_findFlows_190 : decode cX7_findFlows 190 = .ok (.iload_n 2, 1) := by decide +kernel
theorem dX7_findFlows_191 : decode cX7_findFlows 191 = .ok (.aload_n 0, 1) := by decide +kernel
theorem dX7_findFlows_192 : decode cX7_findFlows 192 = .ok (.getfield 216, 3) := by decide +kernel
theorem dX7_findFlows_195 : decode cX7_findFlows 195 = .ok (.if_icmp .ge 43, 3) := by decide +kernel
theorem dX7_findFlows_198 : decode cX7_findFlows 198 = .ok (.aload_n 0, 1) := by decide +kernel
theorem dX7_findFlows_199 : decode cX7_findFlows 199 = .ok (.getfield 42, 3) := by decide +kernel
theorem dX7_findFlows_202 : decode cX7_findFlows 202 = .ok (.iload_n 2, 1) := by decide +kernel
theorem dX7_findFlows_203 : decode cX7_findFlows 203 = .ok (.dup2, 1) := by decide +kernel
theorem dX7_findFlows_204 : decode cX7_findFlows 204 = .ok (.laload, 1) := by decide +kernel
theorem dX7_findFlows_205 : decode cX7_findFlows 205 = .ok (.aload_n 0, 1) := by decide +kernel
theorem dX7_findFlows_206 : decode cX7_findFlows 206 = .ok (.getfield 42, 3) := by decide +kernel
theorem dX7_findFlows_209 : decode cX7_findFlows 209 = .ok (.iload_n 2, 1) := by decide +kernel
theorem dX7_findFlows_210 : decode cX7_findFlows 210 = .ok (.laload, 1) := by decide +kernel
theorem dX7_findFlows_211 : decode cX7_findFlows 211 = .ok (.iload_n 1, 1) := by decide +kernel
theorem dX7_findFlows_212 : decode cX7_findFlows 212 = .ok (.lshr, 1) := by decide +kernel
theorem dX7_findFlows_213 : decode cX7_findFlows 213 = .ok (.lconst 1, 1) := by decide +kernel
theorem dX7_findFlows_214 : decode cX7_findFlows 214 = .ok (.land, 1) := by decide +kernel
theorem dX7_findFlows_215 : decode cX7_findFlows 215 = .ok (.lconst 1, 1) := by decide +kernel
theorem dX7_findFlows_216 : decode cX7_findFlows 216 = .ok (.lcmp, 1) := by decide +kernel
theorem dX7_findFlows_217 : decode cX7_findFlows 217 = .ok (.ifCond .ne 12, 3) := by decide +kernel
theorem dX7_findFlows_220 : decode cX7_findFlows 220 = .ok (.aload_n 0, 1) := by decide +kernel
theorem dX7_findFlows_221 : decode cX7_findFlows 221 = .ok (.getfield 42, 3) := by decide +kernel
theorem dX7_findFlows_224 : decode cX7_findFlows 224 = .ok (.iload_n 1, 1) := by decide +kernel
theorem dX7_findFlows_225 : decode cX7_findFlows 225 = .ok (.laload, 1) := by decide +kernel
theorem dX7_findFlows_226 : decode cX7_findFlows 226 = .ok (.goto 4, 3) := by decide +kernel
theorem dX7_findFlows_229 : decode cX7_findFlows 229 = .ok (.lconst 0, 1) := by decide +kernel
theorem dX7_findFlows_230 : decode cX7_findFlows 230 = .ok (.lor, 1) := by decide +kernel
theorem dX7_findFlows_231 : decode cX7_findFlows 231 = .ok (.lastore, 1) := by decide +kernel
theorem dX7_findFlows_232 : decode cX7_findFlows 232 = .ok (.iinc 2 1, 3) := by decide +kernel
theorem dX7_findFlows_235 : decode cX7_findFlows 235 = .ok (.goto (-45), 3) := by decide +kernel
theorem dX7_findFlows_238 : decode cX7_findFlows 238 = .ok (.iinc 1 1, 3) := by decide +kernel
theorem dX7_findFlows_241 : decode cX7_findFlows 241 = .ok (.goto (-61), 3) := by decide +kernel
theorem dX7_findFlows_244 : decode cX7_findFlows 244 = .ok (.return_, 1) := by decide +kernel
theorem dX7_flowOf_0 : decode cX7_flowOf 0 = .ok (.aload_n 0, 1) := by decide +kernel
theorem dX7_flowOf_1 : decode cX7_flowOf 1 = .ok (.iload_n 1, 1) := by decide +kernel
theorem dX7_flowOf_2 : decode cX7_flowOf 2 = .ok (.iconst 0, 1) := by decide +kernel
theorem dX7_flowOf_3 : decode cX7_flowOf 3 = .ok (.invokevirtual 219, 3) := by decide +kernel
theorem dX7_flowOf_6 : decode cX7_flowOf 6 = .ok (.istore_n 2, 1) := by decide +kernel
theorem dX7_flowOf_7 : decode cX7_flowOf 7 = .ok (.iload_n 2, 1) := by decide +kernel
theorem dX7_flowOf_8 : decode cX7_flowOf 8 = .ok (.ifCond .ne 22, 3) := by decide +kernel
theorem dX7_flowOf_11 : decode cX7_flowOf 11 = .ok (.aload_n 0, 1) := by decide +kernel
theorem dX7_flowOf_12 : decode cX7_flowOf 12 = .ok (.iload_n 1, 1) := by decide +kernel
theorem dX7_flowOf_13 : decode cX7_flowOf 13 = .ok (.aload_n 0, 1) := by decide +kernel
theorem dX7_flowOf_14 : decode cX7_flowOf 14 = .ok (.getfield 39, 3) := by decide +kernel
theorem dX7_flowOf_17 : decode cX7_flowOf 17 = .ok (.aload_n 0, 1) := by decide +kernel
theorem dX7_flowOf_18 : decode cX7_flowOf 18 = .ok (.iload_n 1, 1) := by decide +kernel
theorem dX7_flowOf_19 : decode cX7_flowOf 19 = .ok (.iconst 1, 1) := by decide +kernel
theorem dX7_flowOf_20 : decode cX7_flowOf 20 = .ok (.invokevirtual 219, 3) := by decide +kernel
theorem dX7_flowOf_23 : decode cX7_flowOf 23 = .ok (.laload, 1) := by decide +kernel
theorem dX7_flowOf_24 : decode cX7_flowOf 24 = .ok (.invokevirtual 232, 3) := by decide +kernel
theorem dX7_flowOf_27 : decode cX7_flowOf 27 = .ok (.goto 229, 3) := by decide +kernel
theorem dX7_flowOf_30 : decode cX7_flowOf 30 = .ok (.iload_n 2, 1) := by decide +kernel
theorem dX7_flowOf_31 : decode cX7_flowOf 31 = .ok (.iconst 2, 1) := by decide +kernel
theorem dX7_flowOf_32 : decode cX7_flowOf 32 = .ok (.if_icmp .eq 8, 3) := by decide +kernel
theorem dX7_flowOf_35 : decode cX7_flowOf 35 = .ok (.iload_n 2, 1) := by decide +kernel
theorem dX7_flowOf_36 : decode cX7_flowOf 36 = .ok (.iconst 3, 1) := by decide +kernel
theorem dX7_flowOf_37 : decode cX7_flowOf 37 = .ok (.if_icmp .ne 42, 3) := by decide +kernel
theorem dX7_flowOf_40 : decode cX7_flowOf 40 = .ok (.aload_n 0, 1) := by decide +kernel
theorem dX7_flowOf_41 : decode cX7_flowOf 41 = .ok (.iload_n 1, 1) := by decide +kernel
theorem dX7_flowOf_42 : decode cX7_flowOf 42 = .ok (.lconst 1, 1) := by decide +kernel
theorem dX7_flowOf_43 : decode cX7_flowOf 43 = .ok (.aload_n 0, 1) := by decide +kernel
theorem dX7_flowOf_44 : decode cX7_flowOf 44 = .ok (.getfield 23, 3) := by decide +kernel
theorem dX7_flowOf_47 : decode cX7_flowOf 47 = .ok (.iload_n 1, 1) := by decide +kernel
theorem dX7_flowOf_48 : decode cX7_flowOf 48 = .ok (.iaload, 1) := by decide +kernel
theorem dX7_flowOf_49 : decode cX7_flowOf 49 = .ok (.lshl, 1) := by decide +kernel
theorem dX7_flowOf_50 : decode cX7_flowOf 50 = .ok (.invokevirtual 232, 3) := by decide +kernel
theorem dX7_flowOf_53 : decode cX7_flowOf 53 = .ok (.iload_n 2, 1) := by decide +kernel
theorem dX7_flowOf_54 : decode cX7_flowOf 54 = .ok (.iconst 3, 1) := by decide +kernel
theorem dX7_flowOf_55 : decode cX7_flowOf 55 = .ok (.if_icmp .ne 201, 3) := by decide +kernel
theorem dX7_flowOf_58 : decode cX7_flowOf 58 = .ok (.aload_n 0, 1) := by decide +kernel
theorem dX7_flowOf_59 : decode cX7_flowOf 59 = .ok (.aload_n 0, 1) := by decide +kernel
theorem dX7_flowOf_60 : decode cX7_flowOf 60 = .ok (.iload_n 1, 1) := by decide +kernel
theorem dX7_flowOf_61 : decode cX7_flowOf 61 = .ok (.iconst 2, 1) := by decide +kernel
theorem dX7_flowOf_62 : decode cX7_flowOf 62 = .ok (.invokevirtual 219, 3) := by decide +kernel
theorem dX7_flowOf_65 : decode cX7_flowOf 65 = .ok (.lconst 1, 1) := by decide +kernel
theorem dX7_flowOf_66 : decode cX7_flowOf 66 = .ok (.aload_n 0, 1) := by decide +kernel
theorem dX7_flowOf_67 : decode cX7_flowOf 67 = .ok (.getfield 23, 3) := by decide +kernel
theorem dX7_flowOf_70 : decode cX7_flowOf 70 = .ok (.iload_n 1, 1) := by decide +kernel
theorem dX7_flowOf_71 : decode cX7_flowOf 71 = .ok (.iaload, 1) := by decide +kernel
theorem dX7_flowOf_72 : decode cX7_flowOf 72 = .ok (.lshl, 1) := by decide +kernel
theorem dX7_flowOf_73 : decode cX7_flowOf 73 = .ok (.invokevirtual 236, 3) := by decide +kernel
theorem dX7_flowOf_76 : decode cX7_flowOf 76 = .ok (.goto 180, 3) := by decide +kernel
theorem dX7_flowOf_79 : decode cX7_flowOf 79 = .ok (.iload_n 2, 1) := by decide +kernel
theorem dX7_flowOf_80 : decode cX7_flowOf 80 = .ok (.iconst 4, 1) := by decide +kernel
theorem dX7_flowOf_81 : decode cX7_flowOf 81 = .ok (.if_icmp .ne 34, 3) := by decide +kernel
theorem dX7_flowOf_84 : decode cX7_flowOf 84 = .ok (.aload_n 0, 1) := by decide +kernel
theorem dX7_flowOf_85 : decode cX7_flowOf 85 = .ok (.iload_n 1, 1) := by decide +kernel
theorem dX7_flowOf_86 : decode cX7_flowOf 86 = .ok (.aload_n 0, 1) := by decide +kernel
theorem dX7_flowOf_87 : decode cX7_flowOf 87 = .ok (.getfield 35, 3) := by decide +kernel
theorem dX7_flowOf_90 : decode cX7_flowOf 90 = .ok (.aload_n 0, 1) := by decide +kernel
theorem dX7_flowOf_91 : decode cX7_flowOf 91 = .ok (.iload_n 1, 1) := by decide +kernel
theorem dX7_flowOf_92 : decode cX7_flowOf 92 = .ok (.iconst 4, 1) := by decide +kernel
theorem dX7_flowOf_93 : decode cX7_flowOf 93 = .ok (.invokevirtual 219, 3) := by decide +kernel
theorem dX7_flowOf_96 : decode cX7_flowOf 96 = .ok (.laload, 1) := by decide +kernel
theorem dX7_flowOf_97 : decode cX7_flowOf 97 = .ok (.aload_n 0, 1) := by decide +kernel
theorem dX7_flowOf_98 : decode cX7_flowOf 98 = .ok (.getfield 35, 3) := by decide +kernel
theorem dX7_flowOf_101 : decode cX7_flowOf 101 = .ok (.aload_n 0, 1) := by decide +kernel
theorem dX7_flowOf_102 : decode cX7_flowOf 102 = .ok (.iload_n 1, 1) := by decide +kernel
theorem dX7_flowOf_103 : decode cX7_flowOf 103 = .ok (.iconst 5, 1) := by decide +kernel
theorem dX7_flowOf_104 : decode cX7_flowOf 104 = .ok (.invokevirtual 219, 3) := by decide +kernel
theorem dX7_flowOf_107 : decode cX7_flowOf 107 = .ok (.laload, 1) := by decide +kernel
theorem dX7_flowOf_108 : decode cX7_flowOf 108 = .ok (.lor, 1) := by decide +kernel
theorem dX7_flowOf_109 : decode cX7_flowOf 109 = .ok (.invokevirtual 232, 3) := by decide +kernel
theorem dX7_flowOf_112 : decode cX7_flowOf 112 = .ok (.goto 144, 3) := by decide +kernel
theorem dX7_flowOf_115 : decode cX7_flowOf 115 = .ok (.iload_n 2, 1) := by decide +kernel
theorem dX7_flowOf_116 : decode cX7_flowOf 116 = .ok (.iconst 5, 1) := by decide +kernel
theorem dX7_flowOf_117 : decode cX7_flowOf 117 = .ok (.if_icmp .ne 43, 3) := by decide +kernel
theorem dX7_flowOf_120 : decode cX7_flowOf 120 = .ok (.aload_n 0, 1) := by decide +kernel
theorem dX7_flowOf_121 : decode cX7_flowOf 121 = .ok (.aload_n 0, 1) := by decide +kernel
theorem dX7_flowOf_122 : decode cX7_flowOf 122 = .ok (.iload_n 1, 1) := by decide +kernel
theorem dX7_flowOf_123 : decode cX7_flowOf 123 = .ok (.iconst 1, 1) := by decide +kernel
theorem dX7_flowOf_124 : decode cX7_flowOf 124 = .ok (.invokevirtual 219, 3) := by decide +kernel
theorem dX7_flowOf_127 : decode cX7_flowOf 127 = .ok (.aload_n 0, 1) := by decide +kernel
theorem dX7_flowOf_128 : decode cX7_flowOf 128 = .ok (.getfield 35, 3) := by decide +kernel
theorem dX7_flowOf_131 : decode cX7_flowOf 131 = .ok (.aload_n 0, 1) := by decide +kernel
theorem dX7_flowOf_132 : decode cX7_flowOf 132 = .ok (.iload_n 1, 1) := by decide +kernel
theorem dX7_flowOf_133 : decode cX7_flowOf 133 = .ok (.iconst 3, 1) := by decide +kernel
theorem dX7_flowOf_134 : decode cX7_flowOf 134 = .ok (.invokevirtual 219, 3) := by decide +kernel
theorem dX7_flowOf_137 : decode cX7_flowOf 137 = .ok (.laload, 1) := by decide +kernel
theorem dX7_flowOf_138 : decode cX7_flowOf 138 = .ok (.invokevirtual 236, 3) := by decide +kernel
theorem dX7_flowOf_141 : decode cX7_flowOf 141 = .ok (.aload_n 0, 1) := by decide +kernel
theorem dX7_flowOf_142 : decode cX7_flowOf 142 = .ok (.iload_n 1, 1) := by decide +kernel
theorem dX7_flowOf_143 : decode cX7_flowOf 143 = .ok (.aload_n 0, 1) := by decide +kernel
theorem dX7_flowOf_144 : decode cX7_flowOf 144 = .ok (.getfield 35, 3) := by decide +kernel
theorem dX7_flowOf_147 : decode cX7_flowOf 147 = .ok (.aload_n 0, 1) := by decide +kernel
theorem dX7_flowOf_148 : decode cX7_flowOf 148 = .ok (.iload_n 1, 1) := by decide +kernel
theorem dX7_flowOf_149 : decode cX7_flowOf 149 = .ok (.iconst 4, 1) := by decide +kernel
theorem dX7_flowOf_150 : decode cX7_flowOf 150 = .ok (.invokevirtual 219, 3) := by decide +kernel
theorem dX7_flowOf_153 : decode cX7_flowOf 153 = .ok (.laload, 1) := by decide +kernel
theorem dX7_flowOf_154 : decode cX7_flowOf 154 = .ok (.invokevirtual 232, 3) := by decide +kernel
theorem dX7_flowOf_157 : decode cX7_flowOf 157 = .ok (.goto 99, 3) := by decide +kernel
theorem dX7_flowOf_160 : decode cX7_flowOf 160 = .ok (.iload_n 2, 1) := by decide +kernel
theorem dX7_flowOf_161 : decode cX7_flowOf 161 = .ok (.bipush 11, 2) := by decide +kernel
theorem dX7_flowOf_163 : decode cX7_flowOf 163 = .ok (.if_icmp .ne 93, 3) := by decide +kernel
theorem dX7_flowOf_166 : decode cX7_flowOf 166 = .ok (.aload_n 0, 1) := by decide +kernel
theorem dX7_flowOf_167 : decode cX7_flowOf 167 = .ok (.getfield 35, 3) := by decide +kernel
theorem dX7_flowOf_170 : decode cX7_flowOf 170 = .ok (.aload_n 0, 1) := by decide +kernel
theorem dX7_flowOf_171 : decode cX7_flowOf 171 = .ok (.iload_n 1, 1) := by decide +kernel
theorem dX7_flowOf_172 : decode cX7_flowOf 172 = .ok (.iconst 3, 1) := by decide +kernel
theorem dX7_flowOf_173 : decode cX7_flowOf 173 = .ok (.invokevirtual 219, 3) := by decide +kernel
theorem dX7_flowOf_176 : decode cX7_flowOf 176 = .ok (.laload, 1) := by decide +kernel
theorem dX7_flowOf_177 : decode cX7_flowOf 177 = .ok (.lstore_n 3, 1) := by decide +kernel
theorem dX7_flowOf_178 : decode cX7_flowOf 178 = .ok (.iconst 0, 1) := by decide +kernel
theorem dX7_flowOf_179 : decode cX7_flowOf 179 = .ok (.istore 5, 2) := by decide +kernel
theorem dX7_flowOf_181 : decode cX7_flowOf 181 = .ok (.iload 5, 2) := by decide +kernel
theorem dX7_flowOf_183 : decode cX7_flowOf 183 = .ok (.aload_n 0, 1) := by decide +kernel
theorem dX7_flowOf_184 : decode cX7_flowOf 184 = .ok (.getfield 216, 3) := by decide +kernel
theorem dX7_flowOf_187 : decode cX7_flowOf 187 = .ok (.if_icmp .ge 69, 3) := by decide +kernel
theorem dX7_flowOf_190 : decode cX7_flowOf 190 = .ok (.lload_n 3, 1) := by decide +kernel
theorem dX7_flowOf_191 : decode cX7_flowOf 191 = .ok (.iload 5, 2) := by decide +kernel
theorem dX7_flowOf_193 : decode cX7_flowOf 193 = .ok (.lshr, 1) := by decide +kernel
theorem dX7_flowOf_194 : decode cX7_flowOf 194 = .ok (.lconst 1, 1) := by decide +kernel
theorem dX7_flowOf_195 : decode cX7_flowOf 195 = .ok (.land, 1) := by decide +kernel
theorem dX7_flowOf_196 : decode cX7_flowOf 196 = .ok (.lconst 1, 1) := by decide +kernel
theorem dX7_flowOf_197 : decode cX7_flowOf 197 = .ok (.lcmp, 1) := by decide +kernel
theorem dX7_flowOf_198 : decode cX7_flowOf 198 = .ok (.ifCond .ne 52, 3) := by decide +kernel
theorem dX7_flowOf_201 : decode cX7_flowOf 201 = .ok (.aload_n 0, 1) := by decide +kernel
theorem dX7_flowOf_202 : decode cX7_flowOf 202 = .ok (.aload_n 0, 1) := by decide +kernel
theorem dX7_flowOf_203 : decode cX7_flowOf 203 = .ok (.aload_n 0, 1) := by decide +kernel
theorem dX7_flowOf_204 : decode cX7_flowOf 204 = .ok (.getfield 26, 3) := by decide +kernel
theorem dX7_flowOf_207 : decode cX7_flowOf 207 = .ok (.iload 5, 2) := by decide +kernel
theorem dX7_flowOf_209 : decode cX7_flowOf 209 = .ok (.iaload, 1) := by decide +kernel
theorem dX7_flowOf_210 : decode cX7_flowOf 210 = .ok (.iconst 1, 1) := by decide +kernel
theorem dX7_flowOf_211 : decode cX7_flowOf 211 = .ok (.invokevirtual 219, 3) := by decide +kernel
theorem dX7_flowOf_214 : decode cX7_flowOf 214 = .ok (.aload_n 0, 1) := by decide +kernel
theorem dX7_flowOf_215 : decode cX7_flowOf 215 = .ok (.getfield 35, 3) := by decide +kernel
theorem dX7_flowOf_218 : decode cX7_flowOf 218 = .ok (.aload_n 0, 1) := by decide +kernel
theorem dX7_flowOf_219 : decode cX7_flowOf 219 = .ok (.iload_n 1, 1) := by decide +kernel
theorem dX7_flowOf_220 : decode cX7_flowOf 220 = .ok (.iconst 4, 1) := by decide +kernel
theorem dX7_flowOf_221 : decode cX7_flowOf 221 = .ok (.invokevirtual 219, 3) := by decide +kernel
theorem dX7_flowOf_224 : decode cX7_flowOf 224 = .ok (.laload, 1) := by decide +kernel
theorem dX7_flowOf_225 : decode cX7_flowOf 225 = .ok (.invokevirtual 236, 3) := by decide +kernel
theorem dX7_flowOf_228 : decode cX7_flowOf 228 = .ok (.aload_n 0, 1) := by decide +kernel
theorem dX7_flowOf_229 : decode cX7_flowOf 229 = .ok (.iload_n 1, 1) := by decide +kernel
theorem dX7_flowOf_230 : decode cX7_flowOf 230 = .ok (.aload_n 0, 1) := by decide +kernel
theorem dX7_flowOf_231 : decode cX7_flowOf 231 = .ok (.getfield 35, 3) := by decide +kernel
theorem dX7_flowOf_234 : decode cX7_flowOf 234 = .ok (.aload_n 0, 1) := by decide +kernel
theorem dX7_flowOf_235 : decode cX7_flowOf 235 = .ok (.aload_n 0, 1) := by decide +kernel
theorem dX7_flowOf_236 : decode cX7_flowOf 236 = .ok (.getfield 26, 3) := by decide +kernel
theorem dX7_flowOf_239 : decode cX7_flowOf 239 = .ok (.iload 5, 2) := by decide +kernel
theorem dX7_flowOf_241 : decode cX7_flowOf 241 = .ok (.iaload, 1) := by decide +kernel
theorem dX7_flowOf_242 : decode cX7_flowOf 242 = .ok (.iconst 3, 1) := by decide +kernel
theorem dX7_flowOf_243 : decode cX7_flowOf 243 = .ok (.invokevirtual 219, 3) := by decide +kernel
theorem dX7_flowOf_246 : decode cX7_flowOf 246 = .ok (.laload, 1) := by decide +kernel
theorem dX7_flowOf_247 : decode cX7_flowOf 247 = .ok (.invokevirtual 232, 3) := by decide +kernel
theorem dX7_flowOf_250 : decode cX7_flowOf 250 = .ok (.iinc 5 1, 3) := by decide +kernel
theorem dX7_flowOf_253 : decode cX7_flowOf 253 = .ok (.goto (-72), 3) := by decide +kernel
theorem dX7_flowOf_256 : decode cX7_flowOf 256 = .ok (.return_, 1) := by decide +kernel
theorem dX7_isLabel_0 : decode cX7_isLabel 0 = .ok (.aload_n 0, 1) := by decide +kernel
theorem dX7_isLabel_1 : decode cX7_isLabel 1 = .ok (.getfield 203, 3) := by decide +kernel
theorem dX7_isLabel_4 : decode cX7_isLabel 4 = .ok (.ifCond .eq 24, 3) := by decide +kernel
theorem dX7_isLabel_7 : decode cX7_isLabel 7 = .ok (.iload_n 1, 1) := by decide +kernel
theorem dX7_isLabel_8 : decode cX7_isLabel 8 = .ok (.ifCond .lt 20, 3) := by decide +kernel
theorem dX7_isLabel_11 : decode cX7_isLabel 11 = .ok (.iload_n 1, 1) := by decide +kernel
theorem dX7_isLabel_12 : decode cX7_isLabel 12 = .ok (.aload_n 0, 1) := by decide +kernel
theorem dX7_isLabel_13 : decode cX7_isLabel 13 = .ok (.getfield 13, 3) := by decide +kernel
theorem dX7_isLabel_16 : decode cX7_isLabel 16 = .ok (.aload_n 0, 1) := by decide +kernel
theorem dX7_isLabel_17 : decode cX7_isLabel 17 = .ok (.getfield 101, 3) := by decide +kernel
theorem dX7_isLabel_20 : decode cX7_isLabel 20 = .ok (.iaload, 1) := by decide +kernel
theorem dX7_isLabel_21 : decode cX7_isLabel 21 = .ok (.if_icmp .ge 7, 3) := by decide +kernel
theorem dX7_isLabel_24 : decode cX7_isLabel 24 = .ok (.iconst 1, 1) := by decide +kernel
theorem dX7_isLabel_25 : decode cX7_isLabel 25 = .ok (.goto 4, 3) := by decide +kernel
theorem dX7_isLabel_28 : decode cX7_isLabel 28 = .ok (.iconst 0, 1) := by decide +kernel
theorem dX7_isLabel_29 : decode cX7_isLabel 29 = .ok (.ireturn, 1) := by decide +kernel
theorem dX7_isFunction_0 : decode cX7_isFunction 0 = .ok (.aload_n 0, 1) := by decide +kernel
theorem dX7_isFunction_1 : decode cX7_isFunction 1 = .ok (.getfield 203, 3) := by decide +kernel
theorem dX7_isFunction_4 : decode cX7_isFunction 4 = .ok (.ifCond .eq 19, 3) := by decide +kernel
theorem dX7_isFunction_7 : decode cX7_isFunction 7 = .ok (.iload_n 1, 1) := by decide +kernel
theorem dX7_isFunction_8 : decode cX7_isFunction 8 = .ok (.ifCond .lt 15, 3) := by decide +kernel
theorem dX7_isFunction_11 : decode cX7_isFunction 11 = .ok (.iload_n 1, 1) := by decide +kernel
theorem dX7_isFunction_12 : decode cX7_isFunction 12 = .ok (.aload_n 0, 1) := by decide +kernel
theorem dX7_isFunction_13 : decode cX7_isFunction 13 = .ok (.getfield 216, 3) := by decide +kernel
theorem dX7_isFunction_16 : decode cX7_isFunction 16 = .ok (.if_icmp .ge 7, 3) := by decide +kernel
theorem dX7_isFunction_19 : decode cX7_isFunction 19 = .ok (.iconst 1, 1) := by decide +kernel
theorem dX7_isFunction_20 : decode cX7_isFunction 20 = .ok (.goto 4, 3) := by decide +kernel
theorem dX7_isFunction_23 : decode cX7_isFunction 23 = .ok (.iconst 0, 1) := by decide +kernel
theorem dX7_isFunction_24 : decode cX7_isFunction 24 = .ok (.ireturn, 1) := by decide +kernel
theorem dX7_countBits_0 : decode cX7_countBits 0 = .ok (.iconst 0, 1) := by decide +kernel
theorem dX7_countBits_1 : decode cX7_countBits 1 = .ok (.istore_n 2, 1) := by decide +kernel
theorem dX7_countBits_2 : decode cX7_countBits 2 = .ok (.iconst 0, 1) := by decide +kernel
theorem dX7_countBits_3 : decode cX7_countBits 3 = .ok (.istore_n 3, 1) := by decide +kernel
theorem dX7_countBits_4 : decode cX7_countBits 4 = .ok (.iload_n 3, 1) := by decide +kernel
theorem dX7_countBits_5 : decode cX7_countBits 5 = .ok (.bipush 64, 2) := by decide +kernel
theorem dX7_countBits_7 : decode cX7_countBits 7 = .ok (.if_icmp .ge 19, 3) := by decide +kernel
theorem dX7_countBits_10 : decode cX7_countBits 10 = .ok (.iload_n 2, 1) := by decide +kernel
theorem dX7_countBits_11 : decode cX7_countBits 11 = .ok (.i2l, 1) := by decide +kernel
theorem dX7_countBits_12 : decode cX7_countBits 12 = .ok (.lload_n 0, 1) := by decide +kernel
theorem dX7_countBits_13 : decode cX7_countBits 13 = .ok (.iload_n 3, 1) := by decide +kernel
theorem dX7_countBits_14 : decode cX7_countBits 14 = .ok (.lshr, 1) := by decide +kernel
theorem dX7_countBits_15 : decode cX7_countBits 15 = .ok (.lconst 1, 1) := by decide +kernel
theorem dX7_countBits_16 : decode cX7_countBits 16 = .ok (.land, 1) := by decide +kernel
theorem dX7_countBits_17 : decode cX7_countBits 17 = .ok (.ladd, 1) := by decide +kernel
theorem dX7_countBits_18 : decode cX7_countBits 18 = .ok (.l2i, 1) := by decide +kernel
theorem dX7_countBits_19 : decode cX7_countBits 19 = .ok (.istore_n 2, 1) := by decide +kernel
theorem dX7_countBits_20 : decode cX7_countBits 20 = .ok (.iinc 3 1, 3) := by decide +kernel
theorem dX7_countBits_23 : decode cX7_countBits 23 = .ok (.goto (-19), 3) := by decide +kernel
theorem dX7_countBits_26 : decode cX7_countBits 26 = .ok (.iload_n 2, 1) := by decide +kernel
theorem dX7_countBits_27 : decode cX7_countBits 27 = .ok (.ireturn, 1) := by decide +kernel
theorem dX7_isSingle_0 : decode cX7_isSingle 0 = .ok (.aload_n 0, 1) := by decide +kernel
theorem dX7_isSingle_1 : decode cX7_isSingle 1 = .ok (.iload_n 1, 1) := by decide +kernel
theorem dX7_isSingle_2 : decode cX7_isSingle 2 = .ok (.iconst 0, 1) := by decide +kernel
theorem dX7_isSingle_3 : decode cX7_isSingle 3 = .ok (.invokevirtual 219, 3) := by decide +kernel
theorem dX7_isSingle_6 : decode cX7_isSingle 6 = .ok (.bipush 11, 2) := by decide +kernel
theorem dX7_isSingle_8 : decode cX7_isSingle 8 = .ok (.if_icmp .ne 25, 3) := by decide +kernel
theorem dX7_isSingle_11 : decode cX7_isSingle 11 = .ok (.aload_n 0, 1) := by decide +kernel
theorem dX7_isSingle_12 : decode cX7_isSingle 12 = .ok (.getfield 35, 3) := by decide +kernel
theorem dX7_isSingle_15 : decode cX7_isSingle 15 = .ok (.aload_n 0, 1) := by decide +kernel
theorem dX7_isSingle_16 : decode cX7_isSingle 16 = .ok (.iload_n 1, 1) := by decide +kernel
theorem dX7_isSingle_17 : decode cX7_isSingle 17 = .ok (.iconst 3, 1) := by decide +kernel
theorem dX7_isSingle_18 : decode cX7_isSingle 18 = .ok (.invokevirtual 219, 3) := by decide +kernel
theorem dX7_isSingle_21 : decode cX7_isSingle 21 = .ok (.laload, 1) := by decide +kernel
theorem dX7_isSingle_22 : decode cX7_isSingle 22 = .ok (.invokestatic 239, 3) := by decide +kernel
theorem dX7_isSingle_25 : decode cX7_isSingle 25 = .ok (.iconst 1, 1) := by decide +kernel
theorem dX7_isSingle_26 : decode cX7_isSingle 26 = .ok (.if_icmp .ne 7, 3) := by decide +kernel
theorem dX7_isSingle_29 : decode cX7_isSingle 29 = .ok (.iconst 1, 1) := by decide +kernel
theorem dX7_isSingle_30 : decode cX7_isSingle 30 = .ok (.goto 4, 3) := by decide +kernel
theorem dX7_isSingle_33 : decode cX7_isSingle 33 = .ok (.iconst 0, 1) := by decide +kernel
theorem dX7_isSingle_34 : decode cX7_isSingle 34 = .ok (.ireturn, 1) := by decide +kernel
theorem dX7_only_0 : decode cX7_only 0 = .ok (.iconst 0, 1) := by decide +kernel
theorem dX7_only_1 : decode cX7_only 1 = .ok (.istore_n 2, 1) := by decide +kernel
theorem dX7_only_2 : decode cX7_only 2 = .ok (.aload_n 0, 1) := by decide +kernel
theorem dX7_only_3 : decode cX7_only 3 = .ok (.getfield 35, 3) := by decide +kernel
theorem dX7_only_6 : decode cX7_only 6 = .ok (.aload_n 0, 1) := by decide +kernel
theorem dX7_only_7 : decode cX7_only 7 = .ok (.iload_n 1, 1) := by decide +kernel
theorem dX7_only_8 : decode cX7_only 8 = .ok (.iconst 3, 1) := by decide +kernel
theorem dX7_only_9 : decode cX7_only 9 = .ok (.invokevirtual 219, 3) := by decide +kernel
theorem dX7_only_12 : decode cX7_only 12 = .ok (.laload, 1) := by decide +kernel
theorem dX7_only_13 : decode cX7_only 13 = .ok (.iload_n 2, 1) := by decide +kernel
theorem dX7_only_14 : decode cX7_only 14 = .ok (.lshr, 1) := by decide +kernel
theorem dX7_only_15 : decode cX7_only 15 = .ok (.lconst 1, 1) := by decide +kernel
theorem dX7_only_16 : decode cX7_only 16 = .ok (.land, 1) := by decide +kernel
theorem dX7_only_17 : decode cX7_only 17 = .ok (.lconst 0, 1) := by decide +kernel
theorem dX7_only_18 : decode cX7_only 18 = .ok (.lcmp, 1) := by decide +kernel
theorem dX7_only_19 : decode cX7_only 19 = .ok (.ifCond .ne 9, 3) := by decide +kernel
theorem dX7_only_22 : decode cX7_only 22 = .ok (.iinc 2 1, 3) := by decide +kernel
theorem dX7_only_25 : decode cX7_only 25 = .ok (.goto (-23), 3) := by decide +kernel
theorem dX7_only_28 : decode cX7_only 28 = .ok (.iload_n 2, 1) := by decide +kernel
theorem dX7_only_29 : decode cX7_only 29 = .ok (.ireturn, 1) := by decide +kernel
theorem dX7_isIn_0 : decode cX7_isIn 0 = .ok (.iload_n 1, 1) := by decide +kernel
theorem dX7_isIn_1 : decode cX7_isIn 1 = .ok (.istore_n 3, 1) := by decide +kernel
theorem dX7_isIn_2 : decode cX7_isIn 2 = .ok (.iload_n 3, 1) := by decide +kernel
theorem dX7_isIn_3 : decode cX7_isIn 3 = .ok (.iconst (-1), 1) := by decide +kernel
theorem dX7_isIn_4 : decode cX7_isIn 4 = .ok (.if_icmp .eq 19, 3) := by decide +kernel
theorem dX7_isIn_7 : decode cX7_isIn 7 = .ok (.iload_n 3, 1) := by decide +kernel
theorem dX7_isIn_8 : decode cX7_isIn 8 = .ok (.iload_n 2, 1) := by decide +kernel
theorem dX7_isIn_9 : decode cX7_isIn 9 = .ok (.if_icmp .eq 14, 3) := by decide +kernel
theorem dX7_isIn_12 : decode cX7_isIn 12 = .ok (.aload_n 0, 1) := by decide +kernel
theorem dX7_isIn_13 : decode cX7_isIn 13 = .ok (.iload_n 3, 1) := by decide +kernel
theorem dX7_isIn_14 : decode cX7_isIn 14 = .ok (.bipush 6, 2) := by decide +kernel
theorem dX7_isIn_16 : decode cX7_isIn 16 = .ok (.invokevirtual 219, 3) := by decide +kernel
theorem dX7_isIn_19 : decode cX7_isIn 19 = .ok (.istore_n 3, 1) := by decide +kernel
theorem dX7_isIn_20 : decode cX7_isIn 20 = .ok (.goto (-18), 3) := by decide +kernel
theorem dX7_isIn_23 : decode cX7_isIn 23 = .ok (.iload_n 3, 1) := by decide +kernel
theorem dX7_isIn_24 : decode cX7_isIn 24 = .ok (.iload_n 2, 1) := by decide +kernel
theorem dX7_isIn_25 : decode cX7_isIn 25 = .ok (.if_icmp .ne 7, 3) := by decide +kernel
theorem dX7_isIn_28 : decode cX7_isIn 28 = .ok (.iconst 1, 1) := by decide +kernel
theorem dX7_isIn_29 : decode cX7_isIn 29 = .ok (.goto 4, 3) := by decide +kernel
theorem dX7_isIn_32 : decode cX7_isIn 32 = .ok (.iconst 0, 1) := by decide +kernel
theorem dX7_isIn_33 : decode cX7_isIn 33 = .ok (.ireturn, 1) := by decide +kernel
theorem dX7_freeOf_0 : decode cX7_freeOf 0 = .ok (.aload_n 0, 1) := by decide +kernel
theorem dX7_freeOf_1 : decode cX7_freeOf 1 = .ok (.getfield 26, 3) := by decide +kernel
theorem dX7_freeOf_4 : decode cX7_freeOf 4 = .ok (.iload_n 1, 1) := by decide +kernel
theorem dX7_freeOf_5 : decode cX7_freeOf 5 = .ok (.iaload, 1) := by decide +kernel
theorem dX7_freeOf_6 : decode cX7_freeOf 6 = .ok (.istore_n 2, 1) := by decide +kernel
theorem dX7_freeOf_7 : decode cX7_freeOf 7 = .ok (.iconst 0, 1) := by decide +kernel
theorem dX7_freeOf_8 : decode cX7_freeOf 8 = .ok (.istore_n 3, 1) := by decide +kernel
theorem dX7_freeOf_9 : decode cX7_freeOf 9 = .ok (.iload_n 3, 1) := by decide +kernel
theorem dX7_freeOf_10 : decode cX7_freeOf 10 = .ok (.bipush 100, 2) := by decide +kernel
theorem dX7_freeOf_12 : decode cX7_freeOf 12 = .ok (.if_icmp .ge 16, 3) := by decide +kernel
theorem dX7_freeOf_15 : decode cX7_freeOf 15 = .ok (.aload_n 0, 1) := by decide +kernel
theorem dX7_freeOf_16 : decode cX7_freeOf 16 = .ok (.getfield 54, 3) := by decide +kernel
theorem dX7_freeOf_19 : decode cX7_freeOf 19 = .ok (.iload_n 3, 1) := by decide +kernel
theorem dX7_freeOf_20 : decode cX7_freeOf 20 = .ok (.iconst 0, 1) := by decide +kernel
theorem dX7_freeOf_21 : decode cX7_freeOf 21 = .ok (.bastore, 1) := by decide +kernel
theorem dX7_freeOf_22 : decode cX7_freeOf 22 = .ok (.iinc 3 1, 3) := by decide +kernel
theorem dX7_freeOf_25 : decode cX7_freeOf 25 = .ok (.goto (-16), 3) := by decide +kernel
theorem dX7_freeOf_28 : decode cX7_freeOf 28 = .ok (.iload_n 2, 1) := by decide +kernel
theorem dX7_freeOf_29 : decode cX7_freeOf 29 = .ok (.istore_n 3, 1) := by decide +kernel
theorem dX7_freeOf_30 : decode cX7_freeOf 30 = .ok (.iload_n 3, 1) := by decide +kernel
theorem dX7_freeOf_31 : decode cX7_freeOf 31 = .ok (.aload_n 0, 1) := by decide +kernel
theorem dX7_freeOf_32 : decode cX7_freeOf 32 = .ok (.getfield 13, 3) := by decide +kernel
theorem dX7_freeOf_35 : decode cX7_freeOf 35 = .ok (.aload_n 0, 1) := by decide +kernel
theorem dX7_freeOf_36 : decode cX7_freeOf 36 = .ok (.getfield 101, 3) := by decide +kernel
theorem dX7_freeOf_39 : decode cX7_freeOf 39 = .ok (.iaload, 1) := by decide +kernel
theorem dX7_freeOf_40 : decode cX7_freeOf 40 = .ok (.if_icmp .ge 39, 3) := by decide +kernel
theorem dX7_freeOf_43 : decode cX7_freeOf 43 = .ok (.aload_n 0, 1) := by decide +kernel
theorem dX7_freeOf_44 : decode cX7_freeOf 44 = .ok (.iload_n 3, 1) := by decide +kernel
theorem dX7_freeOf_45 : decode cX7_freeOf 45 = .ok (.iconst 0, 1) := by decide +kernel
theorem dX7_freeOf_46 : decode cX7_freeOf 46 = .ok (.invokevirtual 219, 3) := by decide +kernel
theorem dX7_freeOf_49 : decode cX7_freeOf 49 = .ok (.ifCond .ne 24, 3) := by decide +kernel
theorem dX7_freeOf_52 : decode cX7_freeOf 52 = .ok (.aload_n 0, 1) := by decide +kernel
theorem dX7_freeOf_53 : decode cX7_freeOf 53 = .ok (.iload_n 3, 1) := by decide +kernel
theorem dX7_freeOf_54 : decode cX7_freeOf 54 = .ok (.iload_n 2, 1) := by decide +kernel
theorem dX7_freeOf_55 : decode cX7_freeOf 55 = .ok (.invokevirtual 243, 3) := by decide +kernel
theorem dX7_freeOf_58 : decode cX7_freeOf 58 = .ok (.ifCond .eq 15, 3) := by decide +kernel
theorem dX7_freeOf_61 : decode cX7_freeOf 61 = .ok (.aload_n 0, 1) := by decide +kernel
theorem dX7_freeOf_62 : decode cX7_freeOf 62 = .ok (.getfield 54, 3) := by decide +kernel
theorem dX7_freeOf_65 : decode cX7_freeOf 65 = .ok (.aload_n 0, 1) := by decide +kernel
theorem dX7_freeOf_66 : decode cX7_freeOf 66 = .ok (.iload_n 3, 1) := by decide +kernel
theorem dX7_freeOf_67 : decode cX7_freeOf 67 = .ok (.iconst 1, 1) := by decide +kernel
theorem dX7_freeOf_68 : decode cX7_freeOf 68 = .ok (.invokevirtual 219, 3) := by decide +kernel
theorem dX7_freeOf_71 : decode cX7_freeOf 71 = .ok (.iconst 1, 1) := by decide +kernel
theorem dX7_freeOf_72 : decode cX7_freeOf 72 = .ok (.bastore, 1) := by decide +kernel
theorem dX7_freeOf_73 : decode cX7_freeOf 73 = .ok (.iinc 3 1, 3) := by decide +kernel
theorem dX7_freeOf_76 : decode cX7_freeOf 76 = .ok (.goto (-46), 3) := by decide +kernel
theorem dX7_freeOf_79 : decode cX7_freeOf 79 = .ok (.iload_n 2, 1) := by decide +kernel
theorem dX7_freeOf_80 : decode cX7_freeOf 80 = .ok (.istore_n 3, 1) := by decide +kernel
theorem dX7_freeOf_81 : decode cX7_freeOf 81 = .ok (.iload_n 3, 1) := by decide +kernel
theorem dX7_freeOf_82 : decode cX7_freeOf 82 = .ok (.aload_n 0, 1) := by decide +kernel
theorem dX7_freeOf_83 : decode cX7_freeOf 83 = .ok (.getfield 13, 3) := by decide +kernel
theorem dX7_freeOf_86 : decode cX7_freeOf 86 = .ok (.aload_n 0, 1) := by decide +kernel
theorem dX7_freeOf_87 : decode cX7_freeOf 87 = .ok (.getfield 101, 3) := by decide +kernel
theorem dX7_freeOf_90 : decode cX7_freeOf 90 = .ok (.iaload, 1) := by decide +kernel
theorem dX7_freeOf_91 : decode cX7_freeOf 91 = .ok (.if_icmp .ge 74, 3) := by decide +kernel
theorem dX7_freeOf_94 : decode cX7_freeOf 94 = .ok (.aload_n 0, 1) := by decide +kernel
theorem dX7_freeOf_95 : decode cX7_freeOf 95 = .ok (.iload_n 3, 1) := by decide +kernel
theorem dX7_freeOf_96 : decode cX7_freeOf 96 = .ok (.iconst 0, 1) := by decide +kernel
theorem dX7_freeOf_97 : decode cX7_freeOf 97 = .ok (.invokevirtual 219, 3) := by decide +kernel
theorem dX7_freeOf_100 : decode cX7_freeOf 100 = .ok (.istore 4, 2) := by decide +kernel
theorem dX7_freeOf_102 : decode cX7_freeOf 102 = .ok (.iload 4, 2) := by decide +kernel
theorem dX7_freeOf_104 : decode cX7_freeOf 104 = .ok (.iconst 2, 1) := by decide +kernel
theorem dX7_freeOf_105 : decode cX7_freeOf 105 = .ok (.if_icmp .eq 15, 3) := by decide +kernel
theorem dX7_freeOf_108 : decode cX7_freeOf 108 = .ok (.iload 4, 2) := by decide +kernel
theorem dX7_freeOf_110 : decode cX7_freeOf 110 = .ok (.iconst 3, 1) := by decide +kernel
theorem dX7_freeOf_111 : decode cX7_freeOf 111 = .ok (.if_icmp .eq 9, 3) := by decide +kernel
theorem dX7_freeOf_114 : decode cX7_freeOf 114 = .ok (.iload 4, 2) := by decide +kernel
theorem dX7_freeOf_116 : decode cX7_freeOf 116 = .ok (.iconst 5, 1) := by decide +kernel
theorem dX7_freeOf_117 : decode cX7_freeOf 117 = .ok (.if_icmp .ne 42, 3) := by decide +kernel
theorem dX7_freeOf_120 : decode cX7_freeOf 120 = .ok (.aload_n 0, 1) := by decide +kernel
theorem dX7_freeOf_121 : decode cX7_freeOf 121 = .ok (.iload_n 3, 1) := by decide +kernel
theorem dX7_freeOf_122 : decode cX7_freeOf 122 = .ok (.iload_n 2, 1) := by decide +kernel
theorem dX7_freeOf_123 : decode cX7_freeOf 123 = .ok (.invokevirtual 243, 3) := by decide +kernel
theorem dX7_freeOf_126 : decode cX7_freeOf 126 = .ok (.ifCond .eq 33, 3) := by decide +kernel
theorem dX7_freeOf_129 : decode cX7_freeOf 129 = .ok (.aload_n 0, 1) := by decide +kernel
theorem dX7_freeOf_130 : decode cX7_freeOf 130 = .ok (.getfield 54, 3) := by decide +kernel
theorem dX7_freeOf_133 : decode cX7_freeOf 133 = .ok (.aload_n 0, 1) := by decide +kernel
theorem dX7_freeOf_134 : decode cX7_freeOf 134 = .ok (.iload_n 3, 1) := by decide +kernel
theorem dX7_freeOf_135 : decode cX7_freeOf 135 = .ok (.iconst 1, 1) := by decide +kernel
theorem dX7_freeOf_136 : decode cX7_freeOf 136 = .ok (.invokevirtual 219, 3) := by decide +kernel
theorem dX7_freeOf_139 : decode cX7_freeOf 139 = .ok (.iconst 0, 1) := by decide +kernel
theorem dX7_freeOf_140 : decode cX7_freeOf 140 = .ok (.bastore, 1) := by decide +kernel
theorem dX7_freeOf_141 : decode cX7_freeOf 141 = .ok (.iload 4, 2) := by decide +kernel
theorem dX7_freeOf_143 : decode cX7_freeOf 143 = .ok (.iconst 3, 1) := by decide +kernel
theorem dX7_freeOf_144 : decode cX7_freeOf 144 = .ok (.if_icmp .ne 15, 3) := by decide +kernel
theorem dX7_freeOf_147 : decode cX7_freeOf 147 = .ok (.aload_n 0, 1) := by decide +kernel
theorem dX7_freeOf_148 : decode cX7_freeOf 148 = .ok (.getfield 54, 3) := by decide +kernel
theorem dX7_freeOf_151 : decode cX7_freeOf 151 = .ok (.aload_n 0, 1) := by decide +kernel
theorem dX7_freeOf_152 : decode cX7_freeOf 152 = .ok (.iload_n 3, 1) := by decide +kernel
theorem dX7_freeOf_153 : decode cX7_freeOf 153 = .ok (.iconst 2, 1) := by decide +kernel
theorem dX7_freeOf_154 : decode cX7_freeOf 154 = .ok (.invokevirtual 219, 3) := by decide +kernel
theorem dX7_freeOf_157 : decode cX7_freeOf 157 = .ok (.iconst 0, 1) := by decide +kernel
theorem dX7_freeOf_158 : decode cX7_freeOf 158 = .ok (.bastore, 1) := by decide +kernel
theorem dX7_freeOf_159 : decode cX7_freeOf 159 = .ok (.iinc 3 1, 3) := by decide +kernel
theorem dX7_freeOf_162 : decode cX7_freeOf 162 = .ok (.goto (-81), 3) := by decide +kernel
theorem dX7_freeOf_165 : decode cX7_freeOf 165 = .ok (.iconst 0, 1) := by decide +kernel
theorem dX7_freeOf_166 : decode cX7_freeOf 166 = .ok (.istore_n 3, 1) := by decide +kernel
theorem dX7_freeOf_167 : decode cX7_freeOf 167 = .ok (.iconst 0, 1) := by decide +kernel
theorem dX7_freeOf_168 : decode cX7_freeOf 168 = .ok (.istore 4, 2) := by decide +kernel
theorem dX7_freeOf_170 : decode cX7_freeOf 170 = .ok (.iload 4, 2) := by decide +kernel
theorem dX7_freeOf_172 : decode cX7_freeOf 172 = .ok (.bipush 100, 2) := by decide +kernel
theorem dX7_freeOf_174 : decode cX7_freeOf 174 = .ok (.if_icmp .ge 27, 3) := by decide +kernel
theorem dX7_freeOf_177 : decode cX7_freeOf 177 = .ok (.iload_n 3, 1) := by decide +kernel
theorem dX7_freeOf_178 : decode cX7_freeOf 178 = .ok (.aload_n 0, 1) := by decide +kernel
theorem dX7_freeOf_179 : decode cX7_freeOf 179 = .ok (.getfield 54, 3) := by decide +kernel
theorem dX7_freeOf_182 : decode cX7_freeOf 182 = .ok (.iload 4, 2) := by decide +kernel
theorem dX7_freeOf_184 : decode cX7_freeOf 184 = .ok (.baload, 1) := by decide +kernel
theorem dX7_freeOf_185 : decode cX7_freeOf 185 = .ok (.ifCond .eq 7, 3) := by decide +kernel
theorem dX7_freeOf_188 : decode cX7_freeOf 188 = .ok (.iconst 1, 1) := by decide +kernel
theorem dX7_freeOf_189 : decode cX7_freeOf 189 = .ok (.goto 4, 3) := by decide +kernel
theorem dX7_freeOf_192 : decode cX7_freeOf 192 = .ok (.iconst 0, 1) := by decide +kernel
theorem dX7_freeOf_193 : decode cX7_freeOf 193 = .ok (.iadd, 1) := by decide +kernel
theorem dX7_freeOf_194 : decode cX7_freeOf 194 = .ok (.istore_n 3, 1) := by decide +kernel
theorem dX7_freeOf_195 : decode cX7_freeOf 195 = .ok (.iinc 4 1, 3) := by decide +kernel
theorem dX7_freeOf_198 : decode cX7_freeOf 198 = .ok (.goto (-28), 3) := by decide +kernel
theorem dX7_freeOf_201 : decode cX7_freeOf 201 = .ok (.iload_n 3, 1) := by decide +kernel
theorem dX7_freeOf_202 : decode cX7_freeOf 202 = .ok (.ireturn, 1) := by decide +kernel
theorem dX7_canInline_0 : decode cX7_canInline 0 = .ok (.aload_n 0, 1) := by decide +kernel
theorem dX7_canInline_1 : decode cX7_canInline 1 = .ok (.iload_n 1, 1) := by decide +kernel
theorem dX7_canInline_2 : decode cX7_canInline 2 = .ok (.invokevirtual 247, 3) := by decide +kernel
theorem dX7_canInline_5 : decode cX7_canInline 5 = .ok (.ifCond .ne 5, 3) := by decide +kernel
theorem dX7_canInline_8 : decode cX7_canInline 8 = .ok (.iconst 0, 1) := by decide +kernel
theorem dX7_canInline_9 : decode cX7_canInline 9 = .ok (.ireturn, 1) := by decide +kernel
theorem dX7_canInline_10 : decode cX7_canInline 10 = .ok (.aload_n 0, 1) := by decide +kernel
theorem dX7_canInline_11 : decode cX7_canInline 11 = .ok (.iload_n 1, 1) := by decide +kernel
theorem dX7_canInline_12 : decode cX7_canInline 12 = .ok (.invokevirtual 250, 3) := by decide +kernel
theorem dX7_canInline_15 : decode cX7_canInline 15 = .ok (.istore_n 2, 1) := by decide +kernel
theorem dX7_canInline_16 : decode cX7_canInline 16 = .ok (.aload_n 0, 1) := by decide +kernel
theorem dX7_canInline_17 : decode cX7_canInline 17 = .ok (.aload_n 0, 1) := by decide +kernel
theorem dX7_canInline_18 : decode cX7_canInline 18 = .ok (.iload_n 1, 1) := by decide +kernel
theorem dX7_canInline_19 : decode cX7_canInline 19 = .ok (.iconst 3, 1) := by decide +kernel
theorem dX7_canInline_20 : decode cX7_canInline 20 = .ok (.invokevirtual 219, 3) := by decide +kernel
theorem dX7_canInline_23 : decode cX7_canInline 23 = .ok (.iconst 0, 1) := by decide +kernel
theorem dX7_canInline_24 : decode cX7_canInline 24 = .ok (.invokevirtual 219, 3) := by decide +kernel
theorem dX7_canInline_27 : decode cX7_canInline 27 = .ok (.istore_n 3, 1) := by decide +kernel
theorem dX7_canInline_28 : decode cX7_canInline 28 = .ok (.aload_n 0, 1) := by decide +kernel
theorem dX7_canInline_29 : decode cX7_canInline 29 = .ok (.aload_n 0, 1) := by decide +kernel
theorem dX7_canInline_30 : decode cX7_canInline 30 = .ok (.getfield 26, 3) := by decide +kernel
theorem dX7_canInline_33 : decode cX7_canInline 33 = .ok (.iload_n 2, 1) := by decide +kernel
theorem dX7_canInline_34 : decode cX7_canInline 34 = .ok (.iaload, 1) := by decide +kernel
theorem dX7_canInline_35 : decode cX7_canInline 35 = .ok (.iconst 0, 1) := by decide +kernel
theorem dX7_canInline_36 : decode cX7_canInline 36 = .ok (.invokevirtual 219, 3) := by decide +kernel
theorem dX7_canInline_39 : decode cX7_canInline 39 = .ok (.iconst 2, 1) := by decide +kernel
theorem dX7_canInline_40 : decode cX7_canInline 40 = .ok (.if_icmp .ne 39, 3) := by decide +kernel
theorem dX7_canInline_43 : decode cX7_canInline 43 = .ok (.aload_n 0, 1) := by decide +kernel
theorem dX7_canInline_44 : decode cX7_canInline 44 = .ok (.iload_n 2, 1) := by decide +kernel
theorem dX7_canInline_45 : decode cX7_canInline 45 = .ok (.invokevirtual 253, 3) := by decide +kernel
theorem dX7_canInline_48 : decode cX7_canInline 48 = .ok (.ifCond .ne 31, 3) := by decide +kernel
theorem dX7_canInline_51 : decode cX7_canInline 51 = .ok (.aload_n 0, 1) := by decide +kernel
theorem dX7_canInline_52 : decode cX7_canInline 52 = .ok (.getfield 42, 3) := by decide +kernel
theorem dX7_canInline_55 : decode cX7_canInline 55 = .ok (.iload_n 2, 1) := by decide +kernel
theorem dX7_canInline_56 : decode cX7_canInline 56 = .ok (.laload, 1) := by decide +kernel
theorem dX7_canInline_57 : decode cX7_canInline 57 = .ok (.iload_n 2, 1) := by decide +kernel
theorem dX7_canInline_58 : decode cX7_canInline 58 = .ok (.lshr, 1) := by decide +kernel
theorem dX7_canInline_59 : decode cX7_canInline 59 = .ok (.lconst 1, 1) := by decide +kernel
theorem dX7_canInline_60 : decode cX7_canInline 60 = .ok (.land, 1) := by decide +kernel
theorem dX7_canInline_61 : decode cX7_canInline 61 = .ok (.lconst 0, 1) := by decide +kernel
theorem dX7_canInline_62 : decode cX7_canInline 62 = .ok (.lcmp, 1) := by decide +kernel
theorem dX7_canInline_63 : decode cX7_canInline 63 = .ok (.ifCond .ne 16, 3) := by decide +kernel
theorem dX7_canInline_66 : decode cX7_canInline 66 = .ok (.iload_n 3, 1) := by decide +kernel
theorem dX7_canInline_67 : decode cX7_canInline 67 = .ok (.ifCond .eq 8, 3) := by decide +kernel
theorem dX7_canInline_70 : decode cX7_canInline 70 = .ok (.iload_n 3, 1) := by decide +kernel
theorem dX7_canInline_71 : decode cX7_canInline 71 = .ok (.iconst 2, 1) := by decide +kernel
theorem dX7_canInline_72 : decode cX7_canInline 72 = .ok (.if_icmp .ne 7, 3) := by decide +kernel
theorem dX7_canInline_75 : decode cX7_canInline 75 = .ok (.iconst 1, 1) := by decide +kernel
theorem dX7_canInline_76 : decode cX7_canInline 76 = .ok (.goto 4, 3) := by decide +kernel
theorem dX7_canInline_79 : decode cX7_canInline 79 = .ok (.iconst 0, 1) := by decide +kernel
theorem dX7_canInline_80 : decode cX7_canInline 80 = .ok (.ireturn, 1) := by decide +kernel
theorem dX7_canDrop_0 : decode cX7_canDrop 0 = .ok (.aload_n 0, 1) := by decide +kernel
theorem dX7_canDrop_1 : decode cX7_canDrop 1 = .ok (.iload_n 1, 1) := by decide +kernel
theorem dX7_canDrop_2 : decode cX7_canDrop 2 = .ok (.iconst 0, 1) := by decide +kernel
theorem dX7_canDrop_3 : decode cX7_canDrop 3 = .ok (.invokevirtual 219, 3) := by decide +kernel
theorem dX7_canDrop_6 : decode cX7_canDrop 6 = .ok (.iconst 5, 1) := by decide +kernel
theorem dX7_canDrop_7 : decode cX7_canDrop 7 = .ok (.if_icmp .ne 17, 3) := by decide +kernel
theorem dX7_canDrop_10 : decode cX7_canDrop 10 = .ok (.aload_n 0, 1) := by decide +kernel
theorem dX7_canDrop_11 : decode cX7_canDrop 11 = .ok (.getfield 32, 3) := by decide +kernel
theorem dX7_canDrop_14 : decode cX7_canDrop 14 = .ok (.aload_n 0, 1) := by decide +kernel
theorem dX7_canDrop_15 : decode cX7_canDrop 15 = .ok (.iload_n 1, 1) := by decide +kernel
theorem dX7_canDrop_16 : decode cX7_canDrop 16 = .ok (.iconst 1, 1) := by decide +kernel
theorem dX7_canDrop_17 : decode cX7_canDrop 17 = .ok (.invokevirtual 219, 3) := by decide +kernel
theorem dX7_canDrop_20 : decode cX7_canDrop 20 = .ok (.iaload, 1) := by decide +kernel
theorem dX7_canDrop_21 : decode cX7_canDrop 21 = .ok (.ifCond .le 5, 3) := by decide +kernel
theorem dX7_canDrop_24 : decode cX7_canDrop 24 = .ok (.iconst 0, 1) := by decide +kernel
theorem dX7_canDrop_25 : decode cX7_canDrop 25 = .ok (.ireturn, 1) := by decide +kernel
theorem dX7_canDrop_26 : decode cX7_canDrop 26 = .ok (.aload_n 0, 1) := by decide +kernel
theorem dX7_canDrop_27 : decode cX7_canDrop 27 = .ok (.aload_n 0, 1) := by decide +kernel
theorem dX7_canDrop_28 : decode cX7_canDrop 28 = .ok (.iload_n 1, 1) := by decide +kernel
theorem dX7_canDrop_29 : decode cX7_canDrop 29 = .ok (.iconst 3, 1) := by decide +kernel
theorem dX7_canDrop_30 : decode cX7_canDrop 30 = .ok (.invokevirtual 219, 3) := by decide +kernel
theorem dX7_canDrop_33 : decode cX7_canDrop 33 = .ok (.iconst 0, 1) := by decide +kernel
theorem dX7_canDrop_34 : decode cX7_canDrop 34 = .ok (.invokevirtual 219, 3) := by decide +kernel
theorem dX7_canDrop_37 : decode cX7_canDrop 37 = .ok (.iconst 3, 1) := by decide +kernel
theorem dX7_canDrop_38 : decode cX7_canDrop 38 = .ok (.if_icmp .gt 7, 3) := by decide +kernel
theorem dX7_canDrop_41 : decode cX7_canDrop 41 = .ok (.iconst 1, 1) := by decide +kernel
theorem dX7_canDrop_42 : decode cX7_canDrop 42 = .ok (.goto 4, 3) := by decide +kernel
theorem dX7_canDrop_45 : decode cX7_canDrop 45 = .ok (.iconst 0, 1) := by decide +kernel
theorem dX7_canDrop_46 : decode cX7_canDrop 46 = .ok (.ireturn, 1) := by decide +kernel
theorem dX7_told_0 : decode cX7_told 0 = .ok (.aload_n 0, 1) := by decide +kernel
theorem dX7_told_1 : decode cX7_told 1 = .ok (.iconst 0, 1) := by decide +kernel
theorem dX7_told_2 : decode cX7_told 2 = .ok (.putfield 97, 3) := by decide +kernel
theorem dX7_told_5 : decode cX7_told 5 = .ok (.aload_n 0, 1) := by decide +kernel
theorem dX7_told_6 : decode cX7_told 6 = .ok (.getfield 203, 3) := by decide +kernel
theorem dX7_told_9 : decode cX7_told 9 = .ok (.ifCond .eq 13, 3) := by decide +kernel
theorem dX7_told_12 : decode cX7_told 12 = .ok (.iload_n 1, 1) := by decide +kernel
theorem dX7_told_13 : decode cX7_told 13 = .ok (.ifCond .lt 9, 3) := by decide +kernel
theorem dX7_told_16 : decode cX7_told 16 = .ok (.iload_n 1, 1) := by decide +kernel
theorem dX7_told_17 : decode cX7_told 17 = .ok (.bipush 7, 2) := by decide +kernel
theorem dX7_told_19 : decode cX7_told 19 = .ok (.if_icmp .le 6, 3) := by decide +kernel
theorem dX7_told_22 : decode cX7_told 22 = .ok (.bipush (-2), 2) := by decide +kernel
theorem dX7_told_24 : decode cX7_told 24 = .ok (.ireturn, 1) := by decide +kernel
theorem dX7_told_25 : decode cX7_told 25 = .ok (.iconst 0, 1) := by decide +kernel
theorem dX7_told_26 : decode cX7_told 26 = .ok (.istore_n 2, 1) := by decide +kernel
theorem dX7_told_27 : decode cX7_told 27 = .ok (.iconst 0, 1) := by decide +kernel
theorem dX7_told_28 : decode cX7_told 28 = .ok (.istore_n 3, 1) := by decide +kernel
theorem dX7_told_29 : decode cX7_told 29 = .ok (.iload_n 3, 1) := by decide +kernel
theorem dX7_told_30 : decode cX7_told 30 = .ok (.aload_n 0, 1) := by decide +kernel
theorem dX7_told_31 : decode cX7_told 31 = .ok (.getfield 13, 3) := by decide +kernel
theorem dX7_told_34 : decode cX7_told 34 = .ok (.aload_n 0, 1) := by decide +kernel
theorem dX7_told_35 : decode cX7_told 35 = .ok (.getfield 101, 3) := by decide +kernel
theorem dX7_told_38 : decode cX7_told 38 = .ok (.iaload, 1) := by decide +kernel
theorem dX7_told_39 : decode cX7_told 39 = .ok (.if_icmp .ge 90, 3) := by decide +kernel
theorem dX7_told_42 : decode cX7_told 42 = .ok (.iload_n 1, 1) := by decide +kernel
theorem dX7_told_43 : decode cX7_told 43 = .ok (.iconst 3, 1) := by decide +kernel
theorem dX7_told_44 : decode cX7_told 44 = .ok (.if_icmp .lt 85, 3) := by decide +kernel
theorem dX7_told_47 : decode cX7_told 47 = .ok (.iload_n 1, 1) := by decide +kernel
theorem dX7_told_48 : decode cX7_told 48 = .ok (.bipush 6, 2) := by decide +kernel
theorem dX7_told_50 : decode cX7_told 50 = .ok (.if_icmp .gt 79, 3) := by decide +kernel
theorem dX7_told_53 : decode cX7_told 53 = .ok (.iload_n 1, 1) := by decide +kernel
theorem dX7_told_54 : decode cX7_told 54 = .ok (.iconst 3, 1) := by decide +kernel
theorem dX7_told_55 : decode cX7_told 55 = .ok (.if_icmp .ne 22, 3) := by decide +kernel
theorem dX7_told_58 : decode cX7_told 58 = .ok (.aload_n 0, 1) := by decide +kernel
theorem dX7_told_59 : decode cX7_told 59 = .ok (.iload_n 3, 1) := by decide +kernel
theorem dX7_told_60 : decode cX7_told 60 = .ok (.iconst 0, 1) := by decide +kernel
theorem dX7_told_61 : decode cX7_told 61 = .ok (.invokevirtual 219, 3) := by decide +kernel
theorem dX7_told_64 : decode cX7_told 64 = .ok (.bipush 11, 2) := by decide +kernel
theorem dX7_told_66 : decode cX7_told 66 = .ok (.if_icmp .ne 7, 3) := by decide +kernel
theorem dX7_told_69 : decode cX7_told 69 = .ok (.iconst 1, 1) := by decide +kernel
theorem dX7_told_70 : decode cX7_told 70 = .ok (.goto 38, 3) := by decide +kernel
theorem dX7_told_73 : decode cX7_told 73 = .ok (.iconst 0, 1) := by decide +kernel
theorem dX7_told_74 : decode cX7_told 74 = .ok (.goto 34, 3) := by decide +kernel
theorem dX7_told_77 : decode cX7_told 77 = .ok (.iload_n 1, 1) := by decide +kernel
theorem dX7_told_78 : decode cX7_told 78 = .ok (.iconst 4, 1) := by decide +kernel
theorem dX7_told_79 : decode cX7_told 79 = .ok (.if_icmp .ne 11, 3) := by decide +kernel
theorem dX7_told_82 : decode cX7_told 82 = .ok (.aload_n 0, 1) := by decide +kernel
theorem dX7_told_83 : decode cX7_told 83 = .ok (.iload_n 3, 1) := by decide +kernel
theorem dX7_told_84 : decode cX7_told 84 = .ok (.invokevirtual 247, 3) := by decide +kernel
theorem dX7_told_87 : decode cX7_told 87 = .ok (.goto 21, 3) := by decide +kernel
theorem dX7_told_90 : decode cX7_told 90 = .ok (.iload_n 1, 1) := by decide +kernel
theorem dX7_told_91 : decode cX7_told 91 = .ok (.iconst 5, 1) := by decide +kernel
theorem dX7_told_92 : decode cX7_told 92 = .ok (.if_icmp .ne 11, 3) := by decide +kernel
theorem dX7_told_95 : decode cX7_told 95 = .ok (.aload_n 0, 1) := by decide +kernel
theorem dX7_told_96 : decode cX7_told 96 = .ok (.iload_n 3, 1) := by decide +kernel
theorem dX7_told_97 : decode cX7_told 97 = .ok (.invokevirtual 256, 3) := by decide +kernel
theorem dX7_told_100 : decode cX7_told 100 = .ok (.goto 8, 3) := by decide +kernel
theorem dX7_told_103 : decode cX7_told 103 = .ok (.aload_n 0, 1) := by decide +kernel
theorem dX7_told_104 : decode cX7_told 104 = .ok (.iload_n 3, 1) := by decide +kernel
theorem dX7_told_105 : decode cX7_told 105 = .ok (.invokevirtual 259, 3) := by decide +kernel
theorem dX7_told_108 : decode cX7_told 108 = .ok (.istore 4, 2) := by decide +kernel
theorem dX7_told_110 : decode cX7_told 110 = .ok (.iload_n 2, 1) := by decide +kernel
theorem dX7_told_111 : decode cX7_told 111 = .ok (.iload 4, 2) := by decide +kernel
theorem dX7_told_113 : decode cX7_told 113 = .ok (.ifCond .eq 7, 3) := by decide +kernel
theorem dX7_told_116 : decode cX7_told 116 = .ok (.iconst 1, 1) := by decide +kernel
theorem dX7_told_117 : decode cX7_told 117 = .ok (.goto 4, 3) := by decide +kernel
theorem dX7_told_120 : decode cX7_told 120 = .ok (.iconst 0, 1) := by decide +kernel
theorem dX7_told_121 : decode cX7_told 121 = .ok (.iadd, 1) := by decide +kernel
theorem dX7_told_122 : decode cX7_told 122 = .ok (.istore_n 2, 1) := by decide +kernel
theorem dX7_told_123 : decode cX7_told 123 = .ok (.iinc 3 1, 3) := by decide +kernel
theorem dX7_told_126 : decode cX7_told 126 = .ok (.goto (-97), 3) := by decide +kernel
theorem dX7_told_129 : decode cX7_told 129 = .ok (.iload_n 1, 1) := by decide +kernel
theorem dX7_told_130 : decode cX7_told 130 = .ok (.ifCond .ne 15, 3) := by decide +kernel
theorem dX7_told_133 : decode cX7_told 133 = .ok (.aload_n 0, 1) := by decide +kernel
theorem dX7_told_134 : decode cX7_told 134 = .ok (.getfield 13, 3) := by decide +kernel
theorem dX7_told_137 : decode cX7_told 137 = .ok (.aload_n 0, 1) := by decide +kernel
theorem dX7_told_138 : decode cX7_told 138 = .ok (.getfield 101, 3) := by decide +kernel
theorem dX7_told_141 : decode cX7_told 141 = .ok (.iaload, 1) := by decide +kernel
theorem dX7_told_142 : decode cX7_told 142 = .ok (.goto 46, 3) := by decide +kernel
theorem dX7_told_145 : decode cX7_told 145 = .ok (.iload_n 1, 1) := by decide +kernel
theorem dX7_told_146 : decode cX7_told 146 = .ok (.iconst 1, 1) := by decide +kernel
theorem dX7_told_147 : decode cX7_told 147 = .ok (.if_icmp .ne 10, 3) := by decide +kernel
theorem dX7_told_150 : decode cX7_told 150 = .ok (.aload_n 0, 1) := by decide +kernel
theorem dX7_told_151 : decode cX7_told 151 = .ok (.getfield 216, 3) := by decide +kernel
theorem dX7_told_154 : decode cX7_told 154 = .ok (.goto 34, 3) := by decide +kernel
theorem dX7_told_157 : decode cX7_told 157 = .ok (.iload_n 1, 1) := by decide +kernel
theorem dX7_told_158 : decode cX7_told 158 = .ok (.iconst 2, 1) := by decide +kernel
theorem dX7_told_159 : decode cX7_told 159 = .ok (.if_icmp .ne 15, 3) := by decide +kernel
theorem dX7_told_162 : decode cX7_told 162 = .ok (.aload_n 0, 1) := by decide +kernel
theorem dX7_told_163 : decode cX7_told 163 = .ok (.getfield 17, 3) := by decide +kernel
theorem dX7_told_166 : decode cX7_told 166 = .ok (.aload_n 0, 1) := by decide +kernel
theorem dX7_told_167 : decode cX7_told 167 = .ok (.getfield 101, 3) := by decide +kernel
theorem dX7_told_170 : decode cX7_told 170 = .ok (.iaload, 1) := by decide +kernel
theorem dX7_told_171 : decode cX7_told 171 = .ok (.goto 17, 3) := by decide +kernel
theorem dX7_told_174 : decode cX7_told 174 = .ok (.iload_n 1, 1) := by decide +kernel
theorem dX7_told_175 : decode cX7_told 175 = .ok (.bipush 7, 2) := by decide +kernel
theorem dX7_told_177 : decode cX7_told 177 = .ok (.if_icmp .ne 10, 3) := by decide +kernel
theorem dX7_told_180 : decode cX7_told 180 = .ok (.aload_n 0, 1) := by decide +kernel
theorem dX7_told_181 : decode cX7_told 181 = .ok (.getfield 209, 3) := by decide +kernel
theorem dX7_told_184 : decode cX7_told 184 = .ok (.goto 4, 3) := by decide +kernel
theorem dX7_told_187 : decode cX7_told 187 = .ok (.iload_n 2, 1) := by decide +kernel
theorem dX7_told_188 : decode cX7_told 188 = .ok (.ireturn, 1) := by decide +kernel
theorem dX7_expr_0 : decode cX7_expr 0 = .ok (.aload_n 0, 1) := by decide +kernel
theorem dX7_expr_1 : decode cX7_expr 1 = .ok (.iconst 0, 1) := by decide +kernel
theorem dX7_expr_2 : decode cX7_expr 2 = .ok (.putfield 97, 3) := by decide +kernel
theorem dX7_expr_5 : decode cX7_expr 5 = .ok (.aload_n 0, 1) := by decide +kernel
theorem dX7_expr_6 : decode cX7_expr 6 = .ok (.iload_n 1, 1) := by decide +kernel
theorem dX7_expr_7 : decode cX7_expr 7 = .ok (.invokevirtual 262, 3) := by decide +kernel
theorem dX7_expr_10 : decode cX7_expr 10 = .ok (.ifCond .eq 13, 3) := by decide +kernel
theorem dX7_expr_13 : decode cX7_expr 13 = .ok (.iload_n 2, 1) := by decide +kernel
theorem dX7_expr_14 : decode cX7_expr 14 = .ok (.ifCond .lt 9, 3) := by decide +kernel
theorem dX7_expr_17 : decode cX7_expr 17 = .ok (.iload_n 2, 1) := by decide +kernel
theorem dX7_expr_18 : decode cX7_expr 18 = .ok (.bipush 7, 2) := by decide +kernel
theorem dX7_expr_20 : decode cX7_expr 20 = .ok (.if_icmp .le 6, 3) := by decide +kernel
theorem dX7_expr_23 : decode cX7_expr 23 = .ok (.bipush (-2), 2) := by decide +kernel
theorem dX7_expr_25 : decode cX7_expr 25 = .ok (.ireturn, 1) := by decide +kernel
theorem dX7_expr_26 : decode cX7_expr 26 = .ok (.iload_n 2, 1) := by decide +kernel
theorem dX7_expr_27 : decode cX7_expr 27 = .ok (.tableswitch 81 0 7 #[45, 52, 59, 81, 81, 81, 67, 74], 45) := by decide +kernel
theorem dX7_expr_72 : decode cX7_expr 72 = .ok (.aload_n 0, 1) := by decide +kernel
theorem dX7_expr_73 : decode cX7_expr 73 = .ok (.iload_n 1, 1) := by decide +kernel
theorem dX7_expr_74 : decode cX7_expr 74 = .ok (.iconst 0, 1) := by decide +kernel
theorem dX7_expr_75 : decode cX7_expr 75 = .ok (.invokevirtual 219, 3) := by decide +kernel
theorem dX7_expr_78 : decode cX7_expr 78 = .ok (.ireturn, 1) := by decide +kernel
theorem dX7_expr_79 : decode cX7_expr 79 = .ok (.aload_n 0, 1) := by decide +kernel
theorem dX7_expr_80 : decode cX7_expr 80 = .ok (.iload_n 1, 1) := by decide +kernel
theorem dX7_expr_81 : decode cX7_expr 81 = .ok (.iconst 1, 1) := by decide +kernel
theorem dX7_expr_82 : decode cX7_expr 82 = .ok (.invokevirtual 219, 3) := by decide +kernel
theorem dX7_expr_85 : decode cX7_expr 85 = .ok (.ireturn, 1) := by decide +kernel
theorem dX7_expr_86 : decode cX7_expr 86 = .ok (.aload_n 0, 1) := by decide +kernel
theorem dX7_expr_87 : decode cX7_expr 87 = .ok (.iload_n 1, 1) := by decide +kernel
theorem dX7_expr_88 : decode cX7_expr 88 = .ok (.bipush 6, 2) := by decide +kernel
theorem dX7_expr_90 : decode cX7_expr 90 = .ok (.invokevirtual 219, 3) := by decide +kernel
theorem dX7_expr_93 : decode cX7_expr 93 = .ok (.ireturn, 1) := by decide +kernel
theorem dX7_expr_94 : decode cX7_expr 94 = .ok (.aload_n 0, 1) := by decide +kernel
theorem dX7_expr_95 : decode cX7_expr 95 = .ok (.getfield 23, 3) := by decide +kernel
theorem dX7_expr_98 : decode cX7_expr 98 = .ok (.iload_n 1, 1) := by decide +kernel
theorem dX7_expr_99 : decode cX7_expr 99 = .ok (.iaload, 1) := by decide +kernel
theorem dX7_expr_100 : decode cX7_expr 100 = .ok (.ireturn, 1) := by decide +kernel
theorem dX7_expr_101 : decode cX7_expr 101 = .ok (.aload_n 0, 1) := by decide +kernel
theorem dX7_expr_102 : decode cX7_expr 102 = .ok (.getfield 29, 3) := by decide +kernel
theorem dX7_expr_105 : decode cX7_expr 105 = .ok (.iload_n 1, 1) := by decide +kernel
theorem dX7_expr_106 : decode cX7_expr 106 = .ok (.iaload, 1) := by decide +kernel
theorem dX7_expr_107 : decode cX7_expr 107 = .ok (.ireturn, 1) := by decide +kernel
theorem dX7_expr_108 : decode cX7_expr 108 = .ok (.aload_n 0, 1) := by decide +kernel
theorem dX7_expr_109 : decode cX7_expr 109 = .ok (.iload_n 1, 1) := by decide +kernel
theorem dX7_expr_110 : decode cX7_expr 110 = .ok (.iload_n 2, 1) := by decide +kernel
theorem dX7_expr_111 : decode cX7_expr 111 = .ok (.invokevirtual 219, 3) := by decide +kernel
theorem dX7_expr_114 : decode cX7_expr 114 = .ok (.ireturn, 1) := by decide +kernel
theorem dX7_flow_0 : decode cX7_flow 0 = .ok (.aload_n 0, 1) := by decide +kernel
theorem dX7_flow_1 : decode cX7_flow 1 = .ok (.iconst 0, 1) := by decide +kernel
theorem dX7_flow_2 : decode cX7_flow 2 = .ok (.putfield 97, 3) := by decide +kernel
theorem dX7_flow_5 : decode cX7_flow 5 = .ok (.aload_n 0, 1) := by decide +kernel
theorem dX7_flow_6 : decode cX7_flow 6 = .ok (.iload_n 1, 1) := by decide +kernel
theorem dX7_flow_7 : decode cX7_flow 7 = .ok (.invokevirtual 262, 3) := by decide +kernel
theorem dX7_flow_10 : decode cX7_flow 10 = .ok (.ifCond .eq 12, 3) := by decide +kernel
theorem dX7_flow_13 : decode cX7_flow 13 = .ok (.aload_n 0, 1) := by decide +kernel
theorem dX7_flow_14 : decode cX7_flow 14 = .ok (.getfield 35, 3) := by decide +kernel
theorem dX7_flow_17 : decode cX7_flow 17 = .ok (.iload_n 1, 1) := by decide +kernel
theorem dX7_flow_18 : decode cX7_flow 18 = .ok (.laload, 1) := by decide +kernel
theorem dX7_flow_19 : decode cX7_flow 19 = .ok (.goto 4, 3) := by decide +kernel
theorem dX7_flow_22 : decode cX7_flow 22 = .ok (.lconst 0, 1) := by decide +kernel
theorem dX7_flow_23 : decode cX7_flow 23 = .ok (.lreturn, 1) := by decide +kernel
theorem dX7_flows_0 : decode cX7_flows 0 = .ok (.aload_n 0, 1) := by decide +kernel
theorem dX7_flows_1 : decode cX7_flows 1 = .ok (.iconst 0, 1) := by decide +kernel
theorem dX7_flows_2 : decode cX7_flows 2 = .ok (.putfield 97, 3) := by decide +kernel
theorem dX7_flows_5 : decode cX7_flows 5 = .ok (.aload_n 0, 1) := by decide +kernel
theorem dX7_flows_6 : decode cX7_flows 6 = .ok (.getfield 203, 3) := by decide +kernel
theorem dX7_flows_9 : decode cX7_flows 9 = .ok (.ifCond .eq 29, 3) := by decide +kernel
theorem dX7_flows_12 : decode cX7_flows 12 = .ok (.iload_n 1, 1) := by decide +kernel
theorem dX7_flows_13 : decode cX7_flows 13 = .ok (.ifCond .lt 25, 3) := by decide +kernel
theorem dX7_flows_16 : decode cX7_flows 16 = .ok (.iload_n 1, 1) := by decide +kernel
theorem dX7_flows_17 : decode cX7_flows 17 = .ok (.aload_n 0, 1) := by decide +kernel
theorem dX7_flows_18 : decode cX7_flows 18 = .ok (.getfield 17, 3) := by decide +kernel
theorem dX7_flows_21 : decode cX7_flows 21 = .ok (.aload_n 0, 1) := by decide +kernel
theorem dX7_flows_22 : decode cX7_flows 22 = .ok (.getfield 101, 3) := by decide +kernel
theorem dX7_flows_25 : decode cX7_flows 25 = .ok (.iaload, 1) := by decide +kernel
theorem dX7_flows_26 : decode cX7_flows 26 = .ok (.if_icmp .ge 12, 3) := by decide +kernel
theorem dX7_flows_29 : decode cX7_flows 29 = .ok (.aload_n 0, 1) := by decide +kernel
theorem dX7_flows_30 : decode cX7_flows 30 = .ok (.getfield 39, 3) := by decide +kernel
theorem dX7_flows_33 : decode cX7_flows 33 = .ok (.iload_n 1, 1) := by decide +kernel
theorem dX7_flows_34 : decode cX7_flows 34 = .ok (.laload, 1) := by decide +kernel
theorem dX7_flows_35 : decode cX7_flows 35 = .ok (.goto 4, 3) := by decide +kernel
theorem dX7_flows_38 : decode cX7_flows 38 = .ok (.lconst 0, 1) := by decide +kernel
theorem dX7_flows_39 : decode cX7_flows 39 = .ok (.lreturn, 1) := by decide +kernel
theorem dX7_function_0 : decode cX7_function 0 = .ok (.aload_n 0, 1) := by decide +kernel
theorem dX7_function_1 : decode cX7_function 1 = .ok (.iconst 0, 1) := by decide +kernel
theorem dX7_function_2 : decode cX7_function 2 = .ok (.putfield 97, 3) := by decide +kernel
theorem dX7_function_5 : decode cX7_function 5 = .ok (.aload_n 0, 1) := by decide +kernel
theorem dX7_function_6 : decode cX7_function 6 = .ok (.iload_n 1, 1) := by decide +kernel
theorem dX7_function_7 : decode cX7_function 7 = .ok (.invokevirtual 265, 3) := by decide +kernel
theorem dX7_function_10 : decode cX7_function 10 = .ok (.ifCond .eq 13, 3) := by decide +kernel
theorem dX7_function_13 : decode cX7_function 13 = .ok (.iload_n 2, 1) := by decide +kernel
theorem dX7_function_14 : decode cX7_function 14 = .ok (.ifCond .lt 9, 3) := by decide +kernel
theorem dX7_function_17 : decode cX7_function 17 = .ok (.iload_n 2, 1) := by decide +kernel
theorem dX7_function_18 : decode cX7_function 18 = .ok (.bipush 6, 2) := by decide +kernel
theorem dX7_function_20 : decode cX7_function 20 = .ok (.if_icmp .le 6, 3) := by decide +kernel
theorem dX7_function_23 : decode cX7_function 23 = .ok (.bipush (-2), 2) := by decide +kernel
theorem dX7_function_25 : decode cX7_function 25 = .ok (.ireturn, 1) := by decide +kernel
theorem dX7_function_26 : decode cX7_function 26 = .ok (.aload_n 0, 1) := by decide +kernel
theorem dX7_function_27 : decode cX7_function 27 = .ok (.getfield 26, 3) := by decide +kernel
theorem dX7_function_30 : decode cX7_function 30 = .ok (.iload_n 1, 1) := by decide +kernel
theorem dX7_function_31 : decode cX7_function 31 = .ok (.iaload, 1) := by decide +kernel
theorem dX7_function_32 : decode cX7_function 32 = .ok (.istore_n 3, 1) := by decide +kernel
theorem dX7_function_33 : decode cX7_function 33 = .ok (.iconst 0, 1) := by decide +kernel
theorem dX7_function_34 : decode cX7_function 34 = .ok (.istore 4, 2) := by decide +kernel
theorem dX7_function_36 : decode cX7_function 36 = .ok (.iconst 0, 1) := by decide +kernel
theorem dX7_function_37 : decode cX7_function 37 = .ok (.istore 5, 2) := by decide +kernel
theorem dX7_function_39 : decode cX7_function 39 = .ok (.iload 5, 2) := by decide +kernel
theorem dX7_function_41 : decode cX7_function 41 = .ok (.aload_n 0, 1) := by decide +kernel
theorem dX7_function_42 : decode cX7_function 42 = .ok (.getfield 13, 3) := by decide +kernel
theorem dX7_function_45 : decode cX7_function 45 = .ok (.aload_n 0, 1) := by decide +kernel
theorem dX7_function_46 : decode cX7_function 46 = .ok (.getfield 101, 3) := by decide +kernel
theorem dX7_function_49 : decode cX7_function 49 = .ok (.iaload, 1) := by decide +kernel
theorem dX7_function_50 : decode cX7_function 50 = .ok (.if_icmp .ge 52, 3) := by decide +kernel
theorem dX7_function_53 : decode cX7_function 53 = .ok (.iload 4, 2) := by decide +kernel
theorem dX7_function_55 : decode cX7_function 55 = .ok (.aload_n 0, 1) := by decide +kernel
theorem dX7_function_56 : decode cX7_function 56 = .ok (.iload 5, 2) := by decide +kernel
theorem dX7_function_58 : decode cX7_function 58 = .ok (.iconst 0, 1) := by decide +kernel
theorem dX7_function_59 : decode cX7_function 59 = .ok (.invokevirtual 219, 3) := by decide +kernel
theorem dX7_function_62 : decode cX7_function 62 = .ok (.bipush 11, 2) := by decide +kernel
theorem dX7_function_64 : decode cX7_function 64 = .ok (.if_icmp .ne 28, 3) := by decide +kernel
theorem dX7_function_67 : decode cX7_function 67 = .ok (.aload_n 0, 1) := by decide +kernel
theorem dX7_function_68 : decode cX7_function 68 = .ok (.getfield 35, 3) := by decide +kernel
theorem dX7_function_71 : decode cX7_function 71 = .ok (.aload_n 0, 1) := by decide +kernel
theorem dX7_function_72 : decode cX7_function 72 = .ok (.iload 5, 2) := by decide +kernel
theorem dX7_function_74 : decode cX7_function 74 = .ok (.iconst 3, 1) := by decide +kernel
theorem dX7_function_75 : decode cX7_function 75 = .ok (.invokevirtual 219, 3) := by decide +kernel
theorem dX7_function_78 : decode cX7_function 78 = .ok (.laload, 1) := by decide +kernel
theorem dX7_function_79 : decode cX7_function 79 = .ok (.iload_n 1, 1) := by decide +kernel
theorem dX7_function_80 : decode cX7_function 80 = .ok (.lshr, 1) := by decide +kernel
theorem dX7_function_81 : decode cX7_function 81 = .ok (.lconst 1, 1) := by decide +kernel
theorem dX7_function_82 : decode cX7_function 82 = .ok (.land, 1) := by decide +kernel
theorem dX7_function_83 : decode cX7_function 83 = .ok (.lconst 1, 1) := by decide +kernel
theorem dX7_function_84 : decode cX7_function 84 = .ok (.lcmp, 1) := by decide +kernel
theorem dX7_function_85 : decode cX7_function 85 = .ok (.ifCond .ne 7, 3) := by decide +kernel
theorem dX7_function_88 : decode cX7_function 88 = .ok (.iconst 1, 1) := by decide +kernel
theorem dX7_function_89 : decode cX7_function 89 = .ok (.goto 4, 3) := by decide +kernel
theorem dX7_function_92 : decode cX7_function 92 = .ok (.iconst 0, 1) := by decide +kernel
theorem dX7_function_93 : decode cX7_function 93 = .ok (.iadd, 1) := by decide +kernel
theorem dX7_function_94 : decode cX7_function 94 = .ok (.istore 4, 2) := by decide +kernel
theorem dX7_function_96 : decode cX7_function 96 = .ok (.iinc 5 1, 3) := by decide +kernel
theorem dX7_function_99 : decode cX7_function 99 = .ok (.goto (-60), 3) := by decide +kernel
theorem dX7_function_102 : decode cX7_function 102 = .ok (.iload_n 2, 1) := by decide +kernel
theorem dX7_function_103 : decode cX7_function 103 = .ok (.tableswitch 69 0 5 #[37, 39, 46, 53, 60, 66], 37) := by decide +kernel
theorem dX7_function_140 : decode cX7_function 140 = .ok (.iload_n 3, 1) := by decide +kernel
theorem dX7_function_141 : decode cX7_function 141 = .ok (.ireturn, 1) := by decide +kernel
theorem dX7_function_142 : decode cX7_function 142 = .ok (.aload_n 0, 1) := by decide +kernel
theorem dX7_function_143 : decode cX7_function 143 = .ok (.iload_n 3, 1) := by decide +kernel
theorem dX7_function_144 : decode cX7_function 144 = .ok (.iconst 3, 1) := by decide +kernel
theorem dX7_function_145 : decode cX7_function 145 = .ok (.invokevirtual 219, 3) := by decide +kernel
theorem dX7_function_148 : decode cX7_function 148 = .ok (.ireturn, 1) := by decide +kernel
theorem dX7_function_149 : decode cX7_function 149 = .ok (.aload_n 0, 1) := by decide +kernel
theorem dX7_function_150 : decode cX7_function 150 = .ok (.iload_n 3, 1) := by decide +kernel
theorem dX7_function_151 : decode cX7_function 151 = .ok (.iconst 1, 1) := by decide +kernel
theorem dX7_function_152 : decode cX7_function 152 = .ok (.invokevirtual 219, 3) := by decide +kernel
theorem dX7_function_155 : decode cX7_function 155 = .ok (.ireturn, 1) := by decide +kernel
theorem dX7_function_156 : decode cX7_function 156 = .ok (.aload_n 0, 1) := by decide +kernel
theorem dX7_function_157 : decode cX7_function 157 = .ok (.iload_n 3, 1) := by decide +kernel
theorem dX7_function_158 : decode cX7_function 158 = .ok (.iconst 2, 1) := by decide +kernel
theorem dX7_function_159 : decode cX7_function 159 = .ok (.invokevirtual 219, 3) := by decide +kernel
theorem dX7_function_162 : decode cX7_function 162 = .ok (.ireturn, 1) := by decide +kernel
theorem dX7_function_163 : decode cX7_function 163 = .ok (.aload_n 0, 1) := by decide +kernel
theorem dX7_function_164 : decode cX7_function 164 = .ok (.iload_n 1, 1) := by decide +kernel
theorem dX7_function_165 : decode cX7_function 165 = .ok (.invokevirtual 253, 3) := by decide +kernel
theorem dX7_function_168 : decode cX7_function 168 = .ok (.ireturn, 1) := by decide +kernel
theorem dX7_function_169 : decode cX7_function 169 = .ok (.iload 4, 2) := by decide +kernel
theorem dX7_function_171 : decode cX7_function 171 = .ok (.ireturn, 1) := by decide +kernel
theorem dX7_function_172 : decode cX7_function 172 = .ok (.aload_n 0, 1) := by decide +kernel
theorem dX7_function_173 : decode cX7_function 173 = .ok (.getfield 42, 3) := by decide +kernel
theorem dX7_function_176 : decode cX7_function 176 = .ok (.iload_n 1, 1) := by decide +kernel
theorem dX7_function_177 : decode cX7_function 177 = .ok (.laload, 1) := by decide +kernel
theorem dX7_function_178 : decode cX7_function 178 = .ok (.iload_n 1, 1) := by decide +kernel
theorem dX7_function_179 : decode cX7_function 179 = .ok (.lshr, 1) := by decide +kernel
theorem dX7_function_180 : decode cX7_function 180 = .ok (.lconst 1, 1) := by decide +kernel
theorem dX7_function_181 : decode cX7_function 181 = .ok (.land, 1) := by decide +kernel
theorem dX7_function_182 : decode cX7_function 182 = .ok (.l2i, 1) := by decide +kernel
theorem dX7_function_183 : decode cX7_function 183 = .ok (.ireturn, 1) := by decide +kernel
theorem dX7_reaches_0 : decode cX7_reaches 0 = .ok (.aload_n 0, 1) := by decide +kernel
theorem dX7_reaches_1 : decode cX7_reaches 1 = .ok (.iconst 0, 1) := by decide +kernel
theorem dX7_reaches_2 : decode cX7_reaches 2 = .ok (.putfield 97, 3) := by decide +kernel
theorem dX7_reaches_5 : decode cX7_reaches 5 = .ok (.aload_n 0, 1) := by decide +kernel
theorem dX7_reaches_6 : decode cX7_reaches 6 = .ok (.iload_n 1, 1) := by decide +kernel
theorem dX7_reaches_7 : decode cX7_reaches 7 = .ok (.invokevirtual 265, 3) := by decide +kernel
theorem dX7_reaches_10 : decode cX7_reaches 10 = .ok (.ifCond .eq 25, 3) := by decide +kernel
theorem dX7_reaches_13 : decode cX7_reaches 13 = .ok (.aload_n 0, 1) := by decide +kernel
theorem dX7_reaches_14 : decode cX7_reaches 14 = .ok (.iload_n 2, 1) := by decide +kernel
theorem dX7_reaches_15 : decode cX7_reaches 15 = .ok (.invokevirtual 265, 3) := by decide +kernel
theorem dX7_reaches_18 : decode cX7_reaches 18 = .ok (.ifCond .eq 17, 3) := by decide +kernel
theorem dX7_reaches_21 : decode cX7_reaches 21 = .ok (.aload_n 0, 1) := by decide +kernel
theorem dX7_reaches_22 : decode cX7_reaches 22 = .ok (.getfield 42, 3) := by decide +kernel
theorem dX7_reaches_25 : decode cX7_reaches 25 = .ok (.iload_n 1, 1) := by decide +kernel
theorem dX7_reaches_26 : decode cX7_reaches 26 = .ok (.laload, 1) := by decide +kernel
theorem dX7_reaches_27 : decode cX7_reaches 27 = .ok (.iload_n 2, 1) := by decide +kernel
theorem dX7_reaches_28 : decode cX7_reaches 28 = .ok (.lshr, 1) := by decide +kernel
theorem dX7_reaches_29 : decode cX7_reaches 29 = .ok (.lconst 1, 1) := by decide +kernel
theorem dX7_reaches_30 : decode cX7_reaches 30 = .ok (.land, 1) := by decide +kernel
theorem dX7_reaches_31 : decode cX7_reaches 31 = .ok (.l2i, 1) := by decide +kernel
theorem dX7_reaches_32 : decode cX7_reaches 32 = .ok (.goto 5, 3) := by decide +kernel
theorem dX7_reaches_35 : decode cX7_reaches 35 = .ok (.bipush (-2), 2) := by decide +kernel
theorem dX7_reaches_37 : decode cX7_reaches 37 = .ok (.ireturn, 1) := by decide +kernel
theorem dX7_single_0 : decode cX7_single 0 = .ok (.aload_n 0, 1) := by decide +kernel
theorem dX7_single_1 : decode cX7_single 1 = .ok (.iconst 0, 1) := by decide +kernel
theorem dX7_single_2 : decode cX7_single 2 = .ok (.putfield 97, 3) := by decide +kernel
theorem dX7_single_5 : decode cX7_single 5 = .ok (.aload_n 0, 1) := by decide +kernel
theorem dX7_single_6 : decode cX7_single 6 = .ok (.iload_n 1, 1) := by decide +kernel
theorem dX7_single_7 : decode cX7_single 7 = .ok (.invokevirtual 262, 3) := by decide +kernel
theorem dX7_single_10 : decode cX7_single 10 = .ok (.ifCond .eq 14, 3) := by decide +kernel
theorem dX7_single_13 : decode cX7_single 13 = .ok (.aload_n 0, 1) := by decide +kernel
theorem dX7_single_14 : decode cX7_single 14 = .ok (.iload_n 1, 1) := by decide +kernel
theorem dX7_single_15 : decode cX7_single 15 = .ok (.iconst 0, 1) := by decide +kernel
theorem dX7_single_16 : decode cX7_single 16 = .ok (.invokevirtual 219, 3) := by decide +kernel
theorem dX7_single_19 : decode cX7_single 19 = .ok (.bipush 11, 2) := by decide +kernel
theorem dX7_single_21 : decode cX7_single 21 = .ok (.if_icmp .eq 6, 3) := by decide +kernel
theorem dX7_single_24 : decode cX7_single 24 = .ok (.bipush (-2), 2) := by decide +kernel
theorem dX7_single_26 : decode cX7_single 26 = .ok (.ireturn, 1) := by decide +kernel
theorem dX7_single_27 : decode cX7_single 27 = .ok (.aload_n 0, 1) := by decide +kernel
theorem dX7_single_28 : decode cX7_single 28 = .ok (.iload_n 1, 1) := by decide +kernel
theorem dX7_single_29 : decode cX7_single 29 = .ok (.invokevirtual 247, 3) := by decide +kernel
theorem dX7_single_32 : decode cX7_single 32 = .ok (.ifCond .eq 11, 3) := by decide +kernel
theorem dX7_single_35 : decode cX7_single 35 = .ok (.aload_n 0, 1) := by decide +kernel
theorem dX7_single_36 : decode cX7_single 36 = .ok (.iload_n 1, 1) := by decide +kernel
theorem dX7_single_37 : decode cX7_single 37 = .ok (.invokevirtual 250, 3) := by decide +kernel
theorem dX7_single_40 : decode cX7_single 40 = .ok (.goto 4, 3) := by decide +kernel
theorem dX7_single_43 : decode cX7_single 43 = .ok (.iconst (-1), 1) := by decide +kernel
theorem dX7_single_44 : decode cX7_single 44 = .ok (.ireturn, 1) := by decide +kernel
theorem dX7_chain_0 : decode cX7_chain 0 = .ok (.aload_n 0, 1) := by decide +kernel
theorem dX7_chain_1 : decode cX7_chain 1 = .ok (.getfield 76, 3) := by decide +kernel
theorem dX7_chain_4 : decode cX7_chain 4 = .ok (.aload_n 0, 1) := by decide +kernel
theorem dX7_chain_5 : decode cX7_chain 5 = .ok (.getfield 268, 3) := by decide +kernel
theorem dX7_chain_8 : decode cX7_chain 8 = .ok (.iload_n 1, 1) := by decide +kernel
theorem dX7_chain_9 : decode cX7_chain 9 = .ok (.iastore, 1) := by decide +kernel
theorem dX7_chain_10 : decode cX7_chain 10 = .ok (.aload_n 0, 1) := by decide +kernel
theorem dX7_chain_11 : decode cX7_chain 11 = .ok (.getfield 79, 3) := by decide +kernel
theorem dX7_chain_14 : decode cX7_chain 14 = .ok (.aload_n 0, 1) := by decide +kernel
theorem dX7_chain_15 : decode cX7_chain 15 = .ok (.getfield 268, 3) := by decide +kernel
theorem dX7_chain_18 : decode cX7_chain 18 = .ok (.aload_n 0, 1) := by decide +kernel
theorem dX7_chain_19 : decode cX7_chain 19 = .ok (.getfield 271, 3) := by decide +kernel
theorem dX7_chain_22 : decode cX7_chain 22 = .ok (.iastore, 1) := by decide +kernel
theorem dX7_chain_23 : decode cX7_chain 23 = .ok (.aload_n 0, 1) := by decide +kernel
theorem dX7_chain_24 : decode cX7_chain 24 = .ok (.getfield 82, 3) := by decide +kernel
theorem dX7_chain_27 : decode cX7_chain 27 = .ok (.aload_n 0, 1) := by decide +kernel
theorem dX7_chain_28 : decode cX7_chain 28 = .ok (.getfield 268, 3) := by decide +kernel
theorem dX7_chain_31 : decode cX7_chain 31 = .ok (.aload_n 0, 1) := by decide +kernel
theorem dX7_chain_32 : decode cX7_chain 32 = .ok (.getfield 274, 3) := by decide +kernel
theorem dX7_chain_35 : decode cX7_chain 35 = .ok (.lastore, 1) := by decide +kernel
theorem dX7_chain_36 : decode cX7_chain 36 = .ok (.aload_n 0, 1) := by decide +kernel
theorem dX7_chain_37 : decode cX7_chain 37 = .ok (.getfield 85, 3) := by decide +kernel
theorem dX7_chain_40 : decode cX7_chain 40 = .ok (.aload_n 0, 1) := by decide +kernel
theorem dX7_chain_41 : decode cX7_chain 41 = .ok (.getfield 268, 3) := by decide +kernel
theorem dX7_chain_44 : decode cX7_chain 44 = .ok (.aload_n 0, 1) := by decide +kernel
theorem dX7_chain_45 : decode cX7_chain 45 = .ok (.getfield 277, 3) := by decide +kernel
theorem dX7_chain_48 : decode cX7_chain 48 = .ok (.iastore, 1) := by decide +kernel
theorem dX7_chain_49 : decode cX7_chain 49 = .ok (.aload_n 0, 1) := by decide +kernel
theorem dX7_chain_50 : decode cX7_chain 50 = .ok (.getfield 88, 3) := by decide +kernel
theorem dX7_chain_53 : decode cX7_chain 53 = .ok (.aload_n 0, 1) := by decide +kernel
theorem dX7_chain_54 : decode cX7_chain 54 = .ok (.getfield 268, 3) := by decide +kernel
theorem dX7_chain_57 : decode cX7_chain 57 = .ok (.iload_n 2, 1) := by decide +kernel
theorem dX7_chain_58 : decode cX7_chain 58 = .ok (.iastore, 1) := by decide +kernel
theorem dX7_chain_59 : decode cX7_chain 59 = .ok (.aload_n 0, 1) := by decide +kernel
theorem dX7_chain_60 : decode cX7_chain 60 = .ok (.dup, 1) := by decide +kernel
theorem dX7_chain_61 : decode cX7_chain 61 = .ok (.getfield 268, 3) := by decide +kernel
theorem dX7_chain_64 : decode cX7_chain 64 = .ok (.iconst 1, 1) := by decide +kernel
theorem dX7_chain_65 : decode cX7_chain 65 = .ok (.iadd, 1) := by decide +kernel
theorem dX7_chain_66 : decode cX7_chain 66 = .ok (.putfield 268, 3) := by decide +kernel
theorem dX7_chain_69 : decode cX7_chain 69 = .ok (.aload_n 0, 1) := by decide +kernel
theorem dX7_chain_70 : decode cX7_chain 70 = .ok (.getfield 268, 3) := by decide +kernel
theorem dX7_chain_73 : decode cX7_chain 73 = .ok (.iconst 1, 1) := by decide +kernel
theorem dX7_chain_74 : decode cX7_chain 74 = .ok (.isub, 1) := by decide +kernel
theorem dX7_chain_75 : decode cX7_chain 75 = .ok (.ireturn, 1) := by decide +kernel
theorem dX7_push_0 : decode cX7_push 0 = .ok (.aload_n 0, 1) := by decide +kernel
theorem dX7_push_1 : decode cX7_push 1 = .ok (.getfield 58, 3) := by decide +kernel
theorem dX7_push_4 : decode cX7_push 4 = .ok (.aload_n 0, 1) := by decide +kernel
theorem dX7_push_5 : decode cX7_push 5 = .ok (.getfield 280, 3) := by decide +kernel
theorem dX7_push_8 : decode cX7_push 8 = .ok (.iload_n 1, 1) := by decide +kernel
theorem dX7_push_9 : decode cX7_push 9 = .ok (.iastore, 1) := by decide +kernel
theorem dX7_push_10 : decode cX7_push 10 = .ok (.aload_n 0, 1) := by decide +kernel
theorem dX7_push_11 : decode cX7_push 11 = .ok (.getfield 61, 3) := by decide +kernel
theorem dX7_push_14 : decode cX7_push 14 = .ok (.aload_n 0, 1) := by decide +kernel
theorem dX7_push_15 : decode cX7_push 15 = .ok (.getfield 280, 3) := by decide +kernel
theorem dX7_push_18 : decode cX7_push 18 = .ok (.iload_n 2, 1) := by decide +kernel
theorem dX7_push_19 : decode cX7_push 19 = .ok (.iastore, 1) := by decide +kernel
theorem dX7_push_20 : decode cX7_push 20 = .ok (.aload_n 0, 1) := by decide +kernel
theorem dX7_push_21 : decode cX7_push 21 = .ok (.getfield 64, 3) := by decide +kernel
theorem dX7_push_24 : decode cX7_push 24 = .ok (.aload_n 0, 1) := by decide +kernel
theorem dX7_push_25 : decode cX7_push 25 = .ok (.getfield 280, 3) := by decide +kernel
theorem dX7_push_28 : decode cX7_push 28 = .ok (.iconst 0, 1) := by decide +kernel
theorem dX7_push_29 : decode cX7_push 29 = .ok (.iastore, 1) := by decide +kernel
theorem dX7_push_30 : decode cX7_push 30 = .ok (.aload_n 0, 1) := by decide +kernel
theorem dX7_push_31 : decode cX7_push 31 = .ok (.dup, 1) := by decide +kernel
theorem dX7_push_32 : decode cX7_push 32 = .ok (.getfield 280, 3) := by decide +kernel
theorem dX7_push_35 : decode cX7_push 35 = .ok (.iconst 1, 1) := by decide +kernel
theorem dX7_push_36 : decode cX7_push 36 = .ok (.iadd, 1) := by decide +kernel
theorem dX7_push_37 : decode cX7_push 37 = .ok (.putfield 280, 3) := by decide +kernel
theorem dX7_push_40 : decode cX7_push 40 = .ok (.return_, 1) := by decide +kernel
theorem dX7_run_0 : decode cX7_run 0 = .ok (.aload_n 0, 1) := by decide +kernel
theorem dX7_run_1 : decode cX7_run 1 = .ok (.iconst 0, 1) := by decide +kernel
theorem dX7_run_2 : decode cX7_run 2 = .ok (.putfield 97, 3) := by decide +kernel
theorem dX7_run_5 : decode cX7_run 5 = .ok (.aload_n 0, 1) := by decide +kernel
theorem dX7_run_6 : decode cX7_run 6 = .ok (.getfield 203, 3) := by decide +kernel
theorem dX7_run_9 : decode cX7_run 9 = .ok (.ifCond .eq 15, 3) := by decide +kernel
theorem dX7_run_12 : decode cX7_run 12 = .ok (.iload_n 1, 1) := by decide +kernel
theorem dX7_run_13 : decode cX7_run 13 = .ok (.iconst 1, 1) := by decide +kernel
theorem dX7_run_14 : decode cX7_run 14 = .ok (.if_icmp .lt 10, 3) := by decide +kernel
theorem dX7_run_17 : decode cX7_run 17 = .ok (.iload_n 1, 1) := by decide +kernel
theorem dX7_run_18 : decode cX7_run 18 = .ok (.sipush 2000, 3) := by decide +kernel
theorem dX7_run_21 : decode cX7_run 21 = .ok (.if_icmp .le 6, 3) := by decide +kernel
theorem dX7_run_24 : decode cX7_run 24 = .ok (.bipush (-2), 2) := by decide +kernel
theorem dX7_run_26 : decode cX7_run 26 = .ok (.ireturn, 1) := by decide +kernel
theorem dX7_run_27 : decode cX7_run 27 = .ok (.aload_n 0, 1) := by decide +kernel
theorem dX7_run_28 : decode cX7_run 28 = .ok (.iconst 1, 1) := by decide +kernel
theorem dX7_run_29 : decode cX7_run 29 = .ok (.putfield 206, 3) := by decide +kernel
theorem dX7_run_32 : decode cX7_run 32 = .ok (.aload_n 0, 1) := by decide +kernel
theorem dX7_run_33 : decode cX7_run 33 = .ok (.iconst 0, 1) := by decide +kernel
theorem dX7_run_34 : decode cX7_run 34 = .ok (.putfield 209, 3) := by decide +kernel
theorem dX7_run_37 : decode cX7_run 37 = .ok (.aload_n 0, 1) := by decide +kernel
theorem dX7_run_38 : decode cX7_run 38 = .ok (.lconst 0, 1) := by decide +kernel
theorem dX7_run_39 : decode cX7_run 39 = .ok (.putfield 212, 3) := by decide +kernel
theorem dX7_run_42 : decode cX7_run 42 = .ok (.aload_n 0, 1) := by decide +kernel
theorem dX7_run_43 : decode cX7_run 43 = .ok (.iconst 0, 1) := by decide +kernel
theorem dX7_run_44 : decode cX7_run 44 = .ok (.putfield 280, 3) := by decide +kernel
theorem dX7_run_47 : decode cX7_run 47 = .ok (.aload_n 0, 1) := by decide +kernel
theorem dX7_run_48 : decode cX7_run 48 = .ok (.iconst 0, 1) := by decide +kernel
theorem dX7_run_49 : decode cX7_run 49 = .ok (.putfield 268, 3) := by decide +kernel
theorem dX7_run_52 : decode cX7_run 52 = .ok (.aload_n 0, 1) := by decide +kernel
theorem dX7_run_53 : decode cX7_run 53 = .ok (.iconst (-1), 1) := by decide +kernel
theorem dX7_run_54 : decode cX7_run 54 = .ok (.putfield 283, 3) := by decide +kernel
theorem dX7_run_57 : decode cX7_run 57 = .ok (.iconst 0, 1) := by decide +kernel
theorem dX7_run_58 : decode cX7_run 58 = .ok (.istore_n 2, 1) := by decide +kernel
theorem dX7_run_59 : decode cX7_run 59 = .ok (.iload_n 2, 1) := by decide +kernel
theorem dX7_run_60 : decode cX7_run 60 = .ok (.sipush 200, 3) := by decide +kernel
theorem dX7_run_63 : decode cX7_run 63 = .ok (.if_icmp .ge 16, 3) := by decide +kernel
theorem dX7_run_66 : decode cX7_run 66 = .ok (.aload_n 0, 1) := by decide +kernel
theorem dX7_run_67 : decode cX7_run 67 = .ok (.getfield 45, 3) := by decide +kernel
theorem dX7_run_70 : decode cX7_run 70 = .ok (.iload_n 2, 1) := by decide +kernel
theorem dX7_run_71 : decode cX7_run 71 = .ok (.lconst 0, 1) := by decide +kernel
theorem dX7_run_72 : decode cX7_run 72 = .ok (.lastore, 1) := by decide +kernel
theorem dX7_run_73 : decode cX7_run 73 = .ok (.iinc 2 1, 3) := by decide +kernel
theorem dX7_run_76 : decode cX7_run 76 = .ok (.goto (-17), 3) := by decide +kernel
theorem dX7_run_79 : decode cX7_run 79 = .ok (.aload_n 0, 1) := by decide +kernel
theorem dX7_run_80 : decode cX7_run 80 = .ok (.iconst 0, 1) := by decide +kernel
theorem dX7_run_81 : decode cX7_run 81 = .ok (.iconst (-1), 1) := by decide +kernel
theorem dX7_run_82 : decode cX7_run 82 = .ok (.invokevirtual 286, 3) := by decide +kernel
theorem dX7_run_85 : decode cX7_run 85 = .ok (.aload_n 0, 1) := by decide +kernel
theorem dX7_run_86 : decode cX7_run 86 = .ok (.getfield 280, 3) := by decide +kernel
theorem dX7_run_89 : decode cX7_run 89 = .ok (.ifCond .le 65, 3) := by decide +kernel
theorem dX7_run_92 : decode cX7_run 92 = .ok (.aload_n 0, 1) := by decide +kernel
theorem dX7_run_93 : decode cX7_run 93 = .ok (.getfield 283, 3) := by decide +kernel
theorem dX7_run_96 : decode cX7_run 96 = .ok (.iconst (-1), 1) := by decide +kernel
theorem dX7_run_97 : decode cX7_run 97 = .ok (.if_icmp .ne 57, 3) := by decide +kernel
theorem dX7_run_100 : decode cX7_run 100 = .ok (.aload_n 0, 1) := by decide +kernel
theorem dX7_run_101 : decode cX7_run 101 = .ok (.getfield 64, 3) := by decide +kernel
theorem dX7_run_104 : decode cX7_run 104 = .ok (.aload_n 0, 1) := by decide +kernel
theorem dX7_run_105 : decode cX7_run 105 = .ok (.getfield 280, 3) := by decide +kernel
theorem dX7_run_108 : decode cX7_run 108 = .ok (.iconst 1, 1) := by decide +kernel
theorem dX7_run_109 : decode cX7_run 109 = .ok (.isub, 1) := by decide +kernel
theorem dX7_run_110 : decode cX7_run 110 = .ok (.iaload, 1) := by decide +kernel
theorem dX7_run_111 : decode cX7_run 111 = .ok (.ifCond .ne 36, 3) := by decide +kernel
theorem dX7_run_114 : decode cX7_run 114 = .ok (.aload_n 0, 1) := by decide +kernel
theorem dX7_run_115 : decode cX7_run 115 = .ok (.getfield 209, 3) := by decide +kernel
theorem dX7_run_118 : decode cX7_run 118 = .ok (.iload_n 1, 1) := by decide +kernel
theorem dX7_run_119 : decode cX7_run 119 = .ok (.if_icmp .ne 11, 3) := by decide +kernel
theorem dX7_run_122 : decode cX7_run 122 = .ok (.aload_n 0, 1) := by decide +kernel
theorem dX7_run_123 : decode cX7_run 123 = .ok (.iconst 3, 1) := by decide +kernel
theorem dX7_run_124 : decode cX7_run 124 = .ok (.putfield 283, 3) := by decide +kernel
theorem dX7_run_127 : decode cX7_run 127 = .ok (.goto (-42), 3) := by decide +kernel
theorem dX7_run_130 : decode cX7_run 130 = .ok (.aload_n 0, 1) := by decide +kernel
theorem dX7_run_131 : decode cX7_run 131 = .ok (.dup, 1) := by decide +kernel
theorem dX7_run_132 : decode cX7_run 132 = .ok (.getfield 209, 3) := by decide +kernel
theorem dX7_run_135 : decode cX7_run 135 = .ok (.iconst 1, 1) := by decide +kernel
theorem dX7_run_136 : decode cX7_run 136 = .ok (.iadd, 1) := by decide +kernel
theorem dX7_run_137 : decode cX7_run 137 = .ok (.putfield 209, 3) := by decide +kernel
theorem dX7_run_140 : decode cX7_run 140 = .ok (.aload_n 0, 1) := by decide +kernel
theorem dX7_run_141 : decode cX7_run 141 = .ok (.invokevirtual 290, 3) := by decide +kernel
theorem dX7_run_144 : decode cX7_run 144 = .ok (.goto (-59), 3) := by decide +kernel
theorem dX7_run_147 : decode cX7_run 147 = .ok (.aload_n 0, 1) := by decide +kernel
theorem dX7_run_148 : decode cX7_run 148 = .ok (.invokevirtual 293, 3) := by decide +kernel
theorem dX7_run_151 : decode cX7_run 151 = .ok (.goto (-66), 3) := by decide +kernel
theorem dX7_run_154 : decode cX7_run 154 = .ok (.aload_n 0, 1) := by decide +kernel
theorem dX7_run_155 : decode cX7_run 155 = .ok (.getfield 283, 3) := by decide +kernel
theorem dX7_run_158 : decode cX7_run 158 = .ok (.iconst (-1), 1) := by decide +kernel
theorem dX7_run_159 : decode cX7_run 159 = .ok (.if_icmp .ne 19, 3) := by decide +kernel
theorem dX7_run_162 : decode cX7_run 162 = .ok (.aload_n 0, 1) := by decide +kernel
theorem dX7_run_163 : decode cX7_run 163 = .ok (.aload_n 0, 1) := by decide +kernel
theorem dX7_run_164 : decode cX7_run 164 = .ok (.getfield 271, 3) := by decide +kernel
theorem dX7_run_167 : decode cX7_run 167 = .ok (.putfield 283, 3) := by decide +kernel
theorem dX7_run_170 : decode cX7_run 170 = .ok (.aload_n 0, 1) := by decide +kernel
theorem dX7_run_171 : decode cX7_run 171 = .ok (.aload_n 0, 1) := by decide +kernel
theorem dX7_run_172 : decode cX7_run 172 = .ok (.getfield 274, 3) := by decide +kernel
theorem dX7_run_175 : decode cX7_run 175 = .ok (.putfield 212, 3) := by decide +kernel
theorem dX7_run_178 : decode cX7_run 178 = .ok (.aload_n 0, 1) := by decide +kernel
theorem dX7_run_179 : decode cX7_run 179 = .ok (.getfield 283, 3) := by decide +kernel
theorem dX7_run_182 : decode cX7_run 182 = .ok (.ireturn, 1) := by decide +kernel
theorem dX7_work_0 : decode cX7_work 0 = .ok (.aload_n 0, 1) := by decide +kernel
theorem dX7_work_1 : decode cX7_work 1 = .ok (.getfield 58, 3) := by decide +kernel
theorem dX7_work_4 : decode cX7_work 4 = .ok (.aload_n 0, 1) := by decide +kernel
theorem dX7_work_5 : decode cX7_work 5 = .ok (.getfield 280, 3) := by decide +kernel
theorem dX7_work_8 : decode cX7_work 8 = .ok (.iconst 1, 1) := by decide +kernel
theorem dX7_work_9 : decode cX7_work 9 = .ok (.isub, 1) := by decide +kernel
theorem dX7_work_10 : decode cX7_work 10 = .ok (.iaload, 1) := by decide +kernel
theorem dX7_work_11 : decode cX7_work 11 = .ok (.istore_n 1, 1) := by decide +kernel
theorem dX7_work_12 : decode cX7_work 12 = .ok (.aload_n 0, 1) := by decide +kernel
theorem dX7_work_13 : decode cX7_work 13 = .ok (.getfield 61, 3) := by decide +kernel
theorem dX7_work_16 : decode cX7_work 16 = .ok (.aload_n 0, 1) := by decide +kernel
theorem dX7_work_17 : decode cX7_work 17 = .ok (.getfield 280, 3) := by decide +kernel
theorem dX7_work_20 : decode cX7_work 20 = .ok (.iconst 1, 1) := by decide +kernel
theorem dX7_work_21 : decode cX7_work 21 = .ok (.isub, 1) := by decide +kernel
theorem dX7_work_22 : decode cX7_work 22 = .ok (.iaload, 1) := by decide +kernel
theorem dX7_work_23 : decode cX7_work 23 = .ok (.istore_n 2, 1) := by decide +kernel
theorem dX7_work_24 : decode cX7_work 24 = .ok (.aload_n 0, 1) := by decide +kernel
theorem dX7_work_25 : decode cX7_work 25 = .ok (.iload_n 1, 1) := by decide +kernel
theorem dX7_work_26 : decode cX7_work 26 = .ok (.iconst 0, 1) := by decide +kernel
theorem dX7_work_27 : decode cX7_work 27 = .ok (.invokevirtual 219, 3) := by decide +kernel
theorem dX7_work_30 : decode cX7_work 30 = .ok (.istore_n 3, 1) := by decide +kernel
theorem dX7_work_31 : decode cX7_work 31 = .ok (.iload_n 3, 1) := by decide +kernel
theorem dX7_work_32 : decode cX7_work 32 = .ok (.ifCond .ne 80, 3) := by decide +kernel
theorem dX7_work_35 : decode cX7_work 35 = .ok (.iload_n 2, 1) := by decide +kernel
theorem dX7_work_36 : decode cX7_work 36 = .ok (.istore 4, 2) := by decide +kernel
theorem dX7_work_38 : decode cX7_work 38 = .ok (.aload_n 0, 1) := by decide +kernel
theorem dX7_work_39 : decode cX7_work 39 = .ok (.getfield 76, 3) := by decide +kernel
theorem dX7_work_42 : decode cX7_work 42 = .ok (.iload 4, 2) := by decide +kernel
theorem dX7_work_44 : decode cX7_work 44 = .ok (.iaload, 1) := by decide +kernel
theorem dX7_work_45 : decode cX7_work 45 = .ok (.aload_n 0, 1) := by decide +kernel
theorem dX7_work_46 : decode cX7_work 46 = .ok (.iload_n 1, 1) := by decide +kernel
theorem dX7_work_47 : decode cX7_work 47 = .ok (.iconst 1, 1) := by decide +kernel
theorem dX7_work_48 : decode cX7_work 48 = .ok (.invokevirtual 219, 3) := by decide +kernel
theorem dX7_work_51 : decode cX7_work 51 = .ok (.if_icmp .eq 15, 3) := by decide +kernel
theorem dX7_work_54 : decode cX7_work 54 = .ok (.aload_n 0, 1) := by decide +kernel
theorem dX7_work_55 : decode cX7_work 55 = .ok (.getfield 88, 3) := by decide +kernel
theorem dX7_work_58 : decode cX7_work 58 = .ok (.iload 4, 2) := by decide +kernel
theorem dX7_work_60 : decode cX7_work 60 = .ok (.iaload, 1) := by decide +kernel
theorem dX7_work_61 : decode cX7_work 61 = .ok (.istore 4, 2) := by decide +kernel
theorem dX7_work_63 : decode cX7_work 63 = .ok (.goto (-25), 3) := by decide +kernel
theorem dX7_work_66 : decode cX7_work 66 = .ok (.aload_n 0, 1) := by decide +kernel
theorem dX7_work_67 : decode cX7_work 67 = .ok (.aload_n 0, 1) := by decide +kernel
theorem dX7_work_68 : decode cX7_work 68 = .ok (.getfield 79, 3) := by decide +kernel
theorem dX7_work_71 : decode cX7_work 71 = .ok (.iload 4, 2) := by decide +kernel
theorem dX7_work_73 : decode cX7_work 73 = .ok (.iaload, 1) := by decide +kernel
theorem dX7_work_74 : decode cX7_work 74 = .ok (.putfield 271, 3) := by decide +kernel
theorem dX7_work_77 : decode cX7_work 77 = .ok (.aload_n 0, 1) := by decide +kernel
theorem dX7_work_78 : decode cX7_work 78 = .ok (.aload_n 0, 1) := by decide +kernel
theorem dX7_work_79 : decode cX7_work 79 = .ok (.getfield 82, 3) := by decide +kernel
theorem dX7_work_82 : decode cX7_work 82 = .ok (.iload 4, 2) := by decide +kernel
theorem dX7_work_84 : decode cX7_work 84 = .ok (.laload, 1) := by decide +kernel
theorem dX7_work_85 : decode cX7_work 85 = .ok (.putfield 274, 3) := by decide +kernel
theorem dX7_work_88 : decode cX7_work 88 = .ok (.aload_n 0, 1) := by decide +kernel
theorem dX7_work_89 : decode cX7_work 89 = .ok (.aload_n 0, 1) := by decide +kernel
theorem dX7_work_90 : decode cX7_work 90 = .ok (.getfield 85, 3) := by decide +kernel
theorem dX7_work_93 : decode cX7_work 93 = .ok (.iload 4, 2) := by decide +kernel
theorem dX7_work_95 : decode cX7_work 95 = .ok (.iaload, 1) := by decide +kernel
theorem dX7_work_96 : decode cX7_work 96 = .ok (.putfield 277, 3) := by decide +kernel
theorem dX7_work_99 : decode cX7_work 99 = .ok (.aload_n 0, 1) := by decide +kernel
theorem dX7_work_100 : decode cX7_work 100 = .ok (.dup, 1) := by decide +kernel
theorem dX7_work_101 : decode cX7_work 101 = .ok (.getfield 280, 3) := by decide +kernel
theorem dX7_work_104 : decode cX7_work 104 = .ok (.iconst 1, 1) := by decide +kernel
theorem dX7_work_105 : decode cX7_work 105 = .ok (.isub, 1) := by decide +kernel
theorem dX7_work_106 : decode cX7_work 106 = .ok (.putfield 280, 3) := by decide +kernel
theorem dX7_work_109 : decode cX7_work 109 = .ok (.goto 104, 3) := by decide +kernel
theorem dX7_work_112 : decode cX7_work 112 = .ok (.iload_n 3, 1) := by decide +kernel
theorem dX7_work_113 : decode cX7_work 113 = .ok (.iconst 1, 1) := by decide +kernel
theorem dX7_work_114 : decode cX7_work 114 = .ok (.if_icmp .ne 32, 3) := by decide +kernel
theorem dX7_work_117 : decode cX7_work 117 = .ok (.aload_n 0, 1) := by decide +kernel
theorem dX7_work_118 : decode cX7_work 118 = .ok (.iconst 0, 1) := by decide +kernel
theorem dX7_work_119 : decode cX7_work 119 = .ok (.putfield 271, 3) := by decide +kernel
theorem dX7_work_122 : decode cX7_work 122 = .ok (.aload_n 0, 1) := by decide +kernel
theorem dX7_work_123 : decode cX7_work 123 = .ok (.aload_n 0, 1) := by decide +kernel
theorem dX7_work_124 : decode cX7_work 124 = .ok (.iload_n 1, 1) := by decide +kernel
theorem dX7_work_125 : decode cX7_work 125 = .ok (.iconst 1, 1) := by decide +kernel
theorem dX7_work_126 : decode cX7_work 126 = .ok (.invokevirtual 219, 3) := by decide +kernel
theorem dX7_work_129 : decode cX7_work 129 = .ok (.i2l, 1) := by decide +kernel
theorem dX7_work_130 : decode cX7_work 130 = .ok (.putfield 274, 3) := by decide +kernel
theorem dX7_work_133 : decode cX7_work 133 = .ok (.aload_n 0, 1) := by decide +kernel
theorem dX7_work_134 : decode cX7_work 134 = .ok (.dup, 1) := by decide +kernel
theorem dX7_work_135 : decode cX7_work 135 = .ok (.getfield 280, 3) := by decide +kernel
theorem dX7_work_138 : decode cX7_work 138 = .ok (.iconst 1, 1) := by decide +kernel
theorem dX7_work_139 : decode cX7_work 139 = .ok (.isub, 1) := by decide +kernel
theorem dX7_work_140 : decode cX7_work 140 = .ok (.putfield 280, 3) := by decide +kernel
theorem dX7_work_143 : decode cX7_work 143 = .ok (.goto 70, 3) := by decide +kernel
theorem dX7_work_146 : decode cX7_work 146 = .ok (.iload_n 3, 1) := by decide +kernel
theorem dX7_work_147 : decode cX7_work 147 = .ok (.iconst 2, 1) := by decide +kernel
theorem dX7_work_148 : decode cX7_work 148 = .ok (.if_icmp .eq 8, 3) := by decide +kernel
theorem dX7_work_151 : decode cX7_work 151 = .ok (.iload_n 3, 1) := by decide +kernel
theorem dX7_work_152 : decode cX7_work 152 = .ok (.iconst 3, 1) := by decide +kernel
theorem dX7_work_153 : decode cX7_work 153 = .ok (.if_icmp .ne 37, 3) := by decide +kernel
theorem dX7_work_156 : decode cX7_work 156 = .ok (.aload_n 0, 1) := by decide +kernel
theorem dX7_work_157 : decode cX7_work 157 = .ok (.iconst 1, 1) := by decide +kernel
theorem dX7_work_158 : decode cX7_work 158 = .ok (.putfield 271, 3) := by decide +kernel
theorem dX7_work_161 : decode cX7_work 161 = .ok (.aload_n 0, 1) := by decide +kernel
theorem dX7_work_162 : decode cX7_work 162 = .ok (.aload_n 0, 1) := by decide +kernel
theorem dX7_work_163 : decode cX7_work 163 = .ok (.getfield 23, 3) := by decide +kernel
theorem dX7_work_166 : decode cX7_work 166 = .ok (.iload_n 1, 1) := by decide +kernel
theorem dX7_work_167 : decode cX7_work 167 = .ok (.iaload, 1) := by decide +kernel
theorem dX7_work_168 : decode cX7_work 168 = .ok (.i2l, 1) := by decide +kernel
theorem dX7_work_169 : decode cX7_work 169 = .ok (.putfield 274, 3) := by decide +kernel
theorem dX7_work_172 : decode cX7_work 172 = .ok (.aload_n 0, 1) := by decide +kernel
theorem dX7_work_173 : decode cX7_work 173 = .ok (.iload_n 2, 1) := by decide +kernel
theorem dX7_work_174 : decode cX7_work 174 = .ok (.putfield 277, 3) := by decide +kernel
theorem dX7_work_177 : decode cX7_work 177 = .ok (.aload_n 0, 1) := by decide +kernel
theorem dX7_work_178 : decode cX7_work 178 = .ok (.dup, 1) := by decide +kernel
theorem dX7_work_179 : decode cX7_work 179 = .ok (.getfield 280, 3) := by decide +kernel
theorem dX7_work_182 : decode cX7_work 182 = .ok (.iconst 1, 1) := by decide +kernel
theorem dX7_work_183 : decode cX7_work 183 = .ok (.isub, 1) := by decide +kernel
theorem dX7_work_184 : decode cX7_work 184 = .ok (.putfield 280, 3) := by decide +kernel
theorem dX7_work_187 : decode cX7_work 187 = .ok (.goto 26, 3) := by decide +kernel
theorem dX7_work_190 : decode cX7_work 190 = .ok (.aload_n 0, 1) := by decide +kernel
theorem dX7_work_191 : decode cX7_work 191 = .ok (.getfield 64, 3) := by decide +kernel
theorem dX7_work_194 : decode cX7_work 194 = .ok (.aload_n 0, 1) := by decide +kernel
theorem dX7_work_195 : decode cX7_work 195 = .ok (.getfield 280, 3) := by decide +kernel
theorem dX7_work_198 : decode cX7_work 198 = .ok (.iconst 1, 1) := by decide +kernel
theorem dX7_work_199 : decode cX7_work 199 = .ok (.isub, 1) := by decide +kernel
theorem dX7_work_200 : decode cX7_work 200 = .ok (.iconst 1, 1) := by decide +kernel
theorem dX7_work_201 : decode cX7_work 201 = .ok (.iastore, 1) := by decide +kernel
theorem dX7_work_202 : decode cX7_work 202 = .ok (.aload_n 0, 1) := by decide +kernel
theorem dX7_work_203 : decode cX7_work 203 = .ok (.aload_n 0, 1) := by decide +kernel
theorem dX7_work_204 : decode cX7_work 204 = .ok (.iload_n 1, 1) := by decide +kernel
theorem dX7_work_205 : decode cX7_work 205 = .ok (.iconst 3, 1) := by decide +kernel
theorem dX7_work_206 : decode cX7_work 206 = .ok (.invokevirtual 219, 3) := by decide +kernel
theorem dX7_work_209 : decode cX7_work 209 = .ok (.iload_n 2, 1) := by decide +kernel
theorem dX7_work_210 : decode cX7_work 210 = .ok (.invokevirtual 286, 3) := by decide +kernel
theorem dX7_work_213 : decode cX7_work 213 = .ok (.return_, 1) := by decide +kernel
theorem dX7_goOn_0 : decode cX7_goOn 0 = .ok (.aload_n 0, 1) := by decide +kernel
theorem dX7_goOn_1 : decode cX7_goOn 1 = .ok (.getfield 280, 3) := by decide +kernel
theorem dX7_goOn_4 : decode cX7_goOn 4 = .ok (.iconst 1, 1) := by decide +kernel
theorem dX7_goOn_5 : decode cX7_goOn 5 = .ok (.isub, 1) := by decide +kernel
theorem dX7_goOn_6 : decode cX7_goOn 6 = .ok (.istore_n 1, 1) := by decide +kernel
theorem dX7_goOn_7 : decode cX7_goOn 7 = .ok (.aload_n 0, 1) := by decide +kernel
theorem dX7_goOn_8 : decode cX7_goOn 8 = .ok (.getfield 58, 3) := by decide +kernel
theorem dX7_goOn_11 : decode cX7_goOn 11 = .ok (.iload_n 1, 1) := by decide +kernel
theorem dX7_goOn_12 : decode cX7_goOn 12 = .ok (.iaload, 1) := by decide +kernel
theorem dX7_goOn_13 : decode cX7_goOn 13 = .ok (.istore_n 2, 1) := by decide +kernel
theorem dX7_goOn_14 : decode cX7_goOn 14 = .ok (.aload_n 0, 1) := by decide +kernel
theorem dX7_goOn_15 : decode cX7_goOn 15 = .ok (.getfield 61, 3) := by decide +kernel
theorem dX7_goOn_18 : decode cX7_goOn 18 = .ok (.iload_n 1, 1) := by decide +kernel
theorem dX7_goOn_19 : decode cX7_goOn 19 = .ok (.iaload, 1) := by decide +kernel
theorem dX7_goOn_20 : decode cX7_goOn 20 = .ok (.istore_n 3, 1) := by decide +kernel
theorem dX7_goOn_21 : decode cX7_goOn 21 = .ok (.aload_n 0, 1) := by decide +kernel
theorem dX7_goOn_22 : decode cX7_goOn 22 = .ok (.iload_n 2, 1) := by decide +kernel
theorem dX7_goOn_23 : decode cX7_goOn 23 = .ok (.iconst 0, 1) := by decide +kernel
theorem dX7_goOn_24 : decode cX7_goOn 24 = .ok (.invokevirtual 219, 3) := by decide +kernel
theorem dX7_goOn_27 : decode cX7_goOn 27 = .ok (.istore 4, 2) := by decide +kernel
theorem dX7_goOn_29 : decode cX7_goOn 29 = .ok (.iload 4, 2) := by decide +kernel
theorem dX7_goOn_31 : decode cX7_goOn 31 = .ok (.iconst 4, 1) := by decide +kernel
theorem dX7_goOn_32 : decode cX7_goOn 32 = .ok (.if_icmp .ne 54, 3) := by decide +kernel
theorem dX7_goOn_35 : decode cX7_goOn 35 = .ok (.aload_n 0, 1) := by decide +kernel
theorem dX7_goOn_36 : decode cX7_goOn 36 = .ok (.getfield 271, 3) := by decide +kernel
theorem dX7_goOn_39 : decode cX7_goOn 39 = .ok (.iconst 1, 1) := by decide +kernel
theorem dX7_goOn_40 : decode cX7_goOn 40 = .ok (.if_icmp .ne 9, 3) := by decide +kernel
theorem dX7_goOn_43 : decode cX7_goOn 43 = .ok (.aload_n 0, 1) := by decide +kernel
theorem dX7_goOn_44 : decode cX7_goOn 44 = .ok (.iload_n 2, 1) := by decide +kernel
theorem dX7_goOn_45 : decode cX7_goOn 45 = .ok (.invokevirtual 296, 3) := by decide +kernel
theorem dX7_goOn_48 : decode cX7_goOn 48 = .ok (.return_, 1) := by decide +kernel
theorem dX7_goOn_49 : decode cX7_goOn 49 = .ok (.aload_n 0, 1) := by decide +kernel
theorem dX7_goOn_50 : decode cX7_goOn 50 = .ok (.dup, 1) := by decide +kernel
theorem dX7_goOn_51 : decode cX7_goOn 51 = .ok (.getfield 280, 3) := by decide +kernel
theorem dX7_goOn_54 : decode cX7_goOn 54 = .ok (.iconst 1, 1) := by decide +kernel
theorem dX7_goOn_55 : decode cX7_goOn 55 = .ok (.isub, 1) := by decide +kernel
theorem dX7_goOn_56 : decode cX7_goOn 56 = .ok (.putfield 280, 3) := by decide +kernel
theorem dX7_goOn_59 : decode cX7_goOn 59 = .ok (.aload_n 0, 1) := by decide +kernel
theorem dX7_goOn_60 : decode cX7_goOn 60 = .ok (.aload_n 0, 1) := by decide +kernel
theorem dX7_goOn_61 : decode cX7_goOn 61 = .ok (.iload_n 2, 1) := by decide +kernel
theorem dX7_goOn_62 : decode cX7_goOn 62 = .ok (.aload_n 0, 1) := by decide +kernel
theorem dX7_goOn_63 : decode cX7_goOn 63 = .ok (.getfield 274, 3) := by decide +kernel
theorem dX7_goOn_66 : decode cX7_goOn 66 = .ok (.lconst 0, 1) := by decide +kernel
theorem dX7_goOn_67 : decode cX7_goOn 67 = .ok (.lcmp, 1) := by decide +kernel
theorem dX7_goOn_68 : decode cX7_goOn 68 = .ok (.ifCond .eq 7, 3) := by decide +kernel
theorem dX7_goOn_71 : decode cX7_goOn 71 = .ok (.iconst 4, 1) := by decide +kernel
theorem dX7_goOn_72 : decode cX7_goOn 72 = .ok (.goto 4, 3) := by decide +kernel
theorem dX7_goOn_75 : decode cX7_goOn 75 = .ok (.iconst 5, 1) := by decide +kernel
theorem dX7_goOn_76 : decode cX7_goOn 76 = .ok (.invokevirtual 219, 3) := by decide +kernel
theorem dX7_goOn_79 : decode cX7_goOn 79 = .ok (.iload_n 3, 1) := by decide +kernel
theorem dX7_goOn_80 : decode cX7_goOn 80 = .ok (.invokevirtual 286, 3) := by decide +kernel
theorem dX7_goOn_83 : decode cX7_goOn 83 = .ok (.goto 132, 3) := by decide +kernel
theorem dX7_goOn_86 : decode cX7_goOn 86 = .ok (.iload 4, 2) := by decide +kernel
theorem dX7_goOn_88 : decode cX7_goOn 88 = .ok (.iconst 5, 1) := by decide +kernel
theorem dX7_goOn_89 : decode cX7_goOn 89 = .ok (.if_icmp .ne 41, 3) := by decide +kernel
theorem dX7_goOn_92 : decode cX7_goOn 92 = .ok (.aload_n 0, 1) := by decide +kernel
theorem dX7_goOn_93 : decode cX7_goOn 93 = .ok (.aload_n 0, 1) := by decide +kernel
theorem dX7_goOn_94 : decode cX7_goOn 94 = .ok (.iload_n 2, 1) := by decide +kernel
theorem dX7_goOn_95 : decode cX7_goOn 95 = .ok (.iconst 1, 1) := by decide +kernel
theorem dX7_goOn_96 : decode cX7_goOn 96 = .ok (.invokevirtual 219, 3) := by decide +kernel
theorem dX7_goOn_99 : decode cX7_goOn 99 = .ok (.iload_n 3, 1) := by decide +kernel
theorem dX7_goOn_100 : decode cX7_goOn 100 = .ok (.invokevirtual 299, 3) := by decide +kernel
theorem dX7_goOn_103 : decode cX7_goOn 103 = .ok (.istore 5, 2) := by decide +kernel
theorem dX7_goOn_105 : decode cX7_goOn 105 = .ok (.aload_n 0, 1) := by decide +kernel
theorem dX7_goOn_106 : decode cX7_goOn 106 = .ok (.dup, 1) := by decide +kernel
theorem dX7_goOn_107 : decode cX7_goOn 107 = .ok (.getfield 280, 3) := by decide +kernel
theorem dX7_goOn_110 : decode cX7_goOn 110 = .ok (.iconst 1, 1) := by decide +kernel
theorem dX7_goOn_111 : decode cX7_goOn 111 = .ok (.isub, 1) := by decide +kernel
theorem dX7_goOn_112 : decode cX7_goOn 112 = .ok (.putfield 280, 3) := by decide +kernel
theorem dX7_goOn_115 : decode cX7_goOn 115 = .ok (.aload_n 0, 1) := by decide +kernel
theorem dX7_goOn_116 : decode cX7_goOn 116 = .ok (.aload_n 0, 1) := by decide +kernel
theorem dX7_goOn_117 : decode cX7_goOn 117 = .ok (.iload_n 2, 1) := by decide +kernel
theorem dX7_goOn_118 : decode cX7_goOn 118 = .ok (.iconst 4, 1) := by decide +kernel
theorem dX7_goOn_119 : decode cX7_goOn 119 = .ok (.invokevirtual 219, 3) := by decide +kernel
theorem dX7_goOn_122 : decode cX7_goOn 122 = .ok (.iload 5, 2) := by decide +kernel
theorem dX7_goOn_124 : decode cX7_goOn 124 = .ok (.invokevirtual 286, 3) := by decide +kernel
theorem dX7_goOn_127 : decode cX7_goOn 127 = .ok (.goto 88, 3) := by decide +kernel
