theorem dL_0 : decode code 0 = .ok (.new 8, 3) := by decide +kernel
theorem dL_3 : decode code 3 = .ok (.dup, 1) := by decide +kernel
theorem dL_4 : decode code 4 = .ok (.invokespecial 17, 3) := by decide +kernel
theorem dL_7 : decode code 7 = .ok (.astore_n 1, 1) := by decide +kernel
theorem dL_8 : decode code 8 = .ok (.new 18, 3) := by decide +kernel
theorem dL_11 : decode code 11 = .ok (.dup, 1) := by decide +kernel
theorem dL_12 : decode code 12 = .ok (.invokespecial 20, 3) := by decide +kernel
theorem dL_15 : decode code 15 = .ok (.astore_n 2, 1) := by decide +kernel
theorem dL_16 : decode code 16 = .ok (.iconst 1, 1) := by decide +kernel
theorem dL_17 : decode code 17 = .ok (.newarray .long, 2) := by decide +kernel
theorem dL_19 : decode code 19 = .ok (.astore_n 3, 1) := by decide +kernel
theorem dL_20 : decode code 20 = .ok (.iconst 0, 1) := by decide +kernel
theorem dL_21 : decode code 21 = .ok (.istore 4, 2) := by decide +kernel
theorem dL_23 : decode code 23 = .ok (.iload 4, 2) := by decide +kernel
theorem dL_25 : decode code 25 = .ok (.aload_n 0, 1) := by decide +kernel
theorem dL_26 : decode code 26 = .ok (.arraylength, 1) := by decide +kernel
theorem dL_27 : decode code 27 = .ok (.iconst 4, 1) := by decide +kernel
theorem dL_28 : decode code 28 = .ok (.isub, 1) := by decide +kernel
theorem dL_29 : decode code 29 = .ok (.if_icmp .gt 590, 3) := by decide +kernel
theorem dL_32 : decode code 32 = .ok (.aload_n 0, 1) := by decide +kernel
theorem dL_33 : decode code 33 = .ok (.iload 4, 2) := by decide +kernel
theorem dL_35 : decode code 35 = .ok (.iaload, 1) := by decide +kernel
theorem dL_36 : decode code 36 = .ok (.bipush 31, 2) := by decide +kernel
theorem dL_38 : decode code 38 = .ok (.iand, 1) := by decide +kernel
theorem dL_39 : decode code 39 = .ok (.tableswitch 574 0 16 #[81, 181, 194, 207, 232, 269, 295, 321, 358, 395, 420, 445, 459, 485, 510, 535, 548], 81) := by decide +kernel
theorem dL_120 : decode code 120 = .ok (.aload_n 1, 1) := by decide +kernel
theorem dL_121 : decode code 121 = .ok (.aload_n 0, 1) := by decide +kernel
theorem dL_122 : decode code 122 = .ok (.iload 4, 2) := by decide +kernel
theorem dL_124 : decode code 124 = .ok (.iconst 1, 1) := by decide +kernel
theorem dL_125 : decode code 125 = .ok (.iadd, 1) := by decide +kernel
theorem dL_126 : decode code 126 = .ok (.iaload, 1) := by decide +kernel
theorem dL_127 : decode code 127 = .ok (.i2l, 1) := by decide +kernel
theorem dL_128 : decode code 128 = .ok (.bipush 32, 2) := by decide +kernel
theorem dL_130 : decode code 130 = .ok (.lshl, 1) := by decide +kernel
theorem dL_131 : decode code 131 = .ok (.aload_n 0, 1) := by decide +kernel
theorem dL_132 : decode code 132 = .ok (.iload 4, 2) := by decide +kernel
theorem dL_134 : decode code 134 = .ok (.iconst 2, 1) := by decide +kernel
theorem dL_135 : decode code 135 = .ok (.iadd, 1) := by decide +kernel
theorem dL_136 : decode code 136 = .ok (.iaload, 1) := by decide +kernel
theorem dL_137 : decode code 137 = .ok (.i2l, 1) := by decide +kernel
theorem dL_138 : decode code 138 = .ok (.ldc2_w 21, 3) := by decide +kernel
theorem dL_141 : decode code 141 = .ok (.land, 1) := by decide +kernel
theorem dL_142 : decode code 142 = .ok (.lor, 1) := by decide +kernel
theorem dL_143 : decode code 143 = .ok (.aload_n 0, 1) := by decide +kernel
theorem dL_144 : decode code 144 = .ok (.iload 4, 2) := by decide +kernel
theorem dL_146 : decode code 146 = .ok (.iconst 3, 1) := by decide +kernel
theorem dL_147 : decode code 147 = .ok (.iadd, 1) := by decide +kernel
theorem dL_148 : decode code 148 = .ok (.iaload, 1) := by decide +kernel
theorem dL_149 : decode code 149 = .ok (.aload_n 3, 1) := by decide +kernel
theorem dL_150 : decode code 150 = .ok (.invokestatic 23, 3) := by decide +kernel
theorem dL_153 : decode code 153 = .ok (.istore 5, 2) := by decide +kernel
theorem dL_155 : decode code 155 = .ok (.aload_n 2, 1) := by decide +kernel
theorem dL_156 : decode code 156 = .ok (.aload_n 0, 1) := by decide +kernel
theorem dL_157 : decode code 157 = .ok (.iload 4, 2) := by decide +kernel
theorem dL_159 : decode code 159 = .ok (.iconst 1, 1) := by decide +kernel
theorem dL_160 : decode code 160 = .ok (.iadd, 1) := by decide +kernel
theorem dL_161 : decode code 161 = .ok (.iaload, 1) := by decide +kernel
theorem dL_162 : decode code 162 = .ok (.i2l, 1) := by decide +kernel
theorem dL_163 : decode code 163 = .ok (.bipush 32, 2) := by decide +kernel
theorem dL_165 : decode code 165 = .ok (.lshl, 1) := by decide +kernel
