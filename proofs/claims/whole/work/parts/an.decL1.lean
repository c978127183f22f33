theorem dL_166 : decode code 166 = .ok (.aload_n 0, 1) := by decide +kernel
theorem dL_167 : decode code 167 = .ok (.iload 4, 2) := by decide +kernel
theorem dL_169 : decode code 169 = .ok (.iconst 2, 1) := by decide +kernel
theorem dL_170 : decode code 170 = .ok (.iadd, 1) := by decide +kernel
theorem dL_171 : decode code 171 = .ok (.iaload, 1) := by decide +kernel
theorem dL_172 : decode code 172 = .ok (.i2l, 1) := by decide +kernel
theorem dL_173 : decode code 173 = .ok (.ldc2_w 21, 3) := by decide +kernel
theorem dL_176 : decode code 176 = .ok (.land, 1) := by decide +kernel
theorem dL_177 : decode code 177 = .ok (.lor, 1) := by decide +kernel
theorem dL_178 : decode code 178 = .ok (.aload_n 0, 1) := by decide +kernel
theorem dL_179 : decode code 179 = .ok (.iload 4, 2) := by decide +kernel
theorem dL_181 : decode code 181 = .ok (.iconst 3, 1) := by decide +kernel
theorem dL_182 : decode code 182 = .ok (.iadd, 1) := by decide +kernel
theorem dL_183 : decode code 183 = .ok (.iaload, 1) := by decide +kernel
theorem dL_184 : decode code 184 = .ok (.invokevirtual 28, 3) := by decide +kernel
theorem dL_187 : decode code 187 = .ok (.istore 6, 2) := by decide +kernel
theorem dL_189 : decode code 189 = .ok (.aload_n 2, 1) := by decide +kernel
theorem dL_190 : decode code 190 = .ok (.invokevirtual 29, 3) := by decide +kernel
theorem dL_193 : decode code 193 = .ok (.iload 5, 2) := by decide +kernel
theorem dL_195 : decode code 195 = .ok (.if_icmp .eq 5, 3) := by decide +kernel
theorem dL_198 : decode code 198 = .ok (.iconst 0, 1) := by decide +kernel
theorem dL_199 : decode code 199 = .ok (.ireturn, 1) := by decide +kernel
theorem dL_200 : decode code 200 = .ok (.iload 5, 2) := by decide +kernel
theorem dL_202 : decode code 202 = .ok (.ifCond .ne 15, 3) := by decide +kernel
theorem dL_205 : decode code 205 = .ok (.aload_n 3, 1) := by decide +kernel
theorem dL_206 : decode code 206 = .ok (.iconst 0, 1) := by decide +kernel
theorem dL_207 : decode code 207 = .ok (.laload, 1) := by decide +kernel
theorem dL_208 : decode code 208 = .ok (.iload 6, 2) := by decide +kernel
theorem dL_210 : decode code 210 = .ok (.i2l, 1) := by decide +kernel
theorem dL_211 : decode code 211 = .ok (.lcmp, 1) := by decide +kernel
theorem dL_212 : decode code 212 = .ok (.ifCond .eq 5, 3) := by decide +kernel
theorem dL_215 : decode code 215 = .ok (.iconst 0, 1) := by decide +kernel
theorem dL_216 : decode code 216 = .ok (.ireturn, 1) := by decide +kernel
theorem dL_217 : decode code 217 = .ok (.goto 396, 3) := by decide +kernel
theorem dL_220 : decode code 220 = .ok (.aload_n 1, 1) := by decide +kernel
theorem dL_221 : decode code 221 = .ok (.invokevirtual 33, 3) := by decide +kernel
theorem dL_224 : decode code 224 = .ok (.aload_n 2, 1) := by decide +kernel
theorem dL_225 : decode code 225 = .ok (.invokevirtual 36, 3) := by decide +kernel
theorem dL_228 : decode code 228 = .ok (.if_icmp .eq 385, 3) := by decide +kernel
theorem dL_231 : decode code 231 = .ok (.iconst 0, 1) := by decide +kernel
theorem dL_232 : decode code 232 = .ok (.ireturn, 1) := by decide +kernel
theorem dL_233 : decode code 233 = .ok (.aload_n 1, 1) := by decide +kernel
theorem dL_234 : decode code 234 = .ok (.invokevirtual 37, 3) := by decide +kernel
theorem dL_237 : decode code 237 = .ok (.aload_n 2, 1) := by decide +kernel
theorem dL_238 : decode code 238 = .ok (.invokevirtual 40, 3) := by decide +kernel
theorem dL_241 : decode code 241 = .ok (.if_icmp .eq 372, 3) := by decide +kernel
theorem dL_244 : decode code 244 = .ok (.iconst 0, 1) := by decide +kernel
theorem dL_245 : decode code 245 = .ok (.ireturn, 1) := by decide +kernel
theorem dL_246 : decode code 246 = .ok (.aload_n 1, 1) := by decide +kernel
theorem dL_247 : decode code 247 = .ok (.aload_n 0, 1) := by decide +kernel
theorem dL_248 : decode code 248 = .ok (.iload 4, 2) := by decide +kernel
theorem dL_250 : decode code 250 = .ok (.iconst 1, 1) := by decide +kernel
theorem dL_251 : decode code 251 = .ok (.iadd, 1) := by decide +kernel
theorem dL_252 : decode code 252 = .ok (.iaload, 1) := by decide +kernel
theorem dL_253 : decode code 253 = .ok (.invokevirtual 41, 3) := by decide +kernel
theorem dL_256 : decode code 256 = .ok (.aload_n 2, 1) := by decide +kernel
theorem dL_257 : decode code 257 = .ok (.aload_n 0, 1) := by decide +kernel
theorem dL_258 : decode code 258 = .ok (.iload 4, 2) := by decide +kernel
theorem dL_260 : decode code 260 = .ok (.iconst 1, 1) := by decide +kernel
theorem dL_261 : decode code 261 = .ok (.iadd, 1) := by decide +kernel
