theorem dL_262 : decode code 262 = .ok (.iaload, 1) := by decide +kernel
theorem dL_263 : decode code 263 = .ok (.invokevirtual 45, 3) := by decide +kernel
theorem dL_266 : decode code 266 = .ok (.if_icmp .eq 347, 3) := by decide +kernel
theorem dL_269 : decode code 269 = .ok (.iconst 0, 1) := by decide +kernel
theorem dL_270 : decode code 270 = .ok (.ireturn, 1) := by decide +kernel
theorem dL_271 : decode code 271 = .ok (.aload_n 1, 1) := by decide +kernel
theorem dL_272 : decode code 272 = .ok (.aload_n 0, 1) := by decide +kernel
theorem dL_273 : decode code 273 = .ok (.iload 4, 2) := by decide +kernel
theorem dL_275 : decode code 275 = .ok (.iconst 1, 1) := by decide +kernel
theorem dL_276 : decode code 276 = .ok (.iadd, 1) := by decide +kernel
theorem dL_277 : decode code 277 = .ok (.iaload, 1) := by decide +kernel
theorem dL_278 : decode code 278 = .ok (.aload_n 0, 1) := by decide +kernel
theorem dL_279 : decode code 279 = .ok (.iload 4, 2) := by decide +kernel
theorem dL_281 : decode code 281 = .ok (.iconst 2, 1) := by decide +kernel
theorem dL_282 : decode code 282 = .ok (.iadd, 1) := by decide +kernel
theorem dL_283 : decode code 283 = .ok (.iaload, 1) := by decide +kernel
theorem dL_284 : decode code 284 = .ok (.invokevirtual 46, 3) := by decide +kernel
theorem dL_287 : decode code 287 = .ok (.aload_n 2, 1) := by decide +kernel
theorem dL_288 : decode code 288 = .ok (.aload_n 0, 1) := by decide +kernel
theorem dL_289 : decode code 289 = .ok (.iload 4, 2) := by decide +kernel
theorem dL_291 : decode code 291 = .ok (.iconst 1, 1) := by decide +kernel
theorem dL_292 : decode code 292 = .ok (.iadd, 1) := by decide +kernel
theorem dL_293 : decode code 293 = .ok (.iaload, 1) := by decide +kernel
theorem dL_294 : decode code 294 = .ok (.aload_n 0, 1) := by decide +kernel
theorem dL_295 : decode code 295 = .ok (.iload 4, 2) := by decide +kernel
theorem dL_297 : decode code 297 = .ok (.iconst 2, 1) := by decide +kernel
theorem dL_298 : decode code 298 = .ok (.iadd, 1) := by decide +kernel
theorem dL_299 : decode code 299 = .ok (.iaload, 1) := by decide +kernel
theorem dL_300 : decode code 300 = .ok (.invokevirtual 50, 3) := by decide +kernel
theorem dL_303 : decode code 303 = .ok (.if_icmp .eq 310, 3) := by decide +kernel
theorem dL_306 : decode code 306 = .ok (.iconst 0, 1) := by decide +kernel
theorem dL_307 : decode code 307 = .ok (.ireturn, 1) := by decide +kernel
theorem dL_308 : decode code 308 = .ok (.aload_n 1, 1) := by decide +kernel
theorem dL_309 : decode code 309 = .ok (.aload_n 0, 1) := by decide +kernel
theorem dL_310 : decode code 310 = .ok (.iload 4, 2) := by decide +kernel
theorem dL_312 : decode code 312 = .ok (.iconst 1, 1) := by decide +kernel
theorem dL_313 : decode code 313 = .ok (.iadd, 1) := by decide +kernel
theorem dL_314 : decode code 314 = .ok (.iaload, 1) := by decide +kernel
theorem dL_315 : decode code 315 = .ok (.invokevirtual 51, 3) := by decide +kernel
theorem dL_318 : decode code 318 = .ok (.aload_n 2, 1) := by decide +kernel
theorem dL_319 : decode code 319 = .ok (.aload_n 0, 1) := by decide +kernel
theorem dL_320 : decode code 320 = .ok (.iload 4, 2) := by decide +kernel
theorem dL_322 : decode code 322 = .ok (.iconst 1, 1) := by decide +kernel
theorem dL_323 : decode code 323 = .ok (.iadd, 1) := by decide +kernel
theorem dL_324 : decode code 324 = .ok (.iaload, 1) := by decide +kernel
theorem dL_325 : decode code 325 = .ok (.invokevirtual 55, 3) := by decide +kernel
theorem dL_328 : decode code 328 = .ok (.lcmp, 1) := by decide +kernel
theorem dL_329 : decode code 329 = .ok (.ifCond .eq 284, 3) := by decide +kernel
theorem dL_332 : decode code 332 = .ok (.iconst 0, 1) := by decide +kernel
theorem dL_333 : decode code 333 = .ok (.ireturn, 1) := by decide +kernel
theorem dL_334 : decode code 334 = .ok (.aload_n 1, 1) := by decide +kernel
theorem dL_335 : decode code 335 = .ok (.aload_n 0, 1) := by decide +kernel
theorem dL_336 : decode code 336 = .ok (.iload 4, 2) := by decide +kernel
theorem dL_338 : decode code 338 = .ok (.iconst 1, 1) := by decide +kernel
theorem dL_339 : decode code 339 = .ok (.iadd, 1) := by decide +kernel
theorem dL_340 : decode code 340 = .ok (.iaload, 1) := by decide +kernel
theorem dL_341 : decode code 341 = .ok (.invokevirtual 56, 3) := by decide +kernel
theorem dL_344 : decode code 344 = .ok (.aload_n 2, 1) := by decide +kernel
theorem dL_345 : decode code 345 = .ok (.aload_n 0, 1) := by decide +kernel
theorem dL_346 : decode code 346 = .ok (.iload 4, 2) := by decide +kernel
