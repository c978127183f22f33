/-! THE LAW'S CASES (printed by wip/whole/gen_cases.py) -/
theorem okX (x : Int32) : okI x.toInt := ⟨Int32.le_toInt x, Int32.toInt_lt x⟩
section O3
variable {p : Program} {l : Launch} {e : Env} {s : State} {m : MethodId} {below : List Frame} {meth : Method} {c : Code} {Q : State → Prop} {D : va_G} {bs Ls : Nat} {xs : Nat → Int32} {sa : Nat → Nat} {S : mS} {i : Nat} {v5 v6 : Option Value} {A : aSt} {x : Int64}
theorem o_c1 (C : oC p s m c bs Ls xs D sa) (hI : oI sa s.heap.size S A x) (hr : S.2.1 + 400 - s.heap.size ≤ 601024 ∧ S.2.2 + 1000 ≤ 7293034) (hi : i + 3 < Ls) (hL : Ls ≤ 2048) (k : ∀ S2 A2, oI sa s.heap.size S2 A2 x → S2.2.1 ≤ S.2.1 + 400 ∧ S2.2.2 ≤ S.2.2 + 1000 → oW p l e s m below meth c Q D bs 613 (lwL bs s.heap.size i v5 v6) [] S2) : oW p l e s m below meth c Q D bs 220 (lwL bs s.heap.size i v5 v6) [] S := by
  have hR : oR s S := ⟨by omega, by omega⟩
  refine o_pure C hR dL_220 (Or.inr rfl) (fun S => rfl) ?_
  have hP := j_clear (sa := sa) (A := A)
  refine o_desk C hR (A := A) rfl dL_221 tG_8_33 tM_80 rfl rfl ⟨Nat.le_of_ble_eq_true rfl, Nat.le_of_ble_eq_true rfl⟩ rfl rfl hI.2.2.1 ((hP s.heap.size x).1 S hI.2.1 hI.2.2.1 hI.2.2.2) (fun S1 hR1 e1 k1 d1 m1 => ?_)
  refine o_pure C hR1 dL_224 (Or.inr rfl) (fun S => rfl) ?_
  refine o_model C (A := A) rfl (by rw [e1]; exact hr) dL_225 tG_8_36 tM_170 rfl rfl ⟨Nat.le_of_ble_eq_true rfl, Nat.le_of_ble_eq_true rfl⟩ rfl rfl m1 ((hP s.heap.size x).2 S1 k1 d1 m1) (fun S2 hR2 g2 k2 d2 m2 => ?_)
  refine o_eqI C hR2 dL_228 rfl ?_
  exact k S2 (A.1, 0, A.2.2) ⟨okA_tx hI.1, k2, d2, m2⟩ (by rw [e1] at g2; exact g2)
theorem o_c2 (C : oC p s m c bs Ls xs D sa) (hI : oI sa s.heap.size S A x) (hr : S.2.1 + 400 - s.heap.size ≤ 601024 ∧ S.2.2 + 1000 ≤ 7293034) (hi : i + 3 < Ls) (hL : Ls ≤ 2048) (k : ∀ S2 A2, oI sa s.heap.size S2 A2 x → S2.2.1 ≤ S.2.1 + 400 ∧ S2.2.2 ≤ S.2.2 + 1000 → oW p l e s m below meth c Q D bs 613 (lwL bs s.heap.size i v5 v6) [] S2) : oW p l e s m below meth c Q D bs 233 (lwL bs s.heap.size i v5 v6) [] S := by
  have hR : oR s S := ⟨by omega, by omega⟩
  refine o_pure C hR dL_233 (Or.inr rfl) (fun S => rfl) ?_
  have hP := j_read (sa := sa) (A := A)
  refine o_desk C hR (A := A) rfl dL_234 tG_8_37 tM_81 rfl rfl ⟨Nat.le_of_ble_eq_true rfl, Nat.le_of_ble_eq_true rfl⟩ rfl rfl hI.2.2.1 ((hP s.heap.size x).1 S hI.2.1 hI.2.2.1 hI.2.2.2) (fun S1 hR1 e1 k1 d1 m1 => ?_)
  refine o_pure C hR1 dL_237 (Or.inr rfl) (fun S => rfl) ?_
  refine o_model C (A := A) rfl (by rw [e1]; exact hr) dL_238 tG_8_40 tM_130 rfl rfl ⟨Nat.le_of_ble_eq_true rfl, Nat.le_of_ble_eq_true rfl⟩ rfl rfl m1 ((hP s.heap.size x).2 S1 k1 d1 m1) (fun S2 hR2 g2 k2 d2 m2 => ?_)
  refine o_eqI C hR2 dL_241 rfl ?_
  exact k S2 _ ⟨okA_rd hI.1, k2, d2, m2⟩ (by rw [e1] at g2; exact g2)
theorem o_c3 (C : oC p s m c bs Ls xs D sa) (hI : oI sa s.heap.size S A x) (hr : S.2.1 + 400 - s.heap.size ≤ 601024 ∧ S.2.2 + 1000 ≤ 7293034) (hi : i + 3 < Ls) (hL : Ls ≤ 2048) (k : ∀ S2 A2, oI sa s.heap.size S2 A2 x → S2.2.1 ≤ S.2.1 + 400 ∧ S2.2.2 ≤ S.2.2 + 1000 → oW p l e s m below meth c Q D bs 613 (lwL bs s.heap.size i v5 v6) [] S2) : oW p l e s m below meth c Q D bs 246 (lwL bs s.heap.size i v5 v6) [] S := by
  have hR : oR s S := ⟨by omega, by omega⟩
  refine o_pure C hR dL_246 (Or.inr rfl) (fun S => rfl) ?_
  refine o_arg C hR (j := 1) dL_247 dL_248 dL_250 dL_251 dL_252 ⟨rfl, rfl, rfl, rfl, rfl⟩ (by omega) hL ?_
  have hP := j_told (sa := sa) (A := A) (w := (xs (i + 1)).toInt) (okX _)
  rw [zI_t] at hP
  refine o_desk C hR (A := A) rfl dL_253 tG_8_41 tM_82 rfl rfl ⟨Nat.le_of_ble_eq_true rfl, Nat.le_of_ble_eq_true rfl⟩ rfl rfl hI.2.2.1 ((hP s.heap.size x).1 S hI.2.1 hI.2.2.1 hI.2.2.2) (fun S1 hR1 e1 k1 d1 m1 => ?_)
  refine o_pure C hR1 dL_256 (Or.inr rfl) (fun S => rfl) ?_
  refine o_arg C hR1 (j := 1) dL_257 dL_258 dL_260 dL_261 dL_262 ⟨rfl, rfl, rfl, rfl, rfl⟩ (by omega) hL ?_
  refine o_model C (A := A) rfl (by rw [e1]; exact hr) dL_263 tG_8_45 tM_145 rfl rfl ⟨Nat.le_of_ble_eq_true rfl, Nat.le_of_ble_eq_true rfl⟩ rfl rfl m1 ((hP s.heap.size x).2 S1 k1 d1 m1) (fun S2 hR2 g2 k2 d2 m2 => ?_)
  refine o_eqI C hR2 dL_266 rfl ?_
  exact k S2 _ ⟨hI.1, k2, d2, m2⟩ (by rw [e1] at g2; exact g2)
theorem o_c4 (C : oC p s m c bs Ls xs D sa) (hI : oI sa s.heap.size S A x) (hr : S.2.1 + 400 - s.heap.size ≤ 601024 ∧ S.2.2 + 1000 ≤ 7293034) (hi : i + 3 < Ls) (hL : Ls ≤ 2048) (k : ∀ S2 A2, oI sa s.heap.size S2 A2 x → S2.2.1 ≤ S.2.1 + 400 ∧ S2.2.2 ≤ S.2.2 + 1000 → oW p l e s m below meth c Q D bs 613 (lwL bs s.heap.size i v5 v6) [] S2) : oW p l e s m below meth c Q D bs 271 (lwL bs s.heap.size i v5 v6) [] S := by
  have hR : oR s S := ⟨by omega, by omega⟩
  refine o_pure C hR dL_271 (Or.inr rfl) (fun S => rfl) ?_
  refine o_arg C hR (j := 1) dL_272 dL_273 dL_275 dL_276 dL_277 ⟨rfl, rfl, rfl, rfl, rfl⟩ (by omega) hL ?_
  refine o_arg C hR (j := 2) dL_278 dL_279 dL_281 dL_282 dL_283 ⟨rfl, rfl, rfl, rfl, rfl⟩ (by omega) hL ?_
  have hP := j_expr (sa := sa) (A := A) (l := (xs (i + 1)).toInt) (w := (xs (i + 2)).toInt) (okX _) (okX _)
  rw [zI_t, zI_t] at hP
  refine o_desk C hR (A := A) rfl dL_284 tG_8_46 tM_83 rfl rfl ⟨Nat.le_of_ble_eq_true rfl, Nat.le_of_ble_eq_true rfl⟩ rfl rfl hI.2.2.1 ((hP s.heap.size x).1 S hI.2.1 hI.2.2.1 hI.2.2.2) (fun S1 hR1 e1 k1 d1 m1 => ?_)
  refine o_pure C hR1 dL_287 (Or.inr rfl) (fun S => rfl) ?_
  refine o_arg C hR1 (j := 1) dL_288 dL_289 dL_291 dL_292 dL_293 ⟨rfl, rfl, rfl, rfl, rfl⟩ (by omega) hL ?_
  refine o_arg C hR1 (j := 2) dL_294 dL_295 dL_297 dL_298 dL_299 ⟨rfl, rfl, rfl, rfl, rfl⟩ (by omega) hL ?_
  refine o_model C (A := A) rfl (by rw [e1]; exact hr) dL_300 tG_8_50 tM_146 rfl rfl ⟨Nat.le_of_ble_eq_true rfl, Nat.le_of_ble_eq_true rfl⟩ rfl rfl m1 ((hP s.heap.size x).2 S1 k1 d1 m1) (fun S2 hR2 g2 k2 d2 m2 => ?_)
  refine o_eqI C hR2 dL_303 rfl ?_
  exact k S2 _ ⟨hI.1, k2, d2, m2⟩ (by rw [e1] at g2; exact g2)
theorem o_c5 (C : oC p s m c bs Ls xs D sa) (hI : oI sa s.heap.size S A x) (hr : S.2.1 + 400 - s.heap.size ≤ 601024 ∧ S.2.2 + 1000 ≤ 7293034) (hi : i + 3 < Ls) (hL : Ls ≤ 2048) (k : ∀ S2 A2, oI sa s.heap.size S2 A2 x → S2.2.1 ≤ S.2.1 + 400 ∧ S2.2.2 ≤ S.2.2 + 1000 → oW p l e s m below meth c Q D bs 613 (lwL bs s.heap.size i v5 v6) [] S2) : oW p l e s m below meth c Q D bs 308 (lwL bs s.heap.size i v5 v6) [] S := by
  have hR : oR s S := ⟨by omega, by omega⟩
  refine o_pure C hR dL_308 (Or.inr rfl) (fun S => rfl) ?_
  refine o_arg C hR (j := 1) dL_309 dL_310 dL_312 dL_313 dL_314 ⟨rfl, rfl, rfl, rfl, rfl⟩ (by omega) hL ?_
  have hP := j_flow (sa := sa) (A := A) (l := (xs (i + 1)).toInt) (okX _)
  rw [zI_t] at hP
  refine o_desk C hR (A := A) rfl dL_315 tG_8_51 tM_84 rfl rfl ⟨Nat.le_of_ble_eq_true rfl, Nat.le_of_ble_eq_true rfl⟩ rfl rfl hI.2.2.1 ((hP s.heap.size x).1 S hI.2.1 hI.2.2.1 hI.2.2.2) (fun S1 hR1 e1 k1 d1 m1 => ?_)
  refine o_pure C hR1 dL_318 (Or.inr rfl) (fun S => rfl) ?_
  refine o_arg C hR1 (j := 1) dL_319 dL_320 dL_322 dL_323 dL_324 ⟨rfl, rfl, rfl, rfl, rfl⟩ (by omega) hL ?_
  refine o_model C (A := A) rfl (by rw [e1]; exact hr) dL_325 tG_8_55 tM_147 rfl rfl ⟨Nat.le_of_ble_eq_true rfl, Nat.le_of_ble_eq_true rfl⟩ rfl rfl m1 ((hP s.heap.size x).2 S1 k1 d1 m1) (fun S2 hR2 g2 k2 d2 m2 => ?_)
  refine o_eqJ C hR2 rfl dL_328 dL_329 rfl ?_
  exact k S2 _ ⟨hI.1, k2, d2, m2⟩ (by rw [e1] at g2; exact g2)
theorem o_c6 (C : oC p s m c bs Ls xs D sa) (hI : oI sa s.heap.size S A x) (hr : S.2.1 + 400 - s.heap.size ≤ 601024 ∧ S.2.2 + 1000 ≤ 7293034) (hi : i + 3 < Ls) (hL : Ls ≤ 2048) (k : ∀ S2 A2, oI sa s.heap.size S2 A2 x → S2.2.1 ≤ S.2.1 + 400 ∧ S2.2.2 ≤ S.2.2 + 1000 → oW p l e s m below meth c Q D bs 613 (lwL bs s.heap.size i v5 v6) [] S2) : oW p l e s m below meth c Q D bs 334 (lwL bs s.heap.size i v5 v6) [] S := by
  have hR : oR s S := ⟨by omega, by omega⟩
  refine o_pure C hR dL_334 (Or.inr rfl) (fun S => rfl) ?_
  refine o_arg C hR (j := 1) dL_335 dL_336 dL_338 dL_339 dL_340 ⟨rfl, rfl, rfl, rfl, rfl⟩ (by omega) hL ?_
  have hP := j_flows (sa := sa) (A := A) (l := (xs (i + 1)).toInt) (okX _)
  rw [zI_t] at hP
  refine o_desk C hR (A := A) rfl dL_341 tG_8_56 tM_85 rfl rfl ⟨Nat.le_of_ble_eq_true rfl, Nat.le_of_ble_eq_true rfl⟩ rfl rfl hI.2.2.1 ((hP s.heap.size x).1 S hI.2.1 hI.2.2.1 hI.2.2.2) (fun S1 hR1 e1 k1 d1 m1 => ?_)
  refine o_pure C hR1 dL_344 (Or.inr rfl) (fun S => rfl) ?_
  refine o_arg C hR1 (j := 1) dL_345 dL_346 dL_348 dL_349 dL_350 ⟨rfl, rfl, rfl, rfl, rfl⟩ (by omega) hL ?_
  refine o_model C (A := A) rfl (by rw [e1]; exact hr) dL_351 tG_8_59 tM_148 rfl rfl ⟨Nat.le_of_ble_eq_true rfl, Nat.le_of_ble_eq_true rfl⟩ rfl rfl m1 ((hP s.heap.size x).2 S1 k1 d1 m1) (fun S2 hR2 g2 k2 d2 m2 => ?_)
  refine o_eqJ C hR2 rfl dL_354 dL_355 rfl ?_
  exact k S2 _ ⟨hI.1, k2, d2, m2⟩ (by rw [e1] at g2; exact g2)
theorem o_c7 (C : oC p s m c bs Ls xs D sa) (hI : oI sa s.heap.size S A x) (hr : S.2.1 + 400 - s.heap.size ≤ 601024 ∧ S.2.2 + 1000 ≤ 7293034) (hi : i + 3 < Ls) (hL : Ls ≤ 2048) (k : ∀ S2 A2, oI sa s.heap.size S2 A2 x → S2.2.1 ≤ S.2.1 + 400 ∧ S2.2.2 ≤ S.2.2 + 1000 → oW p l e s m below meth c Q D bs 613 (lwL bs s.heap.size i v5 v6) [] S2) : oW p l e s m below meth c Q D bs 360 (lwL bs s.heap.size i v5 v6) [] S := by
  have hR : oR s S := ⟨by omega, by omega⟩
  refine o_pure C hR dL_360 (Or.inr rfl) (fun S => rfl) ?_
  refine o_arg C hR (j := 1) dL_361 dL_362 dL_364 dL_365 dL_366 ⟨rfl, rfl, rfl, rfl, rfl⟩ (by omega) hL ?_
  refine o_arg C hR (j := 2) dL_367 dL_368 dL_370 dL_371 dL_372 ⟨rfl, rfl, rfl, rfl, rfl⟩ (by omega) hL ?_
  have hP := j_function (sa := sa) (A := A) (l := (xs (i + 1)).toInt) (w := (xs (i + 2)).toInt) (okX _) (okX _)
  rw [zI_t, zI_t] at hP
  refine o_desk C hR (A := A) rfl dL_373 tG_8_60 tM_86 rfl rfl ⟨Nat.le_of_ble_eq_true rfl, Nat.le_of_ble_eq_true rfl⟩ rfl rfl hI.2.2.1 ((hP s.heap.size x).1 S hI.2.1 hI.2.2.1 hI.2.2.2) (fun S1 hR1 e1 k1 d1 m1 => ?_)
  refine o_pure C hR1 dL_376 (Or.inr rfl) (fun S => rfl) ?_
  refine o_arg C hR1 (j := 1) dL_377 dL_378 dL_380 dL_381 dL_382 ⟨rfl, rfl, rfl, rfl, rfl⟩ (by omega) hL ?_
  refine o_arg C hR1 (j := 2) dL_383 dL_384 dL_386 dL_387 dL_388 ⟨rfl, rfl, rfl, rfl, rfl⟩ (by omega) hL ?_
  refine o_model C (A := A) rfl (by rw [e1]; exact hr) dL_389 tG_8_63 tM_149 rfl rfl ⟨Nat.le_of_ble_eq_true rfl, Nat.le_of_ble_eq_true rfl⟩ rfl rfl m1 ((hP s.heap.size x).2 S1 k1 d1 m1) (fun S2 hR2 g2 k2 d2 m2 => ?_)
  refine o_eqI C hR2 dL_392 rfl ?_
  exact k S2 _ ⟨hI.1, k2, d2, m2⟩ (by rw [e1] at g2; exact g2)
theorem o_c8 (C : oC p s m c bs Ls xs D sa) (hI : oI sa s.heap.size S A x) (hr : S.2.1 + 400 - s.heap.size ≤ 601024 ∧ S.2.2 + 1000 ≤ 7293034) (hi : i + 3 < Ls) (hL : Ls ≤ 2048) (k : ∀ S2 A2, oI sa s.heap.size S2 A2 x → S2.2.1 ≤ S.2.1 + 400 ∧ S2.2.2 ≤ S.2.2 + 1000 → oW p l e s m below meth c Q D bs 613 (lwL bs s.heap.size i v5 v6) [] S2) : oW p l e s m below meth c Q D bs 397 (lwL bs s.heap.size i v5 v6) [] S := by
  have hR : oR s S := ⟨by omega, by omega⟩
  refine o_pure C hR dL_397 (Or.inr rfl) (fun S => rfl) ?_
  refine o_arg C hR (j := 1) dL_398 dL_399 dL_401 dL_402 dL_403 ⟨rfl, rfl, rfl, rfl, rfl⟩ (by omega) hL ?_
  refine o_arg C hR (j := 2) dL_404 dL_405 dL_407 dL_408 dL_409 ⟨rfl, rfl, rfl, rfl, rfl⟩ (by omega) hL ?_
  have hP := j_reaches (sa := sa) (A := A) (l := (xs (i + 1)).toInt) (w := (xs (i + 2)).toInt) (okX _) (okX _)
  rw [zI_t, zI_t] at hP
  refine o_desk C hR (A := A) rfl dL_410 tG_8_64 tM_87 rfl rfl ⟨Nat.le_of_ble_eq_true rfl, Nat.le_of_ble_eq_true rfl⟩ rfl rfl hI.2.2.1 ((hP s.heap.size x).1 S hI.2.1 hI.2.2.1 hI.2.2.2) (fun S1 hR1 e1 k1 d1 m1 => ?_)
  refine o_pure C hR1 dL_413 (Or.inr rfl) (fun S => rfl) ?_
  refine o_arg C hR1 (j := 1) dL_414 dL_415 dL_417 dL_418 dL_419 ⟨rfl, rfl, rfl, rfl, rfl⟩ (by omega) hL ?_
  refine o_arg C hR1 (j := 2) dL_420 dL_421 dL_423 dL_424 dL_425 ⟨rfl, rfl, rfl, rfl, rfl⟩ (by omega) hL ?_
  refine o_model C (A := A) rfl (by rw [e1]; exact hr) dL_426 tG_8_67 tM_150 rfl rfl ⟨Nat.le_of_ble_eq_true rfl, Nat.le_of_ble_eq_true rfl⟩ rfl rfl m1 ((hP s.heap.size x).2 S1 k1 d1 m1) (fun S2 hR2 g2 k2 d2 m2 => ?_)
  refine o_eqI C hR2 dL_429 rfl ?_
  exact k S2 _ ⟨hI.1, k2, d2, m2⟩ (by rw [e1] at g2; exact g2)
theorem o_c9 (C : oC p s m c bs Ls xs D sa) (hI : oI sa s.heap.size S A x) (hr : S.2.1 + 400 - s.heap.size ≤ 601024 ∧ S.2.2 + 1000 ≤ 7293034) (hi : i + 3 < Ls) (hL : Ls ≤ 2048) (k : ∀ S2 A2, oI sa s.heap.size S2 A2 x → S2.2.1 ≤ S.2.1 + 400 ∧ S2.2.2 ≤ S.2.2 + 1000 → oW p l e s m below meth c Q D bs 613 (lwL bs s.heap.size i v5 v6) [] S2) : oW p l e s m below meth c Q D bs 434 (lwL bs s.heap.size i v5 v6) [] S := by
  have hR : oR s S := ⟨by omega, by omega⟩
  refine o_pure C hR dL_434 (Or.inr rfl) (fun S => rfl) ?_
  refine o_arg C hR (j := 1) dL_435 dL_436 dL_438 dL_439 dL_440 ⟨rfl, rfl, rfl, rfl, rfl⟩ (by omega) hL ?_
  have hP := j_single (sa := sa) (A := A) (l := (xs (i + 1)).toInt) (okX _)
  rw [zI_t] at hP
  refine o_desk C hR (A := A) rfl dL_441 tG_8_68 tM_88 rfl rfl ⟨Nat.le_of_ble_eq_true rfl, Nat.le_of_ble_eq_true rfl⟩ rfl rfl hI.2.2.1 ((hP s.heap.size x).1 S hI.2.1 hI.2.2.1 hI.2.2.2) (fun S1 hR1 e1 k1 d1 m1 => ?_)
  refine o_pure C hR1 dL_444 (Or.inr rfl) (fun S => rfl) ?_
  refine o_arg C hR1 (j := 1) dL_445 dL_446 dL_448 dL_449 dL_450 ⟨rfl, rfl, rfl, rfl, rfl⟩ (by omega) hL ?_
  refine o_model C (A := A) rfl (by rw [e1]; exact hr) dL_451 tG_8_71 tM_151 rfl rfl ⟨Nat.le_of_ble_eq_true rfl, Nat.le_of_ble_eq_true rfl⟩ rfl rfl m1 ((hP s.heap.size x).2 S1 k1 d1 m1) (fun S2 hR2 g2 k2 d2 m2 => ?_)
  refine o_eqI C hR2 dL_454 rfl ?_
  exact k S2 _ ⟨hI.1, k2, d2, m2⟩ (by rw [e1] at g2; exact g2)
theorem o_c10 (C : oC p s m c bs Ls xs D sa) (hI : oI sa s.heap.size S A x) (hr : S.2.1 + 400 - s.heap.size ≤ 601024 ∧ S.2.2 + 1000 ≤ 7293034) (hi : i + 3 < Ls) (hL : Ls ≤ 2048) (k : ∀ S2 A2, oI sa s.heap.size S2 A2 x → S2.2.1 ≤ S.2.1 + 400 ∧ S2.2.2 ≤ S.2.2 + 1000 → oW p l e s m below meth c Q D bs 613 (lwL bs s.heap.size i v5 v6) [] S2) : oW p l e s m below meth c Q D bs 459 (lwL bs s.heap.size i v5 v6) [] S := by
  have hR : oR s S := ⟨by omega, by omega⟩
  refine o_pure C hR dL_459 (Or.inr rfl) (fun S => rfl) ?_
  refine o_arg C hR (j := 1) dL_460 dL_461 dL_463 dL_464 dL_465 ⟨rfl, rfl, rfl, rfl, rfl⟩ (by omega) hL ?_
  have hP := j_run (sa := sa) (A := A) (w := (xs (i + 1)).toInt) (okX _)
  rw [zI_t] at hP
  refine o_desk C hR (A := A) rfl dL_466 tG_8_72 tM_89 rfl rfl ⟨Nat.le_of_ble_eq_true rfl, Nat.le_of_ble_eq_true rfl⟩ rfl rfl hI.2.2.1 ((hP s.heap.size x).1 S hI.2.1 hI.2.2.1 hI.2.2.2) (fun S1 hR1 e1 k1 d1 m1 => ?_)
  refine o_pure C hR1 dL_469 (Or.inr rfl) (fun S => rfl) ?_
  refine o_arg C hR1 (j := 1) dL_470 dL_471 dL_473 dL_474 dL_475 ⟨rfl, rfl, rfl, rfl, rfl⟩ (by omega) hL ?_
  refine o_model C (A := A) rfl (by rw [e1]; exact hr) dL_476 tG_8_75 tM_154 rfl rfl ⟨Nat.le_of_ble_eq_true rfl, Nat.le_of_ble_eq_true rfl⟩ rfl rfl m1 ((hP s.heap.size x).2 S1 k1 d1 m1) (fun S2 hR2 g2 k2 d2 m2 => ?_)
  refine o_eqI C hR2 dL_479 rfl ?_
  exact k S2 _ ⟨okA_run hI.1, k2, d2, m2⟩ (by rw [e1] at g2; exact g2)
theorem o_c11 (C : oC p s m c bs Ls xs D sa) (hI : oI sa s.heap.size S A x) (hr : S.2.1 + 400 - s.heap.size ≤ 601024 ∧ S.2.2 + 1000 ≤ 7293034) (hi : i + 3 < Ls) (hL : Ls ≤ 2048) (k : ∀ S2 A2, oI sa s.heap.size S2 A2 x → S2.2.1 ≤ S.2.1 + 400 ∧ S2.2.2 ≤ S.2.2 + 1000 → oW p l e s m below meth c Q D bs 613 (lwL bs s.heap.size i v5 v6) [] S2) : oW p l e s m below meth c Q D bs 484 (lwL bs s.heap.size i v5 v6) [] S := by
  have hR : oR s S := ⟨by omega, by omega⟩
  refine o_pure C hR dL_484 (Or.inr rfl) (fun S => rfl) ?_
  have hP := j_result (sa := sa) (A := A)
  refine o_desk C hR (A := A) rfl dL_485 tG_8_76 tM_90 rfl rfl ⟨Nat.le_of_ble_eq_true rfl, Nat.le_of_ble_eq_true rfl⟩ rfl rfl hI.2.2.1 ((hP s.heap.size x).1 S hI.2.1 hI.2.2.1 hI.2.2.2) (fun S1 hR1 e1 k1 d1 m1 => ?_)
  refine o_pure C hR1 dL_488 (Or.inr rfl) (fun S => rfl) ?_
  refine o_model C (A := A) rfl (by rw [e1]; exact hr) dL_489 tG_8_80 tM_160 rfl rfl ⟨Nat.le_of_ble_eq_true rfl, Nat.le_of_ble_eq_true rfl⟩ rfl rfl m1 ((hP s.heap.size x).2 S1 k1 d1 m1) (fun S2 hR2 g2 k2 d2 m2 => ?_)
  refine o_eqJ C hR2 rfl dL_492 dL_493 rfl ?_
  exact k S2 _ ⟨hI.1, k2, d2, m2⟩ (by rw [e1] at g2; exact g2)
theorem o_c12 (C : oC p s m c bs Ls xs D sa) (hI : oI sa s.heap.size S A x) (hr : S.2.1 + 400 - s.heap.size ≤ 601024 ∧ S.2.2 + 1000 ≤ 7293034) (hi : i + 3 < Ls) (hL : Ls ≤ 2048) (k : ∀ S2 A2, oI sa s.heap.size S2 A2 x → S2.2.1 ≤ S.2.1 + 400 ∧ S2.2.2 ≤ S.2.2 + 1000 → oW p l e s m below meth c Q D bs 613 (lwL bs s.heap.size i v5 v6) [] S2) : oW p l e s m below meth c Q D bs 498 (lwL bs s.heap.size i v5 v6) [] S := by
  have hR : oR s S := ⟨by omega, by omega⟩
  refine o_pure C hR dL_498 (Or.inr rfl) (fun S => rfl) ?_
  refine o_arg C hR (j := 1) dL_499 dL_500 dL_502 dL_503 dL_504 ⟨rfl, rfl, rfl, rfl, rfl⟩ (by omega) hL ?_
  have hP := j_used (sa := sa) (A := A) (l := (xs (i + 1)).toInt) (okX _) hI.1
  rw [zI_t] at hP
  refine o_desk C hR (A := A) rfl dL_505 tG_8_81 tM_91 rfl rfl ⟨Nat.le_of_ble_eq_true rfl, Nat.le_of_ble_eq_true rfl⟩ rfl rfl hI.2.2.1 ((hP s.heap.size x).1 S hI.2.1 hI.2.2.1 hI.2.2.2) (fun S1 hR1 e1 k1 d1 m1 => ?_)
  refine o_pure C hR1 dL_508 (Or.inr rfl) (fun S => rfl) ?_
  refine o_arg C hR1 (j := 1) dL_509 dL_510 dL_512 dL_513 dL_514 ⟨rfl, rfl, rfl, rfl, rfl⟩ (by omega) hL ?_
  refine o_model C (A := A) rfl (by rw [e1]; exact hr) dL_515 tG_8_84 tM_161 rfl rfl ⟨Nat.le_of_ble_eq_true rfl, Nat.le_of_ble_eq_true rfl⟩ rfl rfl m1 ((hP s.heap.size x).2 S1 k1 d1 m1) (fun S2 hR2 g2 k2 d2 m2 => ?_)
  refine o_eqJ C hR2 rfl dL_518 dL_519 rfl ?_
  exact k S2 _ ⟨hI.1, k2, d2, m2⟩ (by rw [e1] at g2; exact g2)
theorem o_c13 (C : oC p s m c bs Ls xs D sa) (hI : oI sa s.heap.size S A x) (hr : S.2.1 + 400 - s.heap.size ≤ 601024 ∧ S.2.2 + 1000 ≤ 7293034) (hi : i + 3 < Ls) (hL : Ls ≤ 2048) (k : ∀ S2 A2, oI sa s.heap.size S2 A2 x → S2.2.1 ≤ S.2.1 + 400 ∧ S2.2.2 ≤ S.2.2 + 1000 → oW p l e s m below meth c Q D bs 613 (lwL bs s.heap.size i v5 v6) [] S2) : oW p l e s m below meth c Q D bs 524 (lwL bs s.heap.size i v5 v6) [] S := by
  have hR : oR s S := ⟨by omega, by omega⟩
  refine o_pure C hR dL_524 (Or.inr rfl) (fun S => rfl) ?_
  refine o_arg C hR (j := 1) dL_525 dL_526 dL_528 dL_529 dL_530 ⟨rfl, rfl, rfl, rfl, rfl⟩ (by omega) hL ?_
  have hP := j_inline (sa := sa) (A := A) (l := (xs (i + 1)).toInt) (okX _)
  rw [zI_t] at hP
  refine o_desk C hR (A := A) rfl dL_531 tG_8_85 tM_92 rfl rfl ⟨Nat.le_of_ble_eq_true rfl, Nat.le_of_ble_eq_true rfl⟩ rfl rfl hI.2.2.1 ((hP s.heap.size x).1 S hI.2.1 hI.2.2.1 hI.2.2.2) (fun S1 hR1 e1 k1 d1 m1 => ?_)
  refine o_pure C hR1 dL_534 (Or.inr rfl) (fun S => rfl) ?_
  refine o_arg C hR1 (j := 1) dL_535 dL_536 dL_538 dL_539 dL_540 ⟨rfl, rfl, rfl, rfl, rfl⟩ (by omega) hL ?_
  refine o_model C (A := A) rfl (by rw [e1]; exact hr) dL_541 tG_8_88 tM_167 rfl rfl ⟨Nat.le_of_ble_eq_true rfl, Nat.le_of_ble_eq_true rfl⟩ rfl rfl m1 ((hP s.heap.size x).2 S1 k1 d1 m1) (fun S2 hR2 g2 k2 d2 m2 => ?_)
  refine o_eqI C hR2 dL_544 rfl ?_
  exact k S2 _ ⟨okA_inl hI.1, k2, d2, m2⟩ (by rw [e1] at g2; exact g2)
theorem o_c14 (C : oC p s m c bs Ls xs D sa) (hI : oI sa s.heap.size S A x) (hr : S.2.1 + 400 - s.heap.size ≤ 601024 ∧ S.2.2 + 1000 ≤ 7293034) (hi : i + 3 < Ls) (hL : Ls ≤ 2048) (k : ∀ S2 A2, oI sa s.heap.size S2 A2 x → S2.2.1 ≤ S.2.1 + 400 ∧ S2.2.2 ≤ S.2.2 + 1000 → oW p l e s m below meth c Q D bs 613 (lwL bs s.heap.size i v5 v6) [] S2) : oW p l e s m below meth c Q D bs 549 (lwL bs s.heap.size i v5 v6) [] S := by
  have hR : oR s S := ⟨by omega, by omega⟩
  refine o_pure C hR dL_549 (Or.inr rfl) (fun S => rfl) ?_
  refine o_arg C hR (j := 1) dL_550 dL_551 dL_553 dL_554 dL_555 ⟨rfl, rfl, rfl, rfl, rfl⟩ (by omega) hL ?_
  have hP := j_drop (sa := sa) (A := A) (l := (xs (i + 1)).toInt) (okX _)
  rw [zI_t] at hP
  refine o_desk C hR (A := A) rfl dL_556 tG_8_89 tM_93 rfl rfl ⟨Nat.le_of_ble_eq_true rfl, Nat.le_of_ble_eq_true rfl⟩ rfl rfl hI.2.2.1 ((hP s.heap.size x).1 S hI.2.1 hI.2.2.1 hI.2.2.2) (fun S1 hR1 e1 k1 d1 m1 => ?_)
  refine o_pure C hR1 dL_559 (Or.inr rfl) (fun S => rfl) ?_
  refine o_arg C hR1 (j := 1) dL_560 dL_561 dL_563 dL_564 dL_565 ⟨rfl, rfl, rfl, rfl, rfl⟩ (by omega) hL ?_
  refine o_model C (A := A) rfl (by rw [e1]; exact hr) dL_566 tG_8_92 tM_168 rfl rfl ⟨Nat.le_of_ble_eq_true rfl, Nat.le_of_ble_eq_true rfl⟩ rfl rfl m1 ((hP s.heap.size x).2 S1 k1 d1 m1) (fun S2 hR2 g2 k2 d2 m2 => ?_)
  refine o_eqI C hR2 dL_569 rfl ?_
  exact k S2 _ ⟨okA_drp hI.1, k2, d2, m2⟩ (by rw [e1] at g2; exact g2)
theorem o_c15 (C : oC p s m c bs Ls xs D sa) (hI : oI sa s.heap.size S A x) (hr : S.2.1 + 400 - s.heap.size ≤ 601024 ∧ S.2.2 + 1000 ≤ 7293034) (hi : i + 3 < Ls) (hL : Ls ≤ 2048) (k : ∀ S2 A2, oI sa s.heap.size S2 A2 x → S2.2.1 ≤ S.2.1 + 400 ∧ S2.2.2 ≤ S.2.2 + 1000 → oW p l e s m below meth c Q D bs 613 (lwL bs s.heap.size i v5 v6) [] S2) : oW p l e s m below meth c Q D bs 574 (lwL bs s.heap.size i v5 v6) [] S := by
  have hR : oR s S := ⟨by omega, by omega⟩
  refine o_pure C hR dL_574 (Or.inr rfl) (fun S => rfl) ?_
  have hP := j_write (sa := sa) (A := A)
  refine o_desk C hR (A := A) rfl dL_575 tG_8_93 tM_94 rfl rfl ⟨Nat.le_of_ble_eq_true rfl, Nat.le_of_ble_eq_true rfl⟩ rfl rfl hI.2.2.1 ((hP s.heap.size x).1 S hI.2.1 hI.2.2.1 hI.2.2.2) (fun S1 hR1 e1 k1 d1 m1 => ?_)
  refine o_pure C hR1 dL_578 (Or.inr rfl) (fun S => rfl) ?_
  refine o_model C (A := A) rfl (by rw [e1]; exact hr) dL_579 tG_8_96 tM_177 rfl rfl ⟨Nat.le_of_ble_eq_true rfl, Nat.le_of_ble_eq_true rfl⟩ rfl rfl m1 ((hP s.heap.size x).2 S1 k1 d1 m1) (fun S2 hR2 g2 k2 d2 m2 => ?_)
  refine o_eqI C hR2 dL_582 rfl ?_
  exact k S2 _ ⟨okA_wr hI.1, k2, d2, m2⟩ (by rw [e1] at g2; exact g2)
theorem o_c16 (C : oC p s m c bs Ls xs D sa) (hI : oI sa s.heap.size S A x) (hr : S.2.1 + 400 - s.heap.size ≤ 601024 ∧ S.2.2 + 1000 ≤ 7293034) (hi : i + 3 < Ls) (hL : Ls ≤ 2048) (k : ∀ S2 A2, oI sa s.heap.size S2 A2 x → S2.2.1 ≤ S.2.1 + 400 ∧ S2.2.2 ≤ S.2.2 + 1000 → oW p l e s m below meth c Q D bs 613 (lwL bs s.heap.size i v5 v6) [] S2) : oW p l e s m below meth c Q D bs 587 (lwL bs s.heap.size i v5 v6) [] S := by
  have hR : oR s S := ⟨by omega, by omega⟩
  refine o_pure C hR dL_587 (Or.inr rfl) (fun S => rfl) ?_
  refine o_arg C hR (j := 1) dL_588 dL_589 dL_591 dL_592 dL_593 ⟨rfl, rfl, rfl, rfl, rfl⟩ (by omega) hL ?_
  have hP := j_out (sa := sa) (A := A) (l := (xs (i + 1)).toInt)
  rw [zI_t] at hP
  refine o_desk C hR (A := A) rfl dL_594 tG_8_97 tM_95 rfl rfl ⟨Nat.le_of_ble_eq_true rfl, Nat.le_of_ble_eq_true rfl⟩ rfl rfl hI.2.2.1 ((hP s.heap.size x).1 S hI.2.1 hI.2.2.1 hI.2.2.2) (fun S1 hR1 e1 k1 d1 m1 => ?_)
  refine o_pure C hR1 dL_597 (Or.inr rfl) (fun S => rfl) ?_
  refine o_arg C hR1 (j := 1) dL_598 dL_599 dL_601 dL_602 dL_603 ⟨rfl, rfl, rfl, rfl, rfl⟩ (by omega) hL ?_
  refine o_model C (A := A) rfl (by rw [e1]; exact hr) dL_604 tG_8_100 tM_178 rfl rfl ⟨Nat.le_of_ble_eq_true rfl, Nat.le_of_ble_eq_true rfl⟩ rfl rfl m1 ((hP s.heap.size x).2 S1 k1 d1 m1) (fun S2 hR2 g2 k2 d2 m2 => ?_)
  refine o_eqJ C hR2 rfl dL_607 dL_608 rfl ?_
  exact k S2 _ ⟨hI.1, k2, d2, m2⟩ (by rw [e1] at g2; exact g2)
end O3
