/-! the law: its cases -/
def LSl (X : Wx) (b i : Nat) : List (Nat × Value) := [(0, .ref b), (1, .ref (X.2.1 77)), (2, .ref (X.2.1 95)), (3, .int (nI i))]
section LCASES
variable {Y : Lx} {X : Wx} {b Ln : Nat} {xs : Nat → Int32} {u v : ASt}
theorem lc_chip (K : LOk Y X b Ln xs) {i : Nat} (hi : i + 4 ≤ Ln) (hR : Rel u v) (T : ∀ u' v', Rel u' v' → VL Y X b 827 (LSl X b i) [] u' v') : VL Y X b 144 (LSl X b i) [] u v := by
  obtain ⟨r, u', v', e1, e2, hR'⟩ := sim_chip (N := 1000) (by omega) (xs (i + 1)) (xs (i + 2)) u v hR
  refine n_aload_n K 1 rfl rfl dL_law_144 ?_
  refine n_arg K 1 rfl (by omega) rfl rfl dL_law_145 dL_law_146 dL_law_147 dL_law_148 dL_law_149 ?_
  refine n_arg K 2 rfl (by omega) rfl rfl dL_law_150 dL_law_151 dL_law_152 dL_law_153 dL_law_154 ?_
  refine n_callC K (As := [.int (xs (i + 1)), .int (xs (i + 2))]) (rest := []) (c_X6_chip rfl e1) cv_X6_chip ml_L_13 ⟨rfl, rfl, Nat.le_of_ble_eq_true rfl, Nat.le_of_ble_eq_true rfl⟩ rfl rfl (Nat.le_of_ble_eq_true rfl) dL_law_155 ?_
  refine n_aload_n K 2 rfl rfl dL_law_158 ?_
  refine n_arg K 1 rfl (by omega) rfl rfl dL_law_159 dL_law_160 dL_law_161 dL_law_162 dL_law_163 ?_
  refine n_arg K 2 rfl (by omega) rfl rfl dL_law_164 dL_law_165 dL_law_166 dL_law_167 dL_law_168 ?_
  refine n_callM K (As := [.int (xs (i + 1)), .int (xs (i + 2))]) (rest := [.int r]) (c_X7_chip rfl e2) cv_X7_chip ml_L_17 ⟨rfl, rfl, Nat.le_of_ble_eq_true rfl, Nat.le_of_ble_eq_true rfl⟩ rfl rfl (Nat.le_of_ble_eq_true rfl) dL_law_169 ?_
  exact n_icmp_eq K 827 (by decide) dL_law_172 (fun _ => T u' v' hR') (fun h => absurd rfl h)
theorem lc_cell (K : LOk Y X b Ln xs) {i : Nat} (hi : i + 4 ≤ Ln) (hR : Rel u v) (T : ∀ u' v', Rel u' v' → VL Y X b 827 (LSl X b i) [] u' v') : VL Y X b 177 (LSl X b i) [] u v := by
  obtain ⟨r, u', v', e1, e2, hR'⟩ := sim_cell (N := 1000) (by omega) (xs (i + 1)) (xs (i + 2)) (xs (i + 3)) u v hR
  refine n_aload_n K 1 rfl rfl dL_law_177 ?_
  refine n_arg K 1 rfl (by omega) rfl rfl dL_law_178 dL_law_179 dL_law_180 dL_law_181 dL_law_182 ?_
  refine n_arg K 2 rfl (by omega) rfl rfl dL_law_183 dL_law_184 dL_law_185 dL_law_186 dL_law_187 ?_
  refine n_arg K 3 rfl (by omega) rfl rfl dL_law_188 dL_law_189 dL_law_190 dL_law_191 dL_law_192 ?_
  refine n_callC K (As := [.int (xs (i + 1)), .int (xs (i + 2)), .int (xs (i + 3))]) (rest := []) (c_X6_cell rfl e1) cv_X6_cell ml_L_18 ⟨rfl, rfl, Nat.le_of_ble_eq_true rfl, Nat.le_of_ble_eq_true rfl⟩ rfl rfl (Nat.le_of_ble_eq_true rfl) dL_law_193 ?_
  refine n_aload_n K 2 rfl rfl dL_law_196 ?_
  refine n_arg K 1 rfl (by omega) rfl rfl dL_law_197 dL_law_198 dL_law_199 dL_law_200 dL_law_201 ?_
  refine n_arg K 2 rfl (by omega) rfl rfl dL_law_202 dL_law_203 dL_law_204 dL_law_205 dL_law_206 ?_
  refine n_arg K 3 rfl (by omega) rfl rfl dL_law_207 dL_law_208 dL_law_209 dL_law_210 dL_law_211 ?_
  refine n_callM K (As := [.int (xs (i + 1)), .int (xs (i + 2)), .int (xs (i + 3))]) (rest := [.int r]) (c_X7_cell rfl e2) cv_X7_cell ml_L_22 ⟨rfl, rfl, Nat.le_of_ble_eq_true rfl, Nat.le_of_ble_eq_true rfl⟩ rfl rfl (Nat.le_of_ble_eq_true rfl) dL_law_212 ?_
  exact n_icmp_eq K 827 (by decide) dL_law_215 (fun _ => T u' v' hR') (fun h => absurd rfl h)
theorem lc_opens (K : LOk Y X b Ln xs) {i : Nat} (hi : i + 4 ≤ Ln) (hR : Rel u v) (T : ∀ u' v', Rel u' v' → VL Y X b 827 (LSl X b i) [] u' v') : VL Y X b 220 (LSl X b i) [] u v := by
  obtain ⟨r, u', v', e1, e2, hR'⟩ := sim_opens (N := 1000) (by omega) (xs (i + 1)) (xs (i + 2)) u v hR
  refine n_aload_n K 1 rfl rfl dL_law_220 ?_
  refine n_arg K 1 rfl (by omega) rfl rfl dL_law_221 dL_law_222 dL_law_223 dL_law_224 dL_law_225 ?_
  refine n_arg K 2 rfl (by omega) rfl rfl dL_law_226 dL_law_227 dL_law_228 dL_law_229 dL_law_230 ?_
  refine n_callC K (As := [.int (xs (i + 1)), .int (xs (i + 2))]) (rest := []) (c_X6_opens rfl e1) cv_X6_opens ml_L_23 ⟨rfl, rfl, Nat.le_of_ble_eq_true rfl, Nat.le_of_ble_eq_true rfl⟩ rfl rfl (Nat.le_of_ble_eq_true rfl) dL_law_231 ?_
  refine n_aload_n K 2 rfl rfl dL_law_234 ?_
  refine n_arg K 1 rfl (by omega) rfl rfl dL_law_235 dL_law_236 dL_law_237 dL_law_238 dL_law_239 ?_
  refine n_arg K 2 rfl (by omega) rfl rfl dL_law_240 dL_law_241 dL_law_242 dL_law_243 dL_law_244 ?_
  refine n_callM K (As := [.int (xs (i + 1)), .int (xs (i + 2))]) (rest := [.int r]) (c_X7_opens rfl e2) cv_X7_opens ml_L_26 ⟨rfl, rfl, Nat.le_of_ble_eq_true rfl, Nat.le_of_ble_eq_true rfl⟩ rfl rfl (Nat.le_of_ble_eq_true rfl) dL_law_245 ?_
  exact n_icmp_eq K 827 (by decide) dL_law_248 (fun _ => T u' v' hR') (fun h => absurd rfl h)
theorem lc_sticks (K : LOk Y X b Ln xs) {i : Nat} (hi : i + 4 ≤ Ln) (hR : Rel u v) (T : ∀ u' v', Rel u' v' → VL Y X b 827 (LSl X b i) [] u' v') : VL Y X b 253 (LSl X b i) [] u v := by
  obtain ⟨r, u', v', e1, e2, hR'⟩ := sim_sticks (N := 1000) (by omega) (xs (i + 1)) (xs (i + 2)) u v hR
  refine n_aload_n K 1 rfl rfl dL_law_253 ?_
  refine n_arg K 1 rfl (by omega) rfl rfl dL_law_254 dL_law_255 dL_law_256 dL_law_257 dL_law_258 ?_
  refine n_arg K 2 rfl (by omega) rfl rfl dL_law_259 dL_law_260 dL_law_261 dL_law_262 dL_law_263 ?_
  refine n_callC K (As := [.int (xs (i + 1)), .int (xs (i + 2))]) (rest := []) (c_X6_sticks rfl e1) cv_X6_sticks ml_L_27 ⟨rfl, rfl, Nat.le_of_ble_eq_true rfl, Nat.le_of_ble_eq_true rfl⟩ rfl rfl (Nat.le_of_ble_eq_true rfl) dL_law_264 ?_
  refine n_aload_n K 2 rfl rfl dL_law_267 ?_
  refine n_arg K 1 rfl (by omega) rfl rfl dL_law_268 dL_law_269 dL_law_270 dL_law_271 dL_law_272 ?_
  refine n_arg K 2 rfl (by omega) rfl rfl dL_law_273 dL_law_274 dL_law_275 dL_law_276 dL_law_277 ?_
  refine n_callM K (As := [.int (xs (i + 1)), .int (xs (i + 2))]) (rest := [.int r]) (c_X7_sticks rfl e2) cv_X7_sticks ml_L_30 ⟨rfl, rfl, Nat.le_of_ble_eq_true rfl, Nat.le_of_ble_eq_true rfl⟩ rfl rfl (Nat.le_of_ble_eq_true rfl) dL_law_278 ?_
  exact n_icmp_eq K 827 (by decide) dL_law_281 (fun _ => T u' v' hR') (fun h => absurd rfl h)
theorem lc_shorts (K : LOk Y X b Ln xs) {i : Nat} (hi : i + 4 ≤ Ln) (hR : Rel u v) (T : ∀ u' v', Rel u' v' → VL Y X b 827 (LSl X b i) [] u' v') : VL Y X b 286 (LSl X b i) [] u v := by
  obtain ⟨r, u', v', e1, e2, hR'⟩ := sim_shorts (N := 1000) (by omega) (xs (i + 1)) (xs (i + 2)) (xs (i + 3)) u v hR
  refine n_aload_n K 1 rfl rfl dL_law_286 ?_
  refine n_arg K 1 rfl (by omega) rfl rfl dL_law_287 dL_law_288 dL_law_289 dL_law_290 dL_law_291 ?_
  refine n_arg K 2 rfl (by omega) rfl rfl dL_law_292 dL_law_293 dL_law_294 dL_law_295 dL_law_296 ?_
  refine n_arg K 3 rfl (by omega) rfl rfl dL_law_297 dL_law_298 dL_law_299 dL_law_300 dL_law_301 ?_
  refine n_callC K (As := [.int (xs (i + 1)), .int (xs (i + 2)), .int (xs (i + 3))]) (rest := []) (c_X6_shorts rfl e1) cv_X6_shorts ml_L_31 ⟨rfl, rfl, Nat.le_of_ble_eq_true rfl, Nat.le_of_ble_eq_true rfl⟩ rfl rfl (Nat.le_of_ble_eq_true rfl) dL_law_302 ?_
  refine n_aload_n K 2 rfl rfl dL_law_305 ?_
  refine n_arg K 1 rfl (by omega) rfl rfl dL_law_306 dL_law_307 dL_law_308 dL_law_309 dL_law_310 ?_
  refine n_arg K 2 rfl (by omega) rfl rfl dL_law_311 dL_law_312 dL_law_313 dL_law_314 dL_law_315 ?_
  refine n_arg K 3 rfl (by omega) rfl rfl dL_law_316 dL_law_317 dL_law_318 dL_law_319 dL_law_320 ?_
  refine n_callM K (As := [.int (xs (i + 1)), .int (xs (i + 2)), .int (xs (i + 3))]) (rest := [.int r]) (c_X7_shorts rfl e2) cv_X7_shorts ml_L_34 ⟨rfl, rfl, Nat.le_of_ble_eq_true rfl, Nat.le_of_ble_eq_true rfl⟩ rfl rfl (Nat.le_of_ble_eq_true rfl) dL_law_321 ?_
  exact n_icmp_eq K 827 (by decide) dL_law_324 (fun _ => T u' v' hR') (fun h => absurd rfl h)
theorem lc_heals (K : LOk Y X b Ln xs) {i : Nat} (hi : i + 4 ≤ Ln) (hR : Rel u v) (T : ∀ u' v', Rel u' v' → VL Y X b 827 (LSl X b i) [] u' v') : VL Y X b 329 (LSl X b i) [] u v := by
  obtain ⟨r, u', v', e1, e2, hR'⟩ := sim_heals (N := 1000) (by omega) u v hR
  refine n_aload_n K 1 rfl rfl dL_law_329 ?_
  refine n_callC K (As := []) (rest := []) (c_X6_heals rfl e1) cv_X6_heals ml_L_35 ⟨rfl, rfl, Nat.le_of_ble_eq_true rfl, Nat.le_of_ble_eq_true rfl⟩ rfl rfl (Nat.le_of_ble_eq_true rfl) dL_law_330 ?_
  refine n_aload_n K 2 rfl rfl dL_law_333 ?_
  refine n_callM K (As := []) (rest := [.int r]) (c_X7_heals rfl e2) cv_X7_heals ml_L_39 ⟨rfl, rfl, Nat.le_of_ble_eq_true rfl, Nat.le_of_ble_eq_true rfl⟩ rfl rfl (Nat.le_of_ble_eq_true rfl) dL_law_334 ?_
  exact n_icmp_eq K 827 (by decide) dL_law_337 (fun _ => T u' v' hR') (fun h => absurd rfl h)
theorem lc_clock (K : LOk Y X b Ln xs) {i : Nat} (hi : i + 4 ≤ Ln) (hR : Rel u v) (T : ∀ u' v', Rel u' v' → VL Y X b 827 (LSl X b i) [] u' v') : VL Y X b 342 (LSl X b i) [] u v := by
  obtain ⟨r, u', v', e1, e2, hR'⟩ := sim_clock (N := 1000) (by omega) (xs (i + 1)) (xs (i + 2)) u v hR
  refine n_aload_n K 1 rfl rfl dL_law_342 ?_
  refine n_arg K 1 rfl (by omega) rfl rfl dL_law_343 dL_law_344 dL_law_345 dL_law_346 dL_law_347 ?_
  refine n_arg K 2 rfl (by omega) rfl rfl dL_law_348 dL_law_349 dL_law_350 dL_law_351 dL_law_352 ?_
  refine n_callC K (As := [.int (xs (i + 1)), .int (xs (i + 2))]) (rest := []) (c_X6_clock rfl e1) cv_X6_clock ml_L_40 ⟨rfl, rfl, Nat.le_of_ble_eq_true rfl, Nat.le_of_ble_eq_true rfl⟩ rfl rfl (Nat.le_of_ble_eq_true rfl) dL_law_353 ?_
  refine n_aload_n K 2 rfl rfl dL_law_356 ?_
  refine n_arg K 1 rfl (by omega) rfl rfl dL_law_357 dL_law_358 dL_law_359 dL_law_360 dL_law_361 ?_
  refine n_arg K 2 rfl (by omega) rfl rfl dL_law_362 dL_law_363 dL_law_364 dL_law_365 dL_law_366 ?_
  refine n_callM K (As := [.int (xs (i + 1)), .int (xs (i + 2))]) (rest := [.int r]) (c_X7_clock rfl e2) cv_X7_clock ml_L_43 ⟨rfl, rfl, Nat.le_of_ble_eq_true rfl, Nat.le_of_ble_eq_true rfl⟩ rfl rfl (Nat.le_of_ble_eq_true rfl) dL_law_367 ?_
  exact n_icmp_eq K 827 (by decide) dL_law_370 (fun _ => T u' v' hR') (fun h => absurd rfl h)
theorem lc_clocks (K : LOk Y X b Ln xs) {i : Nat} (hi : i + 4 ≤ Ln) (hR : Rel u v) (T : ∀ u' v', Rel u' v' → VL Y X b 827 (LSl X b i) [] u' v') : VL Y X b 375 (LSl X b i) [] u v := by
  obtain ⟨r, u', v', e1, e2, hR'⟩ := sim_clocks (N := 1000) (by omega) (xs (i + 1)) (xs (i + 2)) (xs (i + 3)) u v hR
  refine n_aload_n K 1 rfl rfl dL_law_375 ?_
  refine n_arg K 1 rfl (by omega) rfl rfl dL_law_376 dL_law_377 dL_law_378 dL_law_379 dL_law_380 ?_
  refine n_arg K 2 rfl (by omega) rfl rfl dL_law_381 dL_law_382 dL_law_383 dL_law_384 dL_law_385 ?_
  refine n_arg K 3 rfl (by omega) rfl rfl dL_law_386 dL_law_387 dL_law_388 dL_law_389 dL_law_390 ?_
  refine n_callC K (As := [.int (xs (i + 1)), .int (xs (i + 2)), .int (xs (i + 3))]) (rest := []) (c_X6_clocks rfl e1) cv_X6_clocks ml_L_44 ⟨rfl, rfl, Nat.le_of_ble_eq_true rfl, Nat.le_of_ble_eq_true rfl⟩ rfl rfl (Nat.le_of_ble_eq_true rfl) dL_law_391 ?_
  refine n_aload_n K 2 rfl rfl dL_law_394 ?_
  refine n_arg K 1 rfl (by omega) rfl rfl dL_law_395 dL_law_396 dL_law_397 dL_law_398 dL_law_399 ?_
  refine n_arg K 2 rfl (by omega) rfl rfl dL_law_400 dL_law_401 dL_law_402 dL_law_403 dL_law_404 ?_
  refine n_arg K 3 rfl (by omega) rfl rfl dL_law_405 dL_law_406 dL_law_407 dL_law_408 dL_law_409 ?_
  refine n_callM K (As := [.int (xs (i + 1)), .int (xs (i + 2)), .int (xs (i + 3))]) (rest := [.int r]) (c_X7_clocks rfl e2) cv_X7_clocks ml_L_47 ⟨rfl, rfl, Nat.le_of_ble_eq_true rfl, Nat.le_of_ble_eq_true rfl⟩ rfl rfl (Nat.le_of_ble_eq_true rfl) dL_law_410 ?_
  exact n_icmp_eq K 827 (by decide) dL_law_413 (fun _ => T u' v' hR') (fun h => absurd rfl h)
theorem lc_port (K : LOk Y X b Ln xs) {i : Nat} (hi : i + 4 ≤ Ln) (hR : Rel u v) (T : ∀ u' v', Rel u' v' → VL Y X b 827 (LSl X b i) [] u' v') : VL Y X b 418 (LSl X b i) [] u v := by
  obtain ⟨r, u', v', e1, e2, hR'⟩ := sim_port (N := 1000) (by omega) (xs (i + 1)) u v hR
  refine n_aload_n K 1 rfl rfl dL_law_418 ?_
  refine n_arg K 1 rfl (by omega) rfl rfl dL_law_419 dL_law_420 dL_law_421 dL_law_422 dL_law_423 ?_
  refine n_callC K (As := [.int (xs (i + 1))]) (rest := []) (c_X6_port rfl e1) cv_X6_port ml_L_48 ⟨rfl, rfl, Nat.le_of_ble_eq_true rfl, Nat.le_of_ble_eq_true rfl⟩ rfl rfl (Nat.le_of_ble_eq_true rfl) dL_law_424 ?_
  refine n_aload_n K 2 rfl rfl dL_law_427 ?_
  refine n_arg K 1 rfl (by omega) rfl rfl dL_law_428 dL_law_429 dL_law_430 dL_law_431 dL_law_432 ?_
  refine n_callM K (As := [.int (xs (i + 1))]) (rest := [.int r]) (c_X7_port rfl e2) cv_X7_port ml_L_52 ⟨rfl, rfl, Nat.le_of_ble_eq_true rfl, Nat.le_of_ble_eq_true rfl⟩ rfl rfl (Nat.le_of_ble_eq_true rfl) dL_law_433 ?_
  exact n_icmp_eq K 827 (by decide) dL_law_436 (fun _ => T u' v' hR') (fun h => absurd rfl h)
theorem lc_of (K : LOk Y X b Ln xs) {i : Nat} (hi : i + 4 ≤ Ln) (hR : Rel u v) (T : ∀ u' v', Rel u' v' → VL Y X b 827 (LSl X b i) [] u' v') : VL Y X b 441 (LSl X b i) [] u v := by
  obtain ⟨r, u', v', e1, e2, hR'⟩ := sim_of (N := 1000) (by omega) (xs (i + 1)) (xs (i + 2)) u v hR
  refine n_aload_n K 1 rfl rfl dL_law_441 ?_
  refine n_arg K 1 rfl (by omega) rfl rfl dL_law_442 dL_law_443 dL_law_444 dL_law_445 dL_law_446 ?_
  refine n_arg K 2 rfl (by omega) rfl rfl dL_law_447 dL_law_448 dL_law_449 dL_law_450 dL_law_451 ?_
  refine n_callC K (As := [.int (xs (i + 1)), .int (xs (i + 2))]) (rest := []) (c_X6_of rfl e1) cv_X6_of ml_L_53 ⟨rfl, rfl, Nat.le_of_ble_eq_true rfl, Nat.le_of_ble_eq_true rfl⟩ rfl rfl (Nat.le_of_ble_eq_true rfl) dL_law_452 ?_
  refine n_aload_n K 2 rfl rfl dL_law_455 ?_
  refine n_arg K 1 rfl (by omega) rfl rfl dL_law_456 dL_law_457 dL_law_458 dL_law_459 dL_law_460 ?_
  refine n_arg K 2 rfl (by omega) rfl rfl dL_law_461 dL_law_462 dL_law_463 dL_law_464 dL_law_465 ?_
  refine n_callM K (As := [.int (xs (i + 1)), .int (xs (i + 2))]) (rest := [.int r]) (c_X7_of rfl e2) cv_X7_of ml_L_56 ⟨rfl, rfl, Nat.le_of_ble_eq_true rfl, Nat.le_of_ble_eq_true rfl⟩ rfl rfl (Nat.le_of_ble_eq_true rfl) dL_law_466 ?_
  exact n_icmp_eq K 827 (by decide) dL_law_469 (fun _ => T u' v' hR') (fun h => absurd rfl h)
theorem lc_about (K : LOk Y X b Ln xs) {i : Nat} (hi : i + 4 ≤ Ln) (hR : Rel u v) (T : ∀ u' v', Rel u' v' → VL Y X b 827 (LSl X b i) [] u' v') : VL Y X b 474 (LSl X b i) [] u v := by
  obtain ⟨r, u', v', e1, e2, hR'⟩ := sim_about (N := 1000) (by omega) (xs (i + 1)) (xs (i + 2)) (xs (i + 3)) u v hR
  refine n_aload_n K 1 rfl rfl dL_law_474 ?_
  refine n_arg K 1 rfl (by omega) rfl rfl dL_law_475 dL_law_476 dL_law_477 dL_law_478 dL_law_479 ?_
  refine n_arg K 2 rfl (by omega) rfl rfl dL_law_480 dL_law_481 dL_law_482 dL_law_483 dL_law_484 ?_
  refine n_arg K 3 rfl (by omega) rfl rfl dL_law_485 dL_law_486 dL_law_487 dL_law_488 dL_law_489 ?_
  refine n_callC K (As := [.int (xs (i + 1)), .int (xs (i + 2)), .int (xs (i + 3))]) (rest := []) (c_X6_about rfl e1) cv_X6_about ml_L_57 ⟨rfl, rfl, Nat.le_of_ble_eq_true rfl, Nat.le_of_ble_eq_true rfl⟩ rfl rfl (Nat.le_of_ble_eq_true rfl) dL_law_490 ?_
  refine n_aload_n K 2 rfl rfl dL_law_493 ?_
  refine n_arg K 1 rfl (by omega) rfl rfl dL_law_494 dL_law_495 dL_law_496 dL_law_497 dL_law_498 ?_
  refine n_arg K 2 rfl (by omega) rfl rfl dL_law_499 dL_law_500 dL_law_501 dL_law_502 dL_law_503 ?_
  refine n_arg K 3 rfl (by omega) rfl rfl dL_law_504 dL_law_505 dL_law_506 dL_law_507 dL_law_508 ?_
  refine n_callM K (As := [.int (xs (i + 1)), .int (xs (i + 2)), .int (xs (i + 3))]) (rest := [.int r]) (c_X7_about rfl e2) cv_X7_about ml_L_60 ⟨rfl, rfl, Nat.le_of_ble_eq_true rfl, Nat.le_of_ble_eq_true rfl⟩ rfl rfl (Nat.le_of_ble_eq_true rfl) dL_law_509 ?_
  exact n_icmp_eq K 827 (by decide) dL_law_512 (fun _ => T u' v' hR') (fun h => absurd rfl h)
theorem lc_count (K : LOk Y X b Ln xs) {i : Nat} (hi : i + 4 ≤ Ln) (hR : Rel u v) (T : ∀ u' v', Rel u' v' → VL Y X b 827 (LSl X b i) [] u' v') : VL Y X b 517 (LSl X b i) [] u v := by
  obtain ⟨r, u', v', e1, e2, hR'⟩ := sim_count (N := 1000) (by omega) (xs (i + 1)) u v hR
  refine n_aload_n K 1 rfl rfl dL_law_517 ?_
  refine n_arg K 1 rfl (by omega) rfl rfl dL_law_518 dL_law_519 dL_law_520 dL_law_521 dL_law_522 ?_
  refine n_callC K (As := [.int (xs (i + 1))]) (rest := []) (c_X6_count rfl e1) cv_X6_count ml_L_61 ⟨rfl, rfl, Nat.le_of_ble_eq_true rfl, Nat.le_of_ble_eq_true rfl⟩ rfl rfl (Nat.le_of_ble_eq_true rfl) dL_law_523 ?_
  refine n_aload_n K 2 rfl rfl dL_law_526 ?_
  refine n_arg K 1 rfl (by omega) rfl rfl dL_law_527 dL_law_528 dL_law_529 dL_law_530 dL_law_531 ?_
  refine n_callM K (As := [.int (xs (i + 1))]) (rest := [.int r]) (c_X7_count rfl e2) cv_X7_count ml_L_64 ⟨rfl, rfl, Nat.le_of_ble_eq_true rfl, Nat.le_of_ble_eq_true rfl⟩ rfl rfl (Nat.le_of_ble_eq_true rfl) dL_law_532 ?_
  exact n_icmp_eq K 827 (by decide) dL_law_535 (fun _ => T u' v' hR') (fun h => absurd rfl h)
theorem lc_fault (K : LOk Y X b Ln xs) {i : Nat} (hi : i + 4 ≤ Ln) (hR : Rel u v) (T : ∀ u' v', Rel u' v' → VL Y X b 827 (LSl X b i) [] u' v') : VL Y X b 540 (LSl X b i) [] u v := by
  obtain ⟨r, u', v', e1, e2, hR'⟩ := sim_fault (N := 1000) (by omega) (xs (i + 1)) u v hR
  refine n_aload_n K 1 rfl rfl dL_law_540 ?_
  refine n_arg K 1 rfl (by omega) rfl rfl dL_law_541 dL_law_542 dL_law_543 dL_law_544 dL_law_545 ?_
  refine n_callC K (As := [.int (xs (i + 1))]) (rest := []) (c_X6_fault rfl e1) cv_X6_fault ml_L_65 ⟨rfl, rfl, Nat.le_of_ble_eq_true rfl, Nat.le_of_ble_eq_true rfl⟩ rfl rfl (Nat.le_of_ble_eq_true rfl) dL_law_546 ?_
  refine n_aload_n K 2 rfl rfl dL_law_549 ?_
  refine n_arg K 1 rfl (by omega) rfl rfl dL_law_550 dL_law_551 dL_law_552 dL_law_553 dL_law_554 ?_
  refine n_callM K (As := [.int (xs (i + 1))]) (rest := [.int r]) (c_X7_fault rfl e2) cv_X7_fault ml_L_68 ⟨rfl, rfl, Nat.le_of_ble_eq_true rfl, Nat.le_of_ble_eq_true rfl⟩ rfl rfl (Nat.le_of_ble_eq_true rfl) dL_law_555 ?_
  exact n_icmp_eq K 827 (by decide) dL_law_558 (fun _ => T u' v' hR') (fun h => absurd rfl h)
theorem lc_patterns (K : LOk Y X b Ln xs) {i : Nat} (hi : i + 4 ≤ Ln) (hR : Rel u v) (T : ∀ u' v', Rel u' v' → VL Y X b 827 (LSl X b i) [] u' v') : VL Y X b 563 (LSl X b i) [] u v := by
  obtain ⟨r, u', v', e1, e2, hR'⟩ := sim_patterns (N := 1000) (by omega) (xs (i + 1)) u v hR
  refine n_aload_n K 1 rfl rfl dL_law_563 ?_
  refine n_arg K 1 rfl (by omega) rfl rfl dL_law_564 dL_law_565 dL_law_566 dL_law_567 dL_law_568 ?_
  refine n_callC K (As := [.int (xs (i + 1))]) (rest := []) (c_X6_patterns rfl e1) cv_X6_patterns ml_L_69 ⟨rfl, rfl, Nat.le_of_ble_eq_true rfl, Nat.le_of_ble_eq_true rfl⟩ rfl rfl (Nat.le_of_ble_eq_true rfl) dL_law_569 ?_
  refine n_aload_n K 2 rfl rfl dL_law_572 ?_
  refine n_arg K 1 rfl (by omega) rfl rfl dL_law_573 dL_law_574 dL_law_575 dL_law_576 dL_law_577 ?_
  refine n_callM K (As := [.int (xs (i + 1))]) (rest := [.int r]) (c_X7_patterns rfl e2) cv_X7_patterns ml_L_72 ⟨rfl, rfl, Nat.le_of_ble_eq_true rfl, Nat.le_of_ble_eq_true rfl⟩ rfl rfl (Nat.le_of_ble_eq_true rfl) dL_law_578 ?_
  exact n_icmp_eq K 827 (by decide) dL_law_581 (fun _ => T u' v' hR') (fun h => absurd rfl h)
theorem lc_pattern (K : LOk Y X b Ln xs) {i : Nat} (hi : i + 4 ≤ Ln) (hR : Rel u v) (T : ∀ u' v', Rel u' v' → VL Y X b 827 (LSl X b i) [] u' v') : VL Y X b 586 (LSl X b i) [] u v := by
  obtain ⟨r, u', v', e1, e2, hR'⟩ := sim_pattern (N := 1000) (by omega) (xs (i + 1)) (xs (i + 2)) (xs (i + 3)) u v hR
  refine n_aload_n K 1 rfl rfl dL_law_586 ?_
  refine n_arg K 1 rfl (by omega) rfl rfl dL_law_587 dL_law_588 dL_law_589 dL_law_590 dL_law_591 ?_
  refine n_arg K 2 rfl (by omega) rfl rfl dL_law_592 dL_law_593 dL_law_594 dL_law_595 dL_law_596 ?_
  refine n_arg K 3 rfl (by omega) rfl rfl dL_law_597 dL_law_598 dL_law_599 dL_law_600 dL_law_601 ?_
  refine n_callC K (As := [.int (xs (i + 1)), .int (xs (i + 2)), .int (xs (i + 3))]) (rest := []) (c_X6_pattern rfl e1) cv_X6_pattern ml_L_73 ⟨rfl, rfl, Nat.le_of_ble_eq_true rfl, Nat.le_of_ble_eq_true rfl⟩ rfl rfl (Nat.le_of_ble_eq_true rfl) dL_law_602 ?_
  refine n_aload_n K 2 rfl rfl dL_law_605 ?_
  refine n_arg K 1 rfl (by omega) rfl rfl dL_law_606 dL_law_607 dL_law_608 dL_law_609 dL_law_610 ?_
  refine n_arg K 2 rfl (by omega) rfl rfl dL_law_611 dL_law_612 dL_law_613 dL_law_614 dL_law_615 ?_
  refine n_arg K 3 rfl (by omega) rfl rfl dL_law_616 dL_law_617 dL_law_618 dL_law_619 dL_law_620 ?_
  refine n_callM K (As := [.int (xs (i + 1)), .int (xs (i + 2)), .int (xs (i + 3))]) (rest := [.int r]) (c_X7_pattern rfl e2) cv_X7_pattern ml_L_76 ⟨rfl, rfl, Nat.le_of_ble_eq_true rfl, Nat.le_of_ble_eq_true rfl⟩ rfl rfl (Nat.le_of_ble_eq_true rfl) dL_law_621 ?_
  exact n_icmp_eq K 827 (by decide) dL_law_624 (fun _ => T u' v' hR') (fun h => absurd rfl h)
theorem lc_answer (K : LOk Y X b Ln xs) {i : Nat} (hi : i + 4 ≤ Ln) (hR : Rel u v) (T : ∀ u' v', Rel u' v' → VL Y X b 827 (LSl X b i) [] u' v') : VL Y X b 629 (LSl X b i) [] u v := by
  obtain ⟨r, u', v', e1, e2, hR'⟩ := sim_answer (N := 1000) (by omega) (xs (i + 1)) (xs (i + 2)) (xs (i + 3)) u v hR
  refine n_aload_n K 1 rfl rfl dL_law_629 ?_
  refine n_arg K 1 rfl (by omega) rfl rfl dL_law_630 dL_law_631 dL_law_632 dL_law_633 dL_law_634 ?_
  refine n_arg K 2 rfl (by omega) rfl rfl dL_law_635 dL_law_636 dL_law_637 dL_law_638 dL_law_639 ?_
  refine n_arg K 3 rfl (by omega) rfl rfl dL_law_640 dL_law_641 dL_law_642 dL_law_643 dL_law_644 ?_
  refine n_callC K (As := [.int (xs (i + 1)), .int (xs (i + 2)), .int (xs (i + 3))]) (rest := []) (c_X6_answer rfl e1) cv_X6_answer ml_L_77 ⟨rfl, rfl, Nat.le_of_ble_eq_true rfl, Nat.le_of_ble_eq_true rfl⟩ rfl rfl (Nat.le_of_ble_eq_true rfl) dL_law_645 ?_
  refine n_aload_n K 2 rfl rfl dL_law_648 ?_
  refine n_arg K 1 rfl (by omega) rfl rfl dL_law_649 dL_law_650 dL_law_651 dL_law_652 dL_law_653 ?_
  refine n_arg K 2 rfl (by omega) rfl rfl dL_law_654 dL_law_655 dL_law_656 dL_law_657 dL_law_658 ?_
  refine n_arg K 3 rfl (by omega) rfl rfl dL_law_659 dL_law_660 dL_law_661 dL_law_662 dL_law_663 ?_
  refine n_callM K (As := [.int (xs (i + 1)), .int (xs (i + 2)), .int (xs (i + 3))]) (rest := [.int r]) (c_X7_answer rfl e2) cv_X7_answer ml_L_80 ⟨rfl, rfl, Nat.le_of_ble_eq_true rfl, Nat.le_of_ble_eq_true rfl⟩ rfl rfl (Nat.le_of_ble_eq_true rfl) dL_law_664 ?_
  exact n_icmp_eq K 827 (by decide) dL_law_667 (fun _ => T u' v' hR') (fun h => absurd rfl h)
theorem lc_seen (K : LOk Y X b Ln xs) {i : Nat} (hi : i + 4 ≤ Ln) (hR : Rel u v) (T : ∀ u' v', Rel u' v' → VL Y X b 827 (LSl X b i) [] u' v') : VL Y X b 672 (LSl X b i) [] u v := by
  obtain ⟨r, u', v', e1, e2, hR'⟩ := sim_seen (N := 1000) (by omega) (xs (i + 1)) u v hR
  refine n_aload_n K 1 rfl rfl dL_law_672 ?_
  refine n_arg K 1 rfl (by omega) rfl rfl dL_law_673 dL_law_674 dL_law_675 dL_law_676 dL_law_677 ?_
  refine n_callC K (As := [.int (xs (i + 1))]) (rest := []) (c_X6_seen rfl e1) cv_X6_seen ml_L_81 ⟨rfl, rfl, Nat.le_of_ble_eq_true rfl, Nat.le_of_ble_eq_true rfl⟩ rfl rfl (Nat.le_of_ble_eq_true rfl) dL_law_678 ?_
  refine n_aload_n K 2 rfl rfl dL_law_681 ?_
  refine n_arg K 1 rfl (by omega) rfl rfl dL_law_682 dL_law_683 dL_law_684 dL_law_685 dL_law_686 ?_
  refine n_callM K (As := [.int (xs (i + 1))]) (rest := [.int r]) (c_X7_seen rfl e2) cv_X7_seen ml_L_84 ⟨rfl, rfl, Nat.le_of_ble_eq_true rfl, Nat.le_of_ble_eq_true rfl⟩ rfl rfl (Nat.le_of_ble_eq_true rfl) dL_law_687 ?_
  exact n_icmp_eq K 827 (by decide) dL_law_690 (fun _ => T u' v' hR') (fun h => absurd rfl h)
theorem lc_suspects (K : LOk Y X b Ln xs) {i : Nat} (hi : i + 4 ≤ Ln) (hR : Rel u v) (T : ∀ u' v', Rel u' v' → VL Y X b 827 (LSl X b i) [] u' v') : VL Y X b 695 (LSl X b i) [] u v := by
  obtain ⟨r, u', v', e1, e2, hR'⟩ := sim_suspects (N := 1000) (by omega) (xs (i + 1)) (xs (i + 2)) u v hR
  refine n_aload_n K 1 rfl rfl dL_law_695 ?_
  refine n_arg K 1 rfl (by omega) rfl rfl dL_law_696 dL_law_697 dL_law_698 dL_law_699 dL_law_700 ?_
  refine n_arg K 2 rfl (by omega) rfl rfl dL_law_701 dL_law_702 dL_law_703 dL_law_704 dL_law_705 ?_
  refine n_callC K (As := [.int (xs (i + 1)), .int (xs (i + 2))]) (rest := []) (c_X6_suspects rfl e1) cv_X6_suspects ml_L_85 ⟨rfl, rfl, Nat.le_of_ble_eq_true rfl, Nat.le_of_ble_eq_true rfl⟩ rfl rfl (Nat.le_of_ble_eq_true rfl) dL_law_706 ?_
  refine n_aload_n K 2 rfl rfl dL_law_709 ?_
  refine n_arg K 1 rfl (by omega) rfl rfl dL_law_710 dL_law_711 dL_law_712 dL_law_713 dL_law_714 ?_
  refine n_arg K 2 rfl (by omega) rfl rfl dL_law_715 dL_law_716 dL_law_717 dL_law_718 dL_law_719 ?_
  refine n_callM K (As := [.int (xs (i + 1)), .int (xs (i + 2))]) (rest := [.int r]) (c_X7_suspects rfl e2) cv_X7_suspects ml_L_88 ⟨rfl, rfl, Nat.le_of_ble_eq_true rfl, Nat.le_of_ble_eq_true rfl⟩ rfl rfl (Nat.le_of_ble_eq_true rfl) dL_law_720 ?_
  exact n_icmp_eq K 827 (by decide) dL_law_723 (fun _ => T u' v' hR') (fun h => absurd rfl h)
theorem lc_type (K : LOk Y X b Ln xs) {i : Nat} (hi : i + 4 ≤ Ln) (hR : Rel u v) (T : ∀ u' v', Rel u' v' → VL Y X b 827 (LSl X b i) [] u' v') : VL Y X b 728 (LSl X b i) [] u v := by
  obtain ⟨r, u', v', e1, e2, hR'⟩ := sim_type (N := 1000) (by omega) (xs (i + 1)) u v hR
  refine n_aload_n K 1 rfl rfl dL_law_728 ?_
  refine n_arg K 1 rfl (by omega) rfl rfl dL_law_729 dL_law_730 dL_law_731 dL_law_732 dL_law_733 ?_
  refine n_callC K (As := [.int (xs (i + 1))]) (rest := []) (c_X6_type rfl e1) cv_X6_type ml_L_89 ⟨rfl, rfl, Nat.le_of_ble_eq_true rfl, Nat.le_of_ble_eq_true rfl⟩ rfl rfl (Nat.le_of_ble_eq_true rfl) dL_law_734 ?_
  refine n_aload_n K 2 rfl rfl dL_law_737 ?_
  refine n_arg K 1 rfl (by omega) rfl rfl dL_law_738 dL_law_739 dL_law_740 dL_law_741 dL_law_742 ?_
  refine n_callM K (As := [.int (xs (i + 1))]) (rest := [.int r]) (c_X7_type rfl e2) cv_X7_type ml_L_92 ⟨rfl, rfl, Nat.le_of_ble_eq_true rfl, Nat.le_of_ble_eq_true rfl⟩ rfl rfl (Nat.le_of_ble_eq_true rfl) dL_law_743 ?_
  exact n_icmp_eq K 827 (by decide) dL_law_746 (fun _ => T u' v' hR') (fun h => absurd rfl h)
theorem lc_clear (K : LOk Y X b Ln xs) {i : Nat} (hi : i + 4 ≤ Ln) (hR : Rel u v) (T : ∀ u' v', Rel u' v' → VL Y X b 827 (LSl X b i) [] u' v') : VL Y X b 751 (LSl X b i) [] u v := by
  obtain ⟨r, u', v', e1, e2, hR'⟩ := sim_clear (N := 1000) (by omega) u v hR
  refine n_aload_n K 1 rfl rfl dL_law_751 ?_
  refine n_callC K (As := []) (rest := []) (c_X6_clear rfl e1) cv_X6_clear ml_L_93 ⟨rfl, rfl, Nat.le_of_ble_eq_true rfl, Nat.le_of_ble_eq_true rfl⟩ rfl rfl (Nat.le_of_ble_eq_true rfl) dL_law_752 ?_
  refine n_aload_n K 2 rfl rfl dL_law_755 ?_
  refine n_callM K (As := []) (rest := [.int r]) (c_X7_clear rfl e2) cv_X7_clear ml_L_96 ⟨rfl, rfl, Nat.le_of_ble_eq_true rfl, Nat.le_of_ble_eq_true rfl⟩ rfl rfl (Nat.le_of_ble_eq_true rfl) dL_law_756 ?_
  exact n_icmp_eq K 827 (by decide) dL_law_759 (fun _ => T u' v' hR') (fun h => absurd rfl h)
theorem lc_does (K : LOk Y X b Ln xs) {i : Nat} (hi : i + 4 ≤ Ln) (hR : Rel u v) (T : ∀ u' v', Rel u' v' → VL Y X b 827 (LSl X b i) [] u' v') : VL Y X b 764 (LSl X b i) [] u v := by
  obtain ⟨r, u', v', e1, e2, hR'⟩ := sim_does (N := 1000) (by omega) u v hR
  refine n_aload_n K 1 rfl rfl dL_law_764 ?_
  refine n_callC K (As := []) (rest := []) (c_X6_does rfl e1) cv_X6_does ml_L_97 ⟨rfl, rfl, Nat.le_of_ble_eq_true rfl, Nat.le_of_ble_eq_true rfl⟩ rfl rfl (Nat.le_of_ble_eq_true rfl) dL_law_765 ?_
  refine n_aload_n K 2 rfl rfl dL_law_768 ?_
  refine n_callM K (As := []) (rest := [.int r]) (c_X7_does rfl e2) cv_X7_does ml_L_100 ⟨rfl, rfl, Nat.le_of_ble_eq_true rfl, Nat.le_of_ble_eq_true rfl⟩ rfl rfl (Nat.le_of_ble_eq_true rfl) dL_law_769 ?_
  exact n_icmp_eq K 827 (by decide) dL_law_772 (fun _ => T u' v' hR') (fun h => absurd rfl h)
theorem lc_back (K : LOk Y X b Ln xs) {i : Nat} (hi : i + 4 ≤ Ln) (hR : Rel u v) (T : ∀ u' v', Rel u' v' → VL Y X b 827 (LSl X b i) [] u' v') : VL Y X b 777 (LSl X b i) [] u v := by
  obtain ⟨r, u', v', e1, e2, hR'⟩ := sim_back (N := 1000) (by omega) u v hR
  refine n_aload_n K 1 rfl rfl dL_law_777 ?_
  refine n_callC K (As := []) (rest := []) (c_X6_back rfl e1) cv_X6_back ml_L_101 ⟨rfl, rfl, Nat.le_of_ble_eq_true rfl, Nat.le_of_ble_eq_true rfl⟩ rfl rfl (Nat.le_of_ble_eq_true rfl) dL_law_778 ?_
  refine n_aload_n K 2 rfl rfl dL_law_781 ?_
  refine n_callM K (As := []) (rest := [.int r]) (c_X7_back rfl e2) cv_X7_back ml_L_104 ⟨rfl, rfl, Nat.le_of_ble_eq_true rfl, Nat.le_of_ble_eq_true rfl⟩ rfl rfl (Nat.le_of_ble_eq_true rfl) dL_law_782 ?_
  exact n_icmp_eq K 827 (by decide) dL_law_785 (fun _ => T u' v' hR') (fun h => absurd rfl h)
theorem lc_told (K : LOk Y X b Ln xs) {i : Nat} (hi : i + 4 ≤ Ln) (hR : Rel u v) (T : ∀ u' v', Rel u' v' → VL Y X b 827 (LSl X b i) [] u' v') : VL Y X b 790 (LSl X b i) [] u v := by
  obtain ⟨r, u', v', e1, e2, hR'⟩ := sim_told (N := 1000) (by omega) (xs (i + 1)) u v hR
  refine n_aload_n K 1 rfl rfl dL_law_790 ?_
  refine n_arg K 1 rfl (by omega) rfl rfl dL_law_791 dL_law_792 dL_law_793 dL_law_794 dL_law_795 ?_
  refine n_callC K (As := [.int (xs (i + 1))]) (rest := []) (c_X6_told rfl e1) cv_X6_told ml_L_105 ⟨rfl, rfl, Nat.le_of_ble_eq_true rfl, Nat.le_of_ble_eq_true rfl⟩ rfl rfl (Nat.le_of_ble_eq_true rfl) dL_law_796 ?_
  refine n_aload_n K 2 rfl rfl dL_law_799 ?_
  refine n_arg K 1 rfl (by omega) rfl rfl dL_law_800 dL_law_801 dL_law_802 dL_law_803 dL_law_804 ?_
  refine n_callM K (As := [.int (xs (i + 1))]) (rest := [.int r]) (c_X7_told rfl e2) cv_X7_told ml_L_108 ⟨rfl, rfl, Nat.le_of_ble_eq_true rfl, Nat.le_of_ble_eq_true rfl⟩ rfl rfl (Nat.le_of_ble_eq_true rfl) dL_law_805 ?_
  exact n_icmp_eq K 827 (by decide) dL_law_808 (fun _ => T u' v' hR') (fun h => absurd rfl h)
theorem lc_digest (K : LOk Y X b Ln xs) {i : Nat} (hi : i + 4 ≤ Ln) (hR : Rel u v) (T : ∀ u' v', Rel u' v' → VL Y X b 827 (LSl X b i) [] u' v') : VL Y X b 813 (LSl X b i) [] u v := by
  obtain ⟨r, u', v', e1, e2, hR'⟩ := sim_digest (N := 1000) (by omega) u v hR
  refine n_aload_n K 1 rfl rfl dL_law_813 ?_
  refine n_callC K (As := []) (rest := []) (c_X6_digest rfl e1) cv_X6_digest ml_L_109 ⟨rfl, rfl, Nat.le_of_ble_eq_true rfl, Nat.le_of_ble_eq_true rfl⟩ rfl rfl (Nat.le_of_ble_eq_true rfl) dL_law_814 ?_
  refine n_aload_n K 2 rfl rfl dL_law_817 ?_
  refine n_callM K (As := []) (rest := [.long r]) (c_X7_digest rfl e2) cv_X7_digest ml_L_113 ⟨rfl, rfl, Nat.le_of_ble_eq_true rfl, Nat.le_of_ble_eq_true rfl⟩ rfl rfl (Nat.le_of_ble_eq_true rfl) dL_law_818 ?_
  refine n_lcmp K dL_law_821 ?_
  exact n_if_eq K 827 (by decide) dL_law_822 (fun _ => T u' v' hR') (fun h => absurd (by simp [lg_cmp]) h)
theorem law_loop (K : LOk Y X b Ln xs) : ∀ (n i : Nat) (u v : ASt), i ≤ Ln → Ln < i + 4 * n → Rel u v → VL Y X b 18 (LSl X b i) [] u v := by
  have hLn : Ln ≤ 2048 := by
    obtain ⟨p, l, e, s, m, below, meth, c⟩ := Y
    exact K.2.2.2.2
  intro n
  induction n with
  | zero => intro i u v h1 h2; exact absurd h2 (by omega)
  | succ n ih =>
    intro i u v h1 h2 hR
    refine n_iload_n K 3 rfl rfl dL_law_18 ?_
    refine n_aload_n K 0 rfl rfl dL_law_19 ?_
    refine n_slen K dL_law_20 ?_
    refine n_iconst K (x := nI 4) rfl dL_law_21 ?_
    refine n_isub K dL_law_22 ?_
    refine n_icmp_gt K 833 (by decide) dL_law_23 (fun _ => n_end K) (fun h => ?_)
    have hi : i + 4 ≤ Ln := by
      rw [Int32.lt_iff_toInt_lt, pk_sub_toInt (by omega) (by omega), nI_toInt (by omega)] at h
      omega
    refine n_aload_n K 0 rfl rfl dL_law_26 ?_
    refine n_iload_n K 3 rfl rfl dL_law_27 ?_
    refine n_sld K (by omega) dL_law_28 ?_
    refine n_bipush K (x := 31) rfl dL_law_29 ?_
    refine n_iand K dL_law_31 ?_
    obtain ⟨t, ht, et⟩ := and31 (xs i)
    rw [et]
    have T : ∀ u' v', Rel u' v' → VL Y X b 827 (LSl X b i) [] u' v' := fun u' v' hR' => by
      refine n_iinc K 3 rfl (y := nI (i + 4)) (by exact nI_add i 4) (by decide) rfl dL_law_827 ?_
      refine n_goto K 18 (by decide) dL_law_830 ?_
      exact n_sub [1, 2, 3, 0] rfl (ih (i + 4) u' v' (by omega) (by omega) hR')
    rcases (show t = 0 ∨ t = 1 ∨ t = 2 ∨ t = 3 ∨ t = 4 ∨ t = 5 ∨ t = 6 ∨ t = 7 ∨ t = 8 ∨ t = 9 ∨ t = 10 ∨ t = 11 ∨ t = 12 ∨ t = 13 ∨ t = 14 ∨ t = 15 ∨ t = 16 ∨ t = 17 ∨ t = 18 ∨ t = 19 ∨ t = 20 ∨ t = 21 ∨ t = 22 ∨ t = 23 ∨ 24 ≤ t by omega) with rfl | rfl | rfl | rfl | rfl | rfl | rfl | rfl | rfl | rfl | rfl | rfl | rfl | rfl | rfl | rfl | rfl | rfl | rfl | rfl | rfl | rfl | rfl | rfl | h24
    · exact n_tabIn K 144 (by decide) (by decide) rfl (by decide) dL_law_32 (lc_chip K hi hR T)
    · exact n_tabIn K 177 (by decide) (by decide) rfl (by decide) dL_law_32 (lc_cell K hi hR T)
    · exact n_tabIn K 220 (by decide) (by decide) rfl (by decide) dL_law_32 (lc_opens K hi hR T)
    · exact n_tabIn K 253 (by decide) (by decide) rfl (by decide) dL_law_32 (lc_sticks K hi hR T)
    · exact n_tabIn K 286 (by decide) (by decide) rfl (by decide) dL_law_32 (lc_shorts K hi hR T)
    · exact n_tabIn K 329 (by decide) (by decide) rfl (by decide) dL_law_32 (lc_heals K hi hR T)
    · exact n_tabIn K 342 (by decide) (by decide) rfl (by decide) dL_law_32 (lc_clock K hi hR T)
    · exact n_tabIn K 375 (by decide) (by decide) rfl (by decide) dL_law_32 (lc_clocks K hi hR T)
    · exact n_tabIn K 418 (by decide) (by decide) rfl (by decide) dL_law_32 (lc_port K hi hR T)
    · exact n_tabIn K 441 (by decide) (by decide) rfl (by decide) dL_law_32 (lc_of K hi hR T)
    · exact n_tabIn K 474 (by decide) (by decide) rfl (by decide) dL_law_32 (lc_about K hi hR T)
    · exact n_tabIn K 517 (by decide) (by decide) rfl (by decide) dL_law_32 (lc_count K hi hR T)
    · exact n_tabIn K 540 (by decide) (by decide) rfl (by decide) dL_law_32 (lc_fault K hi hR T)
    · exact n_tabIn K 563 (by decide) (by decide) rfl (by decide) dL_law_32 (lc_patterns K hi hR T)
    · exact n_tabIn K 586 (by decide) (by decide) rfl (by decide) dL_law_32 (lc_pattern K hi hR T)
    · exact n_tabIn K 629 (by decide) (by decide) rfl (by decide) dL_law_32 (lc_answer K hi hR T)
    · exact n_tabIn K 672 (by decide) (by decide) rfl (by decide) dL_law_32 (lc_seen K hi hR T)
    · exact n_tabIn K 695 (by decide) (by decide) rfl (by decide) dL_law_32 (lc_suspects K hi hR T)
    · exact n_tabIn K 728 (by decide) (by decide) rfl (by decide) dL_law_32 (lc_type K hi hR T)
    · exact n_tabIn K 751 (by decide) (by decide) rfl (by decide) dL_law_32 (lc_clear K hi hR T)
    · exact n_tabIn K 764 (by decide) (by decide) rfl (by decide) dL_law_32 (lc_does K hi hR T)
    · exact n_tabIn K 777 (by decide) (by decide) rfl (by decide) dL_law_32 (lc_back K hi hR T)
    · exact n_tabIn K 790 (by decide) (by decide) rfl (by decide) dL_law_32 (lc_told K hi hR T)
    · exact n_tabIn K 813 (by decide) (by decide) rfl (by decide) dL_law_32 (lc_digest K hi hR T)
    · exact n_tabOut K 827 (Or.inr (by rw [nI_toInt (by omega)]; omega)) (by decide) dL_law_32 (T u v hR)
end LCASES
