theorem kq_cmp (x : Int64) : lg_cmp x x = 0 := by
  have h1 : ¬ lg_cmp x x < 0 := fun c => by rw [lg_cmp_lt] at c; exact absurd c Int64.lt_irrefl
  have h2 : ¬ 0 < lg_cmp x x := fun c => by rw [lg_cmp_gt] at c; exact absurd c Int64.lt_irrefl
  exact Int32.le_antisymm (Int32.not_lt.mp h2) (Int32.not_lt.mp h1)
section LawCases
variable {X : XT} {ad : Nat → Nat} {b L i v : Nat} {xs : Nat → Int32} {Qf : State → Prop} {MX MM : Mem} {T : TW} {P : PW}
theorem v_k0 (h : Vc X ad b L xs) (hL : L ≤ 3072) (hX : InvX MX T P v) (hM : InvM MM T P) (hv : v < 900000) (hi : i + 6 ≤ L) (kk : ∀ MX1 MM1 T1 P1, InvX MX1 T1 P1 (v + 10) → InvM MM1 T1 P1 → V X ad Qf 1197 (lvL X ad b i) [] MX1 MM1) : V X ad Qf 188 (lvL X ad b i) [] MX MM := by
  obtain ⟨res, T1, P1, cx, cm⟩ := tt_people (E := X.1) (F := kF X ad) hX hM (by omega) (xs (i + 1))
  refine v_aload_n h dL_law_188 rfl 1 rfl ?_
  refine v_arg h hL 1 (by decide) dL_law_189 dL_law_190 dL_law_191 dL_law_192 dL_law_193 (by omega) ?_
  refine v_callX (n := 1) (As := [.int (xs (i + 1))]) (rest := []) h rfl wcX9_people wnX9 (z_w (List.mem_append_right _ (List.mem_of_getElem? (i := 258) (by decide +kernel))) rfl) wiX9_people wlX9_people ⟨by decide, by decide, by decide +kernel⟩ (by decide) (by decide) rfl (Nat.le_of_ble_eq_true rfl) dL_law_194 cx (fun rv M1 hq => ?_)
  obtain ⟨r, rfl, hr, hX1⟩ := hq
  refine v_aload_n h dL_law_197 rfl 2 rfl ?_
  refine v_arg h hL 1 (by decide) dL_law_198 dL_law_199 dL_law_200 dL_law_201 dL_law_202 (by omega) ?_
  refine v_callM (n := 1) (As := [.int (xs (i + 1))]) (rest := [.int r]) h rfl wcX10_people wnX10 (z_w (List.mem_append_right _ (List.mem_of_getElem? (i := 821) (by decide +kernel))) rfl) wiX10_people wlX10_people ⟨by decide, by decide, by decide +kernel⟩ (by decide) (by decide) rfl (Nat.le_of_ble_eq_true rfl) dL_law_203 cm (fun rv M2 hq => ?_)
  obtain ⟨r2, rfl, hr2, hM1⟩ := hq
  exact v_icmp_eq h 1197 dL_law_206 (by decide) (fun _ => kk _ _ _ _ hX1 hM1) (fun c => absurd (by rw [hr, hr2]) c)
theorem v_k1 (h : Vc X ad b L xs) (hL : L ≤ 3072) (hX : InvX MX T P v) (hM : InvM MM T P) (hv : v < 900000) (hi : i + 6 ≤ L) (kk : ∀ MX1 MM1 T1 P1, InvX MX1 T1 P1 (v + 10) → InvM MM1 T1 P1 → V X ad Qf 1197 (lvL X ad b i) [] MX1 MM1) : V X ad Qf 211 (lvL X ad b i) [] MX MM := by
  obtain ⟨res, T1, P1, cx, cm⟩ := tt_tie (E := X.1) (F := kF X ad) hX hM (by omega) (xs (i + 1)) (xs (i + 2)) (xs (i + 3))
  refine v_aload_n h dL_law_211 rfl 1 rfl ?_
  refine v_arg h hL 1 (by decide) dL_law_212 dL_law_213 dL_law_214 dL_law_215 dL_law_216 (by omega) ?_
  refine v_arg h hL 2 (by decide) dL_law_217 dL_law_218 dL_law_219 dL_law_220 dL_law_221 (by omega) ?_
  refine v_arg h hL 3 (by decide) dL_law_222 dL_law_223 dL_law_224 dL_law_225 dL_law_226 (by omega) ?_
  refine v_callX (n := 3) (As := [.int (xs (i + 1)), .int (xs (i + 2)), .int (xs (i + 3))]) (rest := []) h rfl wcX9_tie wnX9 (z_w (List.mem_append_right _ (List.mem_of_getElem? (i := 281) (by decide +kernel))) rfl) wiX9_tie wlX9_tie ⟨by decide, by decide, by decide +kernel⟩ (by decide) (by decide) rfl (Nat.le_of_ble_eq_true rfl) dL_law_227 cx (fun rv M1 hq => ?_)
  obtain ⟨r, rfl, hr, hX1⟩ := hq
  refine v_aload_n h dL_law_230 rfl 2 rfl ?_
  refine v_arg h hL 1 (by decide) dL_law_231 dL_law_232 dL_law_233 dL_law_234 dL_law_235 (by omega) ?_
  refine v_arg h hL 2 (by decide) dL_law_236 dL_law_237 dL_law_238 dL_law_239 dL_law_240 (by omega) ?_
  refine v_arg h hL 3 (by decide) dL_law_241 dL_law_242 dL_law_243 dL_law_244 dL_law_245 (by omega) ?_
  refine v_callM (n := 3) (As := [.int (xs (i + 1)), .int (xs (i + 2)), .int (xs (i + 3))]) (rest := [.int r]) h rfl wcX10_tie wnX10 (z_w (List.mem_append_right _ (List.mem_of_getElem? (i := 829) (by decide +kernel))) rfl) wiX10_tie wlX10_tie ⟨by decide, by decide, by decide +kernel⟩ (by decide) (by decide) rfl (Nat.le_of_ble_eq_true rfl) dL_law_246 cm (fun rv M2 hq => ?_)
  obtain ⟨r2, rfl, hr2, hM1⟩ := hq
  exact v_icmp_eq h 1197 dL_law_249 (by decide) (fun _ => kk _ _ _ _ hX1 hM1) (fun c => absurd (by rw [hr, hr2]) c)
theorem v_k2 (h : Vc X ad b L xs) (hL : L ≤ 3072) (hX : InvX MX T P v) (hM : InvM MM T P) (hv : v < 900000) (hi : i + 6 ≤ L) (kk : ∀ MX1 MM1 T1 P1, InvX MX1 T1 P1 (v + 10) → InvM MM1 T1 P1 → V X ad Qf 1197 (lvL X ad b i) [] MX1 MM1) : V X ad Qf 254 (lvL X ad b i) [] MX MM := by
  obtain ⟨res, T1, P1, cx, cm⟩ := tt_set (E := X.1) (F := kF X ad) hX hM (by omega) (xs (i + 1)) (xs (i + 2)) (xs (i + 3))
  refine v_aload_n h dL_law_254 rfl 1 rfl ?_
  refine v_arg h hL 1 (by decide) dL_law_255 dL_law_256 dL_law_257 dL_law_258 dL_law_259 (by omega) ?_
  refine v_arg h hL 2 (by decide) dL_law_260 dL_law_261 dL_law_262 dL_law_263 dL_law_264 (by omega) ?_
  refine v_arg h hL 3 (by decide) dL_law_265 dL_law_266 dL_law_267 dL_law_268 dL_law_269 (by omega) ?_
  refine v_callX (n := 3) (As := [.int (xs (i + 1)), .int (xs (i + 2)), .int (xs (i + 3))]) (rest := []) h rfl wcX9_set wnX9 (z_w (List.mem_append_right _ (List.mem_of_getElem? (i := 297) (by decide +kernel))) rfl) wiX9_set wlX9_set ⟨by decide, by decide, by decide +kernel⟩ (by decide) (by decide) rfl (Nat.le_of_ble_eq_true rfl) dL_law_270 cx (fun rv M1 hq => ?_)
  obtain ⟨r, rfl, hr, hX1⟩ := hq
  refine v_aload_n h dL_law_273 rfl 2 rfl ?_
  refine v_arg h hL 1 (by decide) dL_law_274 dL_law_275 dL_law_276 dL_law_277 dL_law_278 (by omega) ?_
  refine v_arg h hL 2 (by decide) dL_law_279 dL_law_280 dL_law_281 dL_law_282 dL_law_283 (by omega) ?_
  refine v_arg h hL 3 (by decide) dL_law_284 dL_law_285 dL_law_286 dL_law_287 dL_law_288 (by omega) ?_
  refine v_callM (n := 3) (As := [.int (xs (i + 1)), .int (xs (i + 2)), .int (xs (i + 3))]) (rest := [.int r]) h rfl wcX10_set wnX10 (z_w (List.mem_append_right _ (List.mem_of_getElem? (i := 838) (by decide +kernel))) rfl) wiX10_set wlX10_set ⟨by decide, by decide, by decide +kernel⟩ (by decide) (by decide) rfl (Nat.le_of_ble_eq_true rfl) dL_law_289 cm (fun rv M2 hq => ?_)
  obtain ⟨r2, rfl, hr2, hM1⟩ := hq
  exact v_icmp_eq h 1197 dL_law_292 (by decide) (fun _ => kk _ _ _ _ hX1 hM1) (fun c => absurd (by rw [hr, hr2]) c)
theorem v_k3 (h : Vc X ad b L xs) (hL : L ≤ 3072) (hX : InvX MX T P v) (hM : InvM MM T P) (hv : v < 900000) (hi : i + 6 ≤ L) (kk : ∀ MX1 MM1 T1 P1, InvX MX1 T1 P1 (v + 10) → InvM MM1 T1 P1 → V X ad Qf 1197 (lvL X ad b i) [] MX1 MM1) : V X ad Qf 297 (lvL X ad b i) [] MX MM := by
  obtain ⟨res, T1, P1, cx, cm⟩ := tt_about (E := X.1) (F := kF X ad) hX hM (xs (i + 1)) (xs (i + 2))
  refine v_aload_n h dL_law_297 rfl 1 rfl ?_
  refine v_arg h hL 1 (by decide) dL_law_298 dL_law_299 dL_law_300 dL_law_301 dL_law_302 (by omega) ?_
  refine v_arg h hL 2 (by decide) dL_law_303 dL_law_304 dL_law_305 dL_law_306 dL_law_307 (by omega) ?_
  refine v_callX (n := 2) (As := [.int (xs (i + 1)), .int (xs (i + 2))]) (rest := []) h rfl wcX9_about wnX9 (z_w (List.mem_append_right _ (List.mem_of_getElem? (i := 317) (by decide +kernel))) rfl) wiX9_about wlX9_about ⟨by decide, by decide, by decide +kernel⟩ (by decide) (by decide) rfl (Nat.le_of_ble_eq_true rfl) dL_law_308 cx (fun rv M1 hq => ?_)
  obtain ⟨r, rfl, hr, hX1⟩ := hq
  refine v_aload_n h dL_law_311 rfl 2 rfl ?_
  refine v_arg h hL 1 (by decide) dL_law_312 dL_law_313 dL_law_314 dL_law_315 dL_law_316 (by omega) ?_
  refine v_arg h hL 2 (by decide) dL_law_317 dL_law_318 dL_law_319 dL_law_320 dL_law_321 (by omega) ?_
  refine v_callM (n := 2) (As := [.int (xs (i + 1)), .int (xs (i + 2))]) (rest := [.int r]) h rfl wcX10_about wnX10 (z_w (List.mem_append_right _ (List.mem_of_getElem? (i := 844) (by decide +kernel))) rfl) wiX10_about wlX10_about ⟨by decide, by decide, by decide +kernel⟩ (by decide) (by decide) rfl (Nat.le_of_ble_eq_true rfl) dL_law_322 cm (fun rv M2 hq => ?_)
  obtain ⟨r2, rfl, hr2, hM1⟩ := hq
  exact v_icmp_eq h 1197 dL_law_325 (by decide) (fun _ => kk _ _ _ _ hX1 hM1) (fun c => absurd (by rw [hr, hr2]) c)
theorem v_k4 (h : Vc X ad b L xs) (hL : L ≤ 3072) (hX : InvX MX T P v) (hM : InvM MM T P) (hv : v < 900000) (hi : i + 6 ≤ L) (kk : ∀ MX1 MM1 T1 P1, InvX MX1 T1 P1 (v + 10) → InvM MM1 T1 P1 → V X ad Qf 1197 (lvL X ad b i) [] MX1 MM1) : V X ad Qf 330 (lvL X ad b i) [] MX MM := by
  obtain ⟨res, T1, P1, cx, cm⟩ := tt_sees (E := X.1) (F := kF X ad) hX hM (xs (i + 1)) (xs (i + 2))
  refine v_aload_n h dL_law_330 rfl 1 rfl ?_
  refine v_arg h hL 1 (by decide) dL_law_331 dL_law_332 dL_law_333 dL_law_334 dL_law_335 (by omega) ?_
  refine v_arg h hL 2 (by decide) dL_law_336 dL_law_337 dL_law_338 dL_law_339 dL_law_340 (by omega) ?_
  refine v_callX (n := 2) (As := [.int (xs (i + 1)), .int (xs (i + 2))]) (rest := []) h rfl wcX9_sees wnX9 (z_w (List.mem_append_right _ (List.mem_of_getElem? (i := 329) (by decide +kernel))) rfl) wiX9_sees wlX9_sees ⟨by decide, by decide, by decide +kernel⟩ (by decide) (by decide) rfl (Nat.le_of_ble_eq_true rfl) dL_law_341 cx (fun rv M1 hq => ?_)
  obtain ⟨r, rfl, hr, hX1⟩ := hq
  refine v_aload_n h dL_law_344 rfl 2 rfl ?_
  refine v_arg h hL 1 (by decide) dL_law_345 dL_law_346 dL_law_347 dL_law_348 dL_law_349 (by omega) ?_
  refine v_arg h hL 2 (by decide) dL_law_350 dL_law_351 dL_law_352 dL_law_353 dL_law_354 (by omega) ?_
  refine v_callM (n := 2) (As := [.int (xs (i + 1)), .int (xs (i + 2))]) (rest := [.int r]) h rfl wcX10_sees wnX10 (z_w (List.mem_append_right _ (List.mem_of_getElem? (i := 848) (by decide +kernel))) rfl) wiX10_sees wlX10_sees ⟨by decide, by decide, by decide +kernel⟩ (by decide) (by decide) rfl (Nat.le_of_ble_eq_true rfl) dL_law_355 cm (fun rv M2 hq => ?_)
  obtain ⟨r2, rfl, hr2, hM1⟩ := hq
  exact v_icmp_eq h 1197 dL_law_358 (by decide) (fun _ => kk _ _ _ _ hX1 hM1) (fun c => absurd (by rw [hr, hr2]) c)
theorem v_k5 (h : Vc X ad b L xs) (hL : L ≤ 3072) (hX : InvX MX T P v) (hM : InvM MM T P) (hv : v < 900000) (hi : i + 6 ≤ L) (kk : ∀ MX1 MM1 T1 P1, InvX MX1 T1 P1 (v + 10) → InvM MM1 T1 P1 → V X ad Qf 1197 (lvL X ad b i) [] MX1 MM1) : V X ad Qf 363 (lvL X ad b i) [] MX MM := by
  obtain ⟨res, T1, P1, cx, cm⟩ := tt_sum (E := X.1) (F := kF X ad) hX hM (xs (i + 1)) (xs (i + 2))
  refine v_aload_n h dL_law_363 rfl 1 rfl ?_
  refine v_arg h hL 1 (by decide) dL_law_364 dL_law_365 dL_law_366 dL_law_367 dL_law_368 (by omega) ?_
  refine v_arg h hL 2 (by decide) dL_law_369 dL_law_370 dL_law_371 dL_law_372 dL_law_373 (by omega) ?_
  refine v_callX (n := 2) (As := [.int (xs (i + 1)), .int (xs (i + 2))]) (rest := []) h rfl wcX9_sum wnX9 (z_w (List.mem_append_right _ (List.mem_of_getElem? (i := 333) (by decide +kernel))) rfl) wiX9_sum wlX9_sum ⟨by decide, by decide, by decide +kernel⟩ (by decide) (by decide) rfl (Nat.le_of_ble_eq_true rfl) dL_law_374 cx (fun rv M1 hq => ?_)
  obtain ⟨r, rfl, hr, hX1⟩ := hq
  refine v_aload_n h dL_law_377 rfl 2 rfl ?_
  refine v_arg h hL 1 (by decide) dL_law_378 dL_law_379 dL_law_380 dL_law_381 dL_law_382 (by omega) ?_
  refine v_arg h hL 2 (by decide) dL_law_383 dL_law_384 dL_law_385 dL_law_386 dL_law_387 (by omega) ?_
  refine v_callM (n := 2) (As := [.int (xs (i + 1)), .int (xs (i + 2))]) (rest := [.int r]) h rfl wcX10_sum wnX10 (z_w (List.mem_append_right _ (List.mem_of_getElem? (i := 852) (by decide +kernel))) rfl) wiX10_sum wlX10_sum ⟨by decide, by decide, by decide +kernel⟩ (by decide) (by decide) rfl (Nat.le_of_ble_eq_true rfl) dL_law_388 cm (fun rv M2 hq => ?_)
  obtain ⟨r2, rfl, hr2, hM1⟩ := hq
  exact v_icmp_eq h 1197 dL_law_391 (by decide) (fun _ => kk _ _ _ _ hX1 hM1) (fun c => absurd (by rw [hr, hr2]) c)
theorem v_k6 (h : Vc X ad b L xs) (hL : L ≤ 3072) (hX : InvX MX T P v) (hM : InvM MM T P) (hv : v < 900000) (hi : i + 6 ≤ L) (kk : ∀ MX1 MM1 T1 P1, InvX MX1 T1 P1 (v + 10) → InvM MM1 T1 P1 → V X ad Qf 1197 (lvL X ad b i) [] MX1 MM1) : V X ad Qf 396 (lvL X ad b i) [] MX MM := by
  obtain ⟨res, T1, P1, cx, cm⟩ := tt_calm (E := X.1) (F := kF X ad) hX hM (xs (i + 1))
  refine v_aload_n h dL_law_396 rfl 1 rfl ?_
  refine v_arg h hL 1 (by decide) dL_law_397 dL_law_398 dL_law_399 dL_law_400 dL_law_401 (by omega) ?_
  refine v_callX (n := 1) (As := [.int (xs (i + 1))]) (rest := []) h rfl wcX9_calm wnX9 (z_w (List.mem_append_right _ (List.mem_of_getElem? (i := 352) (by decide +kernel))) rfl) wiX9_calm wlX9_calm ⟨by decide, by decide, by decide +kernel⟩ (by decide) (by decide) rfl (Nat.le_of_ble_eq_true rfl) dL_law_402 cx (fun rv M1 hq => ?_)
  obtain ⟨r, rfl, hr, hX1⟩ := hq
  refine v_aload_n h dL_law_405 rfl 2 rfl ?_
  refine v_arg h hL 1 (by decide) dL_law_406 dL_law_407 dL_law_408 dL_law_409 dL_law_410 (by omega) ?_
  refine v_callM (n := 1) (As := [.int (xs (i + 1))]) (rest := [.int r]) h rfl wcX10_calm wnX10 (z_w (List.mem_append_right _ (List.mem_of_getElem? (i := 864) (by decide +kernel))) rfl) wiX10_calm wlX10_calm ⟨by decide, by decide, by decide +kernel⟩ (by decide) (by decide) rfl (Nat.le_of_ble_eq_true rfl) dL_law_411 cm (fun rv M2 hq => ?_)
  obtain ⟨r2, rfl, hr2, hM1⟩ := hq
  exact v_icmp_eq h 1197 dL_law_414 (by decide) (fun _ => kk _ _ _ _ hX1 hM1) (fun c => absurd (by rw [hr, hr2]) c)
theorem v_k7 (h : Vc X ad b L xs) (hL : L ≤ 3072) (hX : InvX MX T P v) (hM : InvM MM T P) (hv : v < 900000) (hi : i + 6 ≤ L) (kk : ∀ MX1 MM1 T1 P1, InvX MX1 T1 P1 (v + 10) → InvM MM1 T1 P1 → V X ad Qf 1197 (lvL X ad b i) [] MX1 MM1) : V X ad Qf 419 (lvL X ad b i) [] MX MM := by
  obtain ⟨res, T1, P1, cx, cm⟩ := tt_after (E := X.1) (F := kF X ad) hX hM (xs (i + 1)) (xs (i + 2)) (xs (i + 3))
  refine v_aload_n h dL_law_419 rfl 1 rfl ?_
  refine v_arg h hL 1 (by decide) dL_law_420 dL_law_421 dL_law_422 dL_law_423 dL_law_424 (by omega) ?_
  refine v_arg h hL 2 (by decide) dL_law_425 dL_law_426 dL_law_427 dL_law_428 dL_law_429 (by omega) ?_
  refine v_arg h hL 3 (by decide) dL_law_430 dL_law_431 dL_law_432 dL_law_433 dL_law_434 (by omega) ?_
  refine v_callX (n := 3) (As := [.int (xs (i + 1)), .int (xs (i + 2)), .int (xs (i + 3))]) (rest := []) h rfl wcX9_after wnX9 (z_w (List.mem_append_right _ (List.mem_of_getElem? (i := 369) (by decide +kernel))) rfl) wiX9_after wlX9_after ⟨by decide, by decide, by decide +kernel⟩ (by decide) (by decide) rfl (Nat.le_of_ble_eq_true rfl) dL_law_435 cx (fun rv M1 hq => ?_)
  obtain ⟨r, rfl, hr, hX1⟩ := hq
  refine v_aload_n h dL_law_438 rfl 2 rfl ?_
  refine v_arg h hL 1 (by decide) dL_law_439 dL_law_440 dL_law_441 dL_law_442 dL_law_443 (by omega) ?_
  refine v_arg h hL 2 (by decide) dL_law_444 dL_law_445 dL_law_446 dL_law_447 dL_law_448 (by omega) ?_
  refine v_arg h hL 3 (by decide) dL_law_449 dL_law_450 dL_law_451 dL_law_452 dL_law_453 (by omega) ?_
  refine v_callM (n := 3) (As := [.int (xs (i + 1)), .int (xs (i + 2)), .int (xs (i + 3))]) (rest := [.int r]) h rfl wcX10_after wnX10 (z_w (List.mem_append_right _ (List.mem_of_getElem? (i := 876) (by decide +kernel))) rfl) wiX10_after wlX10_after ⟨by decide, by decide, by decide +kernel⟩ (by decide) (by decide) rfl (Nat.le_of_ble_eq_true rfl) dL_law_454 cm (fun rv M2 hq => ?_)
  obtain ⟨r2, rfl, hr2, hM1⟩ := hq
  exact v_icmp_eq h 1197 dL_law_457 (by decide) (fun _ => kk _ _ _ _ hX1 hM1) (fun c => absurd (by rw [hr, hr2]) c)
theorem v_k8 (h : Vc X ad b L xs) (hL : L ≤ 3072) (hX : InvX MX T P v) (hM : InvM MM T P) (hv : v < 900000) (hi : i + 6 ≤ L) (kk : ∀ MX1 MM1 T1 P1, InvX MX1 T1 P1 (v + 10) → InvM MM1 T1 P1 → V X ad Qf 1197 (lvL X ad b i) [] MX1 MM1) : V X ad Qf 462 (lvL X ad b i) [] MX MM := by
  obtain ⟨res, T1, P1, cx, cm⟩ := tt_run (E := X.1) (F := kF X ad) hX hM (xs (i + 1)) (xs (i + 2)) (xs (i + 3))
  refine v_aload_n h dL_law_462 rfl 1 rfl ?_
  refine v_arg h hL 1 (by decide) dL_law_463 dL_law_464 dL_law_465 dL_law_466 dL_law_467 (by omega) ?_
  refine v_arg h hL 2 (by decide) dL_law_468 dL_law_469 dL_law_470 dL_law_471 dL_law_472 (by omega) ?_
  refine v_arg h hL 3 (by decide) dL_law_473 dL_law_474 dL_law_475 dL_law_476 dL_law_477 (by omega) ?_
  refine v_callX (n := 3) (As := [.int (xs (i + 1)), .int (xs (i + 2)), .int (xs (i + 3))]) (rest := []) h rfl wcX9_run wnX9 (z_w (List.mem_append_right _ (List.mem_of_getElem? (i := 406) (by decide +kernel))) rfl) wiX9_run wlX9_run ⟨by decide, by decide, by decide +kernel⟩ (by decide) (by decide) rfl (Nat.le_of_ble_eq_true rfl) dL_law_478 cx (fun rv M1 hq => ?_)
  obtain ⟨r, rfl, hr, hX1⟩ := hq
  refine v_aload_n h dL_law_481 rfl 2 rfl ?_
  refine v_arg h hL 1 (by decide) dL_law_482 dL_law_483 dL_law_484 dL_law_485 dL_law_486 (by omega) ?_
  refine v_arg h hL 2 (by decide) dL_law_487 dL_law_488 dL_law_489 dL_law_490 dL_law_491 (by omega) ?_
  refine v_arg h hL 3 (by decide) dL_law_492 dL_law_493 dL_law_494 dL_law_495 dL_law_496 (by omega) ?_
  refine v_callM (n := 3) (As := [.int (xs (i + 1)), .int (xs (i + 2)), .int (xs (i + 3))]) (rest := [.int r]) h rfl wcX10_run wnX10 (z_w (List.mem_append_right _ (List.mem_of_getElem? (i := 892) (by decide +kernel))) rfl) wiX10_run wlX10_run ⟨by decide, by decide, by decide +kernel⟩ (by decide) (by decide) rfl (Nat.le_of_ble_eq_true rfl) dL_law_497 cm (fun rv M2 hq => ?_)
  obtain ⟨r2, rfl, hr2, hM1⟩ := hq
  exact v_icmp_eq h 1197 dL_law_500 (by decide) (fun _ => kk _ _ _ _ hX1 hM1) (fun c => absurd (by rw [hr, hr2]) c)
theorem v_k9 (h : Vc X ad b L xs) (hL : L ≤ 3072) (hX : InvX MX T P v) (hM : InvM MM T P) (hv : v < 900000) (hi : i + 6 ≤ L) (kk : ∀ MX1 MM1 T1 P1, InvX MX1 T1 P1 (v + 10) → InvM MM1 T1 P1 → V X ad Qf 1197 (lvL X ad b i) [] MX1 MM1) : V X ad Qf 505 (lvL X ad b i) [] MX MM := by
  obtain ⟨res, T1, P1, cx, cm⟩ := tt_rings (E := X.1) (F := kF X ad) hX hM (xs (i + 1))
  refine v_aload_n h dL_law_505 rfl 1 rfl ?_
  refine v_arg h hL 1 (by decide) dL_law_506 dL_law_507 dL_law_508 dL_law_509 dL_law_510 (by omega) ?_
  refine v_callX (n := 1) (As := [.int (xs (i + 1))]) (rest := []) h rfl wcX9_rings wnX9 (z_w (List.mem_append_right _ (List.mem_of_getElem? (i := 434) (by decide +kernel))) rfl) wiX9_rings wlX9_rings ⟨by decide, by decide, by decide +kernel⟩ (by decide) (by decide) rfl (Nat.le_of_ble_eq_true rfl) dL_law_511 cx (fun rv M1 hq => ?_)
  obtain ⟨r, rfl, hr, hX1⟩ := hq
  refine v_aload_n h dL_law_514 rfl 2 rfl ?_
  refine v_arg h hL 1 (by decide) dL_law_515 dL_law_516 dL_law_517 dL_law_518 dL_law_519 (by omega) ?_
  refine v_callM (n := 1) (As := [.int (xs (i + 1))]) (rest := [.int r]) h rfl wcX10_rings wnX10 (z_w (List.mem_append_right _ (List.mem_of_getElem? (i := 909) (by decide +kernel))) rfl) wiX10_rings wlX10_rings ⟨by decide, by decide, by decide +kernel⟩ (by decide) (by decide) rfl (Nat.le_of_ble_eq_true rfl) dL_law_520 cm (fun rv M2 hq => ?_)
  obtain ⟨r2, rfl, hr2, hM1⟩ := hq
  exact v_icmp_eq h 1197 dL_law_523 (by decide) (fun _ => kk _ _ _ _ hX1 hM1) (fun c => absurd (by rw [hr, hr2]) c)
theorem v_k10 (h : Vc X ad b L xs) (hL : L ≤ 3072) (hX : InvX MX T P v) (hM : InvM MM T P) (hv : v < 900000) (hi : i + 6 ≤ L) (kk : ∀ MX1 MM1 T1 P1, InvX MX1 T1 P1 (v + 10) → InvM MM1 T1 P1 → V X ad Qf 1197 (lvL X ad b i) [] MX1 MM1) : V X ad Qf 528 (lvL X ad b i) [] MX MM := by
  obtain ⟨res, T1, P1, cx, cm⟩ := tt_ring (E := X.1) (F := kF X ad) hX hM (xs (i + 1)) (xs (i + 2)) (xs (i + 3))
  refine v_aload_n h dL_law_528 rfl 1 rfl ?_
  refine v_arg h hL 1 (by decide) dL_law_529 dL_law_530 dL_law_531 dL_law_532 dL_law_533 (by omega) ?_
  refine v_arg h hL 2 (by decide) dL_law_534 dL_law_535 dL_law_536 dL_law_537 dL_law_538 (by omega) ?_
  refine v_arg h hL 3 (by decide) dL_law_539 dL_law_540 dL_law_541 dL_law_542 dL_law_543 (by omega) ?_
  refine v_callX (n := 3) (As := [.int (xs (i + 1)), .int (xs (i + 2)), .int (xs (i + 3))]) (rest := []) h rfl wcX9_ring wnX9 (z_w (List.mem_append_right _ (List.mem_of_getElem? (i := 442) (by decide +kernel))) rfl) wiX9_ring wlX9_ring ⟨by decide, by decide, by decide +kernel⟩ (by decide) (by decide) rfl (Nat.le_of_ble_eq_true rfl) dL_law_544 cx (fun rv M1 hq => ?_)
  obtain ⟨r, rfl, hr, hX1⟩ := hq
  refine v_aload_n h dL_law_547 rfl 2 rfl ?_
  refine v_arg h hL 1 (by decide) dL_law_548 dL_law_549 dL_law_550 dL_law_551 dL_law_552 (by omega) ?_
  refine v_arg h hL 2 (by decide) dL_law_553 dL_law_554 dL_law_555 dL_law_556 dL_law_557 (by omega) ?_
  refine v_arg h hL 3 (by decide) dL_law_558 dL_law_559 dL_law_560 dL_law_561 dL_law_562 (by omega) ?_
  refine v_callM (n := 3) (As := [.int (xs (i + 1)), .int (xs (i + 2)), .int (xs (i + 3))]) (rest := [.int r]) h rfl wcX10_ring wnX10 (z_w (List.mem_append_right _ (List.mem_of_getElem? (i := 921) (by decide +kernel))) rfl) wiX10_ring wlX10_ring ⟨by decide, by decide, by decide +kernel⟩ (by decide) (by decide) rfl (Nat.le_of_ble_eq_true rfl) dL_law_563 cm (fun rv M2 hq => ?_)
  obtain ⟨r2, rfl, hr2, hM1⟩ := hq
  exact v_icmp_eq h 1197 dL_law_566 (by decide) (fun _ => kk _ _ _ _ hX1 hM1) (fun c => absurd (by rw [hr, hr2]) c)
theorem v_k11 (h : Vc X ad b L xs) (hL : L ≤ 3072) (hX : InvX MX T P v) (hM : InvM MM T P) (hv : v < 900000) (hi : i + 6 ≤ L) (kk : ∀ MX1 MM1 T1 P1, InvX MX1 T1 P1 (v + 10) → InvM MM1 T1 P1 → V X ad Qf 1197 (lvL X ad b i) [] MX1 MM1) : V X ad Qf 571 (lvL X ad b i) [] MX MM := by
  obtain ⟨res, T1, P1, cx, cm⟩ := tt_longest (E := X.1) (F := kF X ad) hX hM (xs (i + 1))
  refine v_aload_n h dL_law_571 rfl 1 rfl ?_
  refine v_arg h hL 1 (by decide) dL_law_572 dL_law_573 dL_law_574 dL_law_575 dL_law_576 (by omega) ?_
  refine v_callX (n := 1) (As := [.int (xs (i + 1))]) (rest := []) h rfl wcX9_longest wnX9 (z_w (List.mem_append_right _ (List.mem_of_getElem? (i := 461) (by decide +kernel))) rfl) wiX9_longest wlX9_longest ⟨by decide, by decide, by decide +kernel⟩ (by decide) (by decide) rfl (Nat.le_of_ble_eq_true rfl) dL_law_577 cx (fun rv M1 hq => ?_)
  obtain ⟨r, rfl, hr, hX1⟩ := hq
  refine v_aload_n h dL_law_580 rfl 2 rfl ?_
  refine v_arg h hL 1 (by decide) dL_law_581 dL_law_582 dL_law_583 dL_law_584 dL_law_585 (by omega) ?_
  refine v_callM (n := 1) (As := [.int (xs (i + 1))]) (rest := [.int r]) h rfl wcX10_longest wnX10 (z_w (List.mem_append_right _ (List.mem_of_getElem? (i := 925) (by decide +kernel))) rfl) wiX10_longest wlX10_longest ⟨by decide, by decide, by decide +kernel⟩ (by decide) (by decide) rfl (Nat.le_of_ble_eq_true rfl) dL_law_586 cm (fun rv M2 hq => ?_)
  obtain ⟨r2, rfl, hr2, hM1⟩ := hq
  exact v_icmp_eq h 1197 dL_law_589 (by decide) (fun _ => kk _ _ _ _ hX1 hM1) (fun c => absurd (by rw [hr, hr2]) c)
theorem v_k12 (h : Vc X ad b L xs) (hL : L ≤ 3072) (hX : InvX MX T P v) (hM : InvM MM T P) (hv : v < 900000) (hi : i + 6 ≤ L) (kk : ∀ MX1 MM1 T1 P1, InvX MX1 T1 P1 (v + 10) → InvM MM1 T1 P1 → V X ad Qf 1197 (lvL X ad b i) [] MX1 MM1) : V X ad Qf 594 (lvL X ad b i) [] MX MM := by
  obtain ⟨res, T1, P1, cx, cm⟩ := tt_rests (E := X.1) (F := kF X ad) hX hM
  refine v_aload_n h dL_law_594 rfl 1 rfl ?_
  refine v_callX (n := 0) (As := []) (rest := []) h rfl wcX9_rests wnX9 (z_w (List.mem_append_right _ (List.mem_of_getElem? (i := 470) (by decide +kernel))) rfl) wiX9_rests wlX9_rests ⟨by decide, by decide, by decide +kernel⟩ (by decide) (by decide) rfl (Nat.le_of_ble_eq_true rfl) dL_law_595 cx (fun rv M1 hq => ?_)
  obtain ⟨r, rfl, hr, hX1⟩ := hq
  refine v_aload_n h dL_law_598 rfl 2 rfl ?_
  refine v_callM (n := 0) (As := []) (rest := [.int r]) h rfl wcX10_rests wnX10 (z_w (List.mem_append_right _ (List.mem_of_getElem? (i := 929) (by decide +kernel))) rfl) wiX10_rests wlX10_rests ⟨by decide, by decide, by decide +kernel⟩ (by decide) (by decide) rfl (Nat.le_of_ble_eq_true rfl) dL_law_599 cm (fun rv M2 hq => ?_)
  obtain ⟨r2, rfl, hr2, hM1⟩ := hq
  exact v_icmp_eq h 1197 dL_law_602 (by decide) (fun _ => kk _ _ _ _ hX1 hM1) (fun c => absurd (by rw [hr, hr2]) c)
theorem v_k13 (h : Vc X ad b L xs) (hL : L ≤ 3072) (hX : InvX MX T P v) (hM : InvM MM T P) (hv : v < 900000) (hi : i + 6 ≤ L) (kk : ∀ MX1 MM1 T1 P1, InvX MX1 T1 P1 (v + 10) → InvM MM1 T1 P1 → V X ad Qf 1197 (lvL X ad b i) [] MX1 MM1) : V X ad Qf 607 (lvL X ad b i) [] MX MM := by
  obtain ⟨res, T1, P1, cx, cm⟩ := tt_rest (E := X.1) (F := kF X ad) hX hM (xs (i + 1))
  refine v_aload_n h dL_law_607 rfl 1 rfl ?_
  refine v_arg h hL 1 (by decide) dL_law_608 dL_law_609 dL_law_610 dL_law_611 dL_law_612 (by omega) ?_
  refine v_callX (n := 1) (As := [.int (xs (i + 1))]) (rest := []) h rfl wcX9_rest wnX9 (z_w (List.mem_append_right _ (List.mem_of_getElem? (i := 480) (by decide +kernel))) rfl) wiX9_rest wlX9_rest ⟨by decide, by decide, by decide +kernel⟩ (by decide) (by decide) rfl (Nat.le_of_ble_eq_true rfl) dL_law_613 cx (fun rv M1 hq => ?_)
  obtain ⟨r, rfl, hr, hX1⟩ := hq
  refine v_aload_n h dL_law_616 rfl 2 rfl ?_
  refine v_arg h hL 1 (by decide) dL_law_617 dL_law_618 dL_law_619 dL_law_620 dL_law_621 (by omega) ?_
  refine v_callM (n := 1) (As := [.int (xs (i + 1))]) (rest := [.int r]) h rfl wcX10_rest wnX10 (z_w (List.mem_append_right _ (List.mem_of_getElem? (i := 937) (by decide +kernel))) rfl) wiX10_rest wlX10_rest ⟨by decide, by decide, by decide +kernel⟩ (by decide) (by decide) rfl (Nat.le_of_ble_eq_true rfl) dL_law_622 cm (fun rv M2 hq => ?_)
  obtain ⟨r2, rfl, hr2, hM1⟩ := hq
  exact v_icmp_eq h 1197 dL_law_625 (by decide) (fun _ => kk _ _ _ _ hX1 hM1) (fun c => absurd (by rw [hr, hr2]) c)
theorem v_k14 (h : Vc X ad b L xs) (hL : L ≤ 3072) (hX : InvX MX T P v) (hM : InvM MM T P) (hv : v < 900000) (hi : i + 6 ≤ L) (kk : ∀ MX1 MM1 T1 P1, InvX MX1 T1 P1 (v + 10) → InvM MM1 T1 P1 → V X ad Qf 1197 (lvL X ad b i) [] MX1 MM1) : V X ad Qf 630 (lvL X ad b i) [] MX MM := by
  obtain ⟨res, T1, P1, cx, cm⟩ := tt_even (E := X.1) (F := kF X ad) hX hM
  refine v_aload_n h dL_law_630 rfl 1 rfl ?_
  refine v_callX (n := 0) (As := []) (rest := []) h rfl wcX9_even wnX9 (z_w (List.mem_append_right _ (List.mem_of_getElem? (i := 488) (by decide +kernel))) rfl) wiX9_even wlX9_even ⟨by decide, by decide, by decide +kernel⟩ (by decide) (by decide) rfl (Nat.le_of_ble_eq_true rfl) dL_law_631 cx (fun rv M1 hq => ?_)
  obtain ⟨r, rfl, hr, hX1⟩ := hq
  refine v_aload_n h dL_law_634 rfl 2 rfl ?_
  refine v_callM (n := 0) (As := []) (rest := [.int r]) h rfl wcX10_even wnX10 (z_w (List.mem_append_right _ (List.mem_of_getElem? (i := 945) (by decide +kernel))) rfl) wiX10_even wlX10_even ⟨by decide, by decide, by decide +kernel⟩ (by decide) (by decide) rfl (Nat.le_of_ble_eq_true rfl) dL_law_635 cm (fun rv M2 hq => ?_)
  obtain ⟨r2, rfl, hr2, hM1⟩ := hq
  exact v_icmp_eq h 1197 dL_law_638 (by decide) (fun _ => kk _ _ _ _ hX1 hM1) (fun c => absurd (by rw [hr, hr2]) c)
theorem v_k15 (h : Vc X ad b L xs) (hL : L ≤ 3072) (hX : InvX MX T P v) (hM : InvM MM T P) (hv : v < 900000) (hi : i + 6 ≤ L) (kk : ∀ MX1 MM1 T1 P1, InvX MX1 T1 P1 (v + 10) → InvM MM1 T1 P1 → V X ad Qf 1197 (lvL X ad b i) [] MX1 MM1) : V X ad Qf 643 (lvL X ad b i) [] MX MM := by
  obtain ⟨res, T1, P1, cx, cm⟩ := tt_heat (E := X.1) (F := kF X ad) hX hM (xs (i + 1))
  refine v_aload_n h dL_law_643 rfl 1 rfl ?_
  refine v_arg h hL 1 (by decide) dL_law_644 dL_law_645 dL_law_646 dL_law_647 dL_law_648 (by omega) ?_
  refine v_callX (n := 1) (As := [.int (xs (i + 1))]) (rest := []) h rfl wcX9_heat wnX9 (z_w (List.mem_append_right _ (List.mem_of_getElem? (i := 507) (by decide +kernel))) rfl) wiX9_heat wlX9_heat ⟨by decide, by decide, by decide +kernel⟩ (by decide) (by decide) rfl (Nat.le_of_ble_eq_true rfl) dL_law_649 cx (fun rv M1 hq => ?_)
  obtain ⟨r, rfl, hr, hX1⟩ := hq
  refine v_aload_n h dL_law_652 rfl 2 rfl ?_
  refine v_arg h hL 1 (by decide) dL_law_653 dL_law_654 dL_law_655 dL_law_656 dL_law_657 (by omega) ?_
  refine v_callM (n := 1) (As := [.int (xs (i + 1))]) (rest := [.int r]) h rfl wcX10_heat wnX10 (z_w (List.mem_append_right _ (List.mem_of_getElem? (i := 953) (by decide +kernel))) rfl) wiX10_heat wlX10_heat ⟨by decide, by decide, by decide +kernel⟩ (by decide) (by decide) rfl (Nat.le_of_ble_eq_true rfl) dL_law_658 cm (fun rv M2 hq => ?_)
  obtain ⟨r2, rfl, hr2, hM1⟩ := hq
  exact v_icmp_eq h 1197 dL_law_661 (by decide) (fun _ => kk _ _ _ _ hX1 hM1) (fun c => absurd (by rw [hr, hr2]) c)
theorem v_k16 (h : Vc X ad b L xs) (hL : L ≤ 3072) (hX : InvX MX T P v) (hM : InvM MM T P) (hv : v < 900000) (hi : i + 6 ≤ L) (kk : ∀ MX1 MM1 T1 P1, InvX MX1 T1 P1 (v + 10) → InvM MM1 T1 P1 → V X ad Qf 1197 (lvL X ad b i) [] MX1 MM1) : V X ad Qf 666 (lvL X ad b i) [] MX MM := by
  obtain ⟨res, T1, P1, cx, cm⟩ := tt_lone (E := X.1) (F := kF X ad) hX hM (xs (i + 1)) (xs (i + 2))
  refine v_aload_n h dL_law_666 rfl 1 rfl ?_
  refine v_arg h hL 1 (by decide) dL_law_667 dL_law_668 dL_law_669 dL_law_670 dL_law_671 (by omega) ?_
  refine v_arg h hL 2 (by decide) dL_law_672 dL_law_673 dL_law_674 dL_law_675 dL_law_676 (by omega) ?_
  refine v_callX (n := 2) (As := [.int (xs (i + 1)), .int (xs (i + 2))]) (rest := []) h rfl wcX9_lone wnX9 (z_w (List.mem_append_right _ (List.mem_of_getElem? (i := 525) (by decide +kernel))) rfl) wiX9_lone wlX9_lone ⟨by decide, by decide, by decide +kernel⟩ (by decide) (by decide) rfl (Nat.le_of_ble_eq_true rfl) dL_law_677 cx (fun rv M1 hq => ?_)
  obtain ⟨r, rfl, hr, hX1⟩ := hq
  refine v_aload_n h dL_law_680 rfl 2 rfl ?_
  refine v_arg h hL 1 (by decide) dL_law_681 dL_law_682 dL_law_683 dL_law_684 dL_law_685 (by omega) ?_
  refine v_arg h hL 2 (by decide) dL_law_686 dL_law_687 dL_law_688 dL_law_689 dL_law_690 (by omega) ?_
  refine v_callM (n := 2) (As := [.int (xs (i + 1)), .int (xs (i + 2))]) (rest := [.int r]) h rfl wcX10_lone wnX10 (z_w (List.mem_append_right _ (List.mem_of_getElem? (i := 957) (by decide +kernel))) rfl) wiX10_lone wlX10_lone ⟨by decide, by decide, by decide +kernel⟩ (by decide) (by decide) rfl (Nat.le_of_ble_eq_true rfl) dL_law_691 cm (fun rv M2 hq => ?_)
  obtain ⟨r2, rfl, hr2, hM1⟩ := hq
  exact v_icmp_eq h 1197 dL_law_694 (by decide) (fun _ => kk _ _ _ _ hX1 hM1) (fun c => absurd (by rw [hr, hr2]) c)
theorem v_k17 (h : Vc X ad b L xs) (hL : L ≤ 3072) (hX : InvX MX T P v) (hM : InvM MM T P) (hv : v < 900000) (hi : i + 6 ≤ L) (kk : ∀ MX1 MM1 T1 P1, InvX MX1 T1 P1 (v + 10) → InvM MM1 T1 P1 → V X ad Qf 1197 (lvL X ad b i) [] MX1 MM1) : V X ad Qf 699 (lvL X ad b i) [] MX MM := by
  obtain ⟨res, T1, P1, cx, cm⟩ := tt_settled (E := X.1) (F' := kF X ad) hX hM
  refine v_aload_n h dL_law_699 rfl 1 rfl ?_
  refine v_callX (n := 0) (As := []) (rest := []) h rfl wcX9_settled wnX9 (z_w (List.mem_append_right _ (List.mem_of_getElem? (i := 530) (by decide +kernel))) rfl) wiX9_settled wlX9_settled ⟨by decide, by decide, by decide +kernel⟩ (by decide) (by decide) rfl (Nat.le_of_ble_eq_true rfl) dL_law_700 cx (fun rv M1 hq => ?_)
  obtain ⟨r, rfl, hr, hX1⟩ := hq
  refine v_aload_n h dL_law_703 rfl 2 rfl ?_
  refine v_callM (n := 0) (As := []) (rest := [.int r]) h rfl wcX10_settled wnX10 (z_w (List.mem_append_right _ (List.mem_of_getElem? (i := 965) (by decide +kernel))) rfl) wiX10_settled wlX10_settled ⟨by decide, by decide, by decide +kernel⟩ (by decide) (by decide) rfl (Nat.le_of_ble_eq_true rfl) dL_law_704 cm (fun rv M2 hq => ?_)
  obtain ⟨r2, rfl, hr2, hM1⟩ := hq
  exact v_icmp_eq h 1197 dL_law_707 (by decide) (fun _ => kk _ _ _ _ hX1 hM1) (fun c => absurd (by rw [hr, hr2]) c)
theorem v_k18 (h : Vc X ad b L xs) (hL : L ≤ 3072) (hX : InvX MX T P v) (hM : InvM MM T P) (hv : v < 900000) (hi : i + 6 ≤ L) (kk : ∀ MX1 MM1 T1 P1, InvX MX1 T1 P1 (v + 10) → InvM MM1 T1 P1 → V X ad Qf 1197 (lvL X ad b i) [] MX1 MM1) : V X ad Qf 712 (lvL X ad b i) [] MX MM := by
  obtain ⟨res, T1, P1, cx, cm⟩ := tt_witness (E := X.1) (F' := kF X ad) hX hM
  refine v_aload_n h dL_law_712 rfl 1 rfl ?_
  refine v_callX (n := 0) (As := []) (rest := []) h rfl wcX9_witness wnX9 (z_w (List.mem_append_right _ (List.mem_of_getElem? (i := 563) (by decide +kernel))) rfl) wiX9_witness wlX9_witness ⟨by decide, by decide, by decide +kernel⟩ (by decide) (by decide) rfl (Nat.le_of_ble_eq_true rfl) dL_law_713 cx (fun rv M1 hq => ?_)
  obtain ⟨r, rfl, hr, hX1⟩ := hq
  refine v_aload_n h dL_law_716 rfl 2 rfl ?_
  refine v_callM (n := 0) (As := []) (rest := [.int r]) h rfl wcX10_witness wnX10 (z_w (List.mem_append_right _ (List.mem_of_getElem? (i := 985) (by decide +kernel))) rfl) wiX10_witness wlX10_witness ⟨by decide, by decide, by decide +kernel⟩ (by decide) (by decide) rfl (Nat.le_of_ble_eq_true rfl) dL_law_717 cm (fun rv M2 hq => ?_)
  obtain ⟨r2, rfl, hr2, hM1⟩ := hq
  exact v_icmp_eq h 1197 dL_law_720 (by decide) (fun _ => kk _ _ _ _ hX1 hM1) (fun c => absurd (by rw [hr, hr2]) c)
theorem v_k19 (h : Vc X ad b L xs) (hL : L ≤ 3072) (hX : InvX MX T P v) (hM : InvM MM T P) (hv : v < 900000) (hi : i + 6 ≤ L) (kk : ∀ MX1 MM1 T1 P1, InvX MX1 T1 P1 (v + 10) → InvM MM1 T1 P1 → V X ad Qf 1197 (lvL X ad b i) [] MX1 MM1) : V X ad Qf 725 (lvL X ad b i) [] MX MM := by
  obtain ⟨res, T1, P1, cx, cm⟩ := tt_turn (E := X.1) (F := kF X ad) hX hM
  refine v_aload_n h dL_law_725 rfl 1 rfl ?_
  refine v_callX (n := 0) (As := []) (rest := []) h rfl wcX9_turn wnX9 (z_w (List.mem_append_right _ (List.mem_of_getElem? (i := 567) (by decide +kernel))) rfl) wiX9_turn wlX9_turn ⟨by decide, by decide, by decide +kernel⟩ (by decide) (by decide) rfl (Nat.le_of_ble_eq_true rfl) dL_law_726 cx (fun rv M1 hq => ?_)
  obtain ⟨r, rfl, hr, hX1⟩ := hq
  refine v_aload_n h dL_law_729 rfl 2 rfl ?_
  refine v_callM (n := 0) (As := []) (rest := [.int r]) h rfl wcX10_turn wnX10 (z_w (List.mem_append_right _ (List.mem_of_getElem? (i := 989) (by decide +kernel))) rfl) wiX10_turn wlX10_turn ⟨by decide, by decide, by decide +kernel⟩ (by decide) (by decide) rfl (Nat.le_of_ble_eq_true rfl) dL_law_730 cm (fun rv M2 hq => ?_)
  obtain ⟨r2, rfl, hr2, hM1⟩ := hq
  exact v_icmp_eq h 1197 dL_law_733 (by decide) (fun _ => kk _ _ _ _ hX1 hM1) (fun c => absurd (by rw [hr, hr2]) c)
theorem v_k20 (h : Vc X ad b L xs) (hL : L ≤ 3072) (hX : InvX MX T P v) (hM : InvM MM T P) (hv : v < 900000) (hi : i + 6 ≤ L) (kk : ∀ MX1 MM1 T1 P1, InvX MX1 T1 P1 (v + 10) → InvM MM1 T1 P1 → V X ad Qf 1197 (lvL X ad b i) [] MX1 MM1) : V X ad Qf 738 (lvL X ad b i) [] MX MM := by
  obtain ⟨res, T1, P1, cx, cm⟩ := tt_turned (E := X.1) (F := kF X ad) hX hM
  refine v_aload_n h dL_law_738 rfl 1 rfl ?_
  refine v_callX (n := 0) (As := []) (rest := []) h rfl wcX9_turned wnX9 (z_w (List.mem_append_right _ (List.mem_of_getElem? (i := 583) (by decide +kernel))) rfl) wiX9_turned wlX9_turned ⟨by decide, by decide, by decide +kernel⟩ (by decide) (by decide) rfl (Nat.le_of_ble_eq_true rfl) dL_law_739 cx (fun rv M1 hq => ?_)
  obtain ⟨r, rfl, hr, hX1⟩ := hq
  refine v_aload_n h dL_law_742 rfl 2 rfl ?_
  refine v_callM (n := 0) (As := []) (rest := [.int r]) h rfl wcX10_turned wnX10 (z_w (List.mem_append_right _ (List.mem_of_getElem? (i := 1000) (by decide +kernel))) rfl) wiX10_turned wlX10_turned ⟨by decide, by decide, by decide +kernel⟩ (by decide) (by decide) rfl (Nat.le_of_ble_eq_true rfl) dL_law_743 cm (fun rv M2 hq => ?_)
  obtain ⟨r2, rfl, hr2, hM1⟩ := hq
  exact v_icmp_eq h 1197 dL_law_746 (by decide) (fun _ => kk _ _ _ _ hX1 hM1) (fun c => absurd (by rw [hr, hr2]) c)
theorem v_k21 (h : Vc X ad b L xs) (hL : L ≤ 3072) (hX : InvX MX T P v) (hM : InvM MM T P) (hv : v < 900000) (hi : i + 6 ≤ L) (kk : ∀ MX1 MM1 T1 P1, InvX MX1 T1 P1 (v + 10) → InvM MM1 T1 P1 → V X ad Qf 1197 (lvL X ad b i) [] MX1 MM1) : V X ad Qf 751 (lvL X ad b i) [] MX MM := by
  obtain ⟨res, T1, P1, cx, cm⟩ := tt_hold (E := X.1) (F := kF X ad) hX hM (kb (xs (i + 1)))
  refine v_aload_n h dL_law_751 rfl 1 rfl ?_
  refine v_arg h hL 1 (by decide) dL_law_752 dL_law_753 dL_law_754 dL_law_755 dL_law_756 (by omega) ?_
  refine v_bool h dL_law_757 dL_law_760 dL_law_761 dL_law_764 ?_
  refine v_callX (n := 1) (As := [.int (kb (xs (i + 1)))]) (rest := []) h rfl wcX9_hold wnX9 (z_w (List.mem_append_right _ (List.mem_of_getElem? (i := 587) (by decide +kernel))) rfl) wiX9_hold wlX9_hold ⟨by decide, by decide, by decide +kernel⟩ (by decide) (by decide) rfl (Nat.le_of_ble_eq_true rfl) dL_law_765 cx (fun rv M1 hq => ?_)
  obtain ⟨r, rfl, hr, hX1⟩ := hq
  refine v_aload_n h dL_law_768 rfl 2 rfl ?_
  refine v_arg h hL 1 (by decide) dL_law_769 dL_law_770 dL_law_771 dL_law_772 dL_law_773 (by omega) ?_
  refine v_bool h dL_law_774 dL_law_777 dL_law_778 dL_law_781 ?_
  refine v_callM (n := 1) (As := [.int (kb (xs (i + 1)))]) (rest := [.int r]) h rfl wcX10_hold wnX10 (z_w (List.mem_append_right _ (List.mem_of_getElem? (i := 1004) (by decide +kernel))) rfl) wiX10_hold wlX10_hold ⟨by decide, by decide, by decide +kernel⟩ (by decide) (by decide) rfl (Nat.le_of_ble_eq_true rfl) dL_law_782 cm (fun rv M2 hq => ?_)
  obtain ⟨r2, rfl, hr2, hM1⟩ := hq
  exact v_icmp_eq h 1197 dL_law_785 (by decide) (fun _ => kk _ _ _ _ hX1 hM1) (fun c => absurd (by rw [hr, hr2]) c)
theorem v_k22 (h : Vc X ad b L xs) (hL : L ≤ 3072) (hX : InvX MX T P v) (hM : InvM MM T P) (hv : v < 900000) (hi : i + 6 ≤ L) (kk : ∀ MX1 MM1 T1 P1, InvX MX1 T1 P1 (v + 10) → InvM MM1 T1 P1 → V X ad Qf 1197 (lvL X ad b i) [] MX1 MM1) : V X ad Qf 790 (lvL X ad b i) [] MX MM := by
  obtain ⟨res, T1, P1, cx, cm⟩ := tt_may (E := X.1) (F := kF X ad) hX hM (xs (i + 1)) (xs (i + 2))
  refine v_aload_n h dL_law_790 rfl 1 rfl ?_
  refine v_arg h hL 1 (by decide) dL_law_791 dL_law_792 dL_law_793 dL_law_794 dL_law_795 (by omega) ?_
  refine v_arg h hL 2 (by decide) dL_law_796 dL_law_797 dL_law_798 dL_law_799 dL_law_800 (by omega) ?_
  refine v_callX (n := 2) (As := [.int (xs (i + 1)), .int (xs (i + 2))]) (rest := []) h rfl wcX9_may wnX9 (z_w (List.mem_append_right _ (List.mem_of_getElem? (i := 595) (by decide +kernel))) rfl) wiX9_may wlX9_may ⟨by decide, by decide, by decide +kernel⟩ (by decide) (by decide) rfl (Nat.le_of_ble_eq_true rfl) dL_law_801 cx (fun rv M1 hq => ?_)
  obtain ⟨r, rfl, hr, hX1⟩ := hq
  refine v_aload_n h dL_law_804 rfl 2 rfl ?_
  refine v_arg h hL 1 (by decide) dL_law_805 dL_law_806 dL_law_807 dL_law_808 dL_law_809 (by omega) ?_
  refine v_arg h hL 2 (by decide) dL_law_810 dL_law_811 dL_law_812 dL_law_813 dL_law_814 (by omega) ?_
  refine v_callM (n := 2) (As := [.int (xs (i + 1)), .int (xs (i + 2))]) (rest := [.int r]) h rfl wcX10_may wnX10 (z_w (List.mem_append_right _ (List.mem_of_getElem? (i := 1008) (by decide +kernel))) rfl) wiX10_may wlX10_may ⟨by decide, by decide, by decide +kernel⟩ (by decide) (by decide) rfl (Nat.le_of_ble_eq_true rfl) dL_law_815 cm (fun rv M2 hq => ?_)
  obtain ⟨r2, rfl, hr2, hM1⟩ := hq
  exact v_icmp_eq h 1197 dL_law_818 (by decide) (fun _ => kk _ _ _ _ hX1 hM1) (fun c => absurd (by rw [hr, hr2]) c)
theorem v_k23 (h : Vc X ad b L xs) (hL : L ≤ 3072) (hX : InvX MX T P v) (hM : InvM MM T P) (hv : v < 900000) (hi : i + 6 ≤ L) (kk : ∀ MX1 MM1 T1 P1, InvX MX1 T1 P1 (v + 10) → InvM MM1 T1 P1 → V X ad Qf 1197 (lvL X ad b i) [] MX1 MM1) : V X ad Qf 823 (lvL X ad b i) [] MX MM := by
  obtain ⟨res, T1, P1, cx, cm⟩ := tt_mays (E := X.1) (F := kF X ad) hX hM (xs (i + 1))
  refine v_aload_n h dL_law_823 rfl 1 rfl ?_
  refine v_arg h hL 1 (by decide) dL_law_824 dL_law_825 dL_law_826 dL_law_827 dL_law_828 (by omega) ?_
  refine v_callX (n := 1) (As := [.int (xs (i + 1))]) (rest := []) h rfl wcX9_mays wnX9 (z_w (List.mem_append_right _ (List.mem_of_getElem? (i := 610) (by decide +kernel))) rfl) wiX9_mays wlX9_mays ⟨by decide, by decide, by decide +kernel⟩ (by decide) (by decide) rfl (Nat.le_of_ble_eq_true rfl) dL_law_829 cx (fun rv M1 hq => ?_)
  obtain ⟨r, rfl, hr, hX1⟩ := hq
  refine v_aload_n h dL_law_832 rfl 2 rfl ?_
  refine v_arg h hL 1 (by decide) dL_law_833 dL_law_834 dL_law_835 dL_law_836 dL_law_837 (by omega) ?_
  refine v_callM (n := 1) (As := [.int (xs (i + 1))]) (rest := [.int r]) h rfl wcX10_mays wnX10 (z_w (List.mem_append_right _ (List.mem_of_getElem? (i := 1012) (by decide +kernel))) rfl) wiX10_mays wlX10_mays ⟨by decide, by decide, by decide +kernel⟩ (by decide) (by decide) rfl (Nat.le_of_ble_eq_true rfl) dL_law_838 cm (fun rv M2 hq => ?_)
  obtain ⟨r2, rfl, hr2, hM1⟩ := hq
  exact v_icmp_eq h 1197 dL_law_841 (by decide) (fun _ => kk _ _ _ _ hX1 hM1) (fun c => absurd (by rw [hr, hr2]) c)
theorem v_k24 (h : Vc X ad b L xs) (hL : L ≤ 3072) (hX : InvX MX T P v) (hM : InvM MM T P) (hv : v < 900000) (hi : i + 6 ≤ L) (kk : ∀ MX1 MM1 T1 P1, InvX MX1 T1 P1 (v + 10) → InvM MM1 T1 P1 → V X ad Qf 1197 (lvL X ad b i) [] MX1 MM1) : V X ad Qf 846 (lvL X ad b i) [] MX MM := by
  obtain ⟨res, T1, P1, cx, cm⟩ := tt_soon (E := X.1) (F := kF X ad) hX hM (xs (i + 1))
  refine v_aload_n h dL_law_846 rfl 1 rfl ?_
  refine v_arg h hL 1 (by decide) dL_law_847 dL_law_848 dL_law_849 dL_law_850 dL_law_851 (by omega) ?_
  refine v_callX (n := 1) (As := [.int (xs (i + 1))]) (rest := []) h rfl wcX9_soon wnX9 (z_w (List.mem_append_right _ (List.mem_of_getElem? (i := 618) (by decide +kernel))) rfl) wiX9_soon wlX9_soon ⟨by decide, by decide, by decide +kernel⟩ (by decide) (by decide) rfl (Nat.le_of_ble_eq_true rfl) dL_law_852 cx (fun rv M1 hq => ?_)
  obtain ⟨r, rfl, hr, hX1⟩ := hq
  refine v_aload_n h dL_law_855 rfl 2 rfl ?_
  refine v_arg h hL 1 (by decide) dL_law_856 dL_law_857 dL_law_858 dL_law_859 dL_law_860 (by omega) ?_
  refine v_callM (n := 1) (As := [.int (xs (i + 1))]) (rest := [.int r]) h rfl wcX10_soon wnX10 (z_w (List.mem_append_right _ (List.mem_of_getElem? (i := 1016) (by decide +kernel))) rfl) wiX10_soon wlX10_soon ⟨by decide, by decide, by decide +kernel⟩ (by decide) (by decide) rfl (Nat.le_of_ble_eq_true rfl) dL_law_861 cm (fun rv M2 hq => ?_)
  obtain ⟨r2, rfl, hr2, hM1⟩ := hq
  exact v_icmp_eq h 1197 dL_law_864 (by decide) (fun _ => kk _ _ _ _ hX1 hM1) (fun c => absurd (by rw [hr, hr2]) c)
theorem v_k25 (h : Vc X ad b L xs) (hL : L ≤ 3072) (hX : InvX MX T P v) (hM : InvM MM T P) (hv : v < 900000) (hi : i + 6 ≤ L) (kk : ∀ MX1 MM1 T1 P1, InvX MX1 T1 P1 (v + 10) → InvM MM1 T1 P1 → V X ad Qf 1197 (lvL X ad b i) [] MX1 MM1) : V X ad Qf 869 (lvL X ad b i) [] MX MM := by
  obtain ⟨res, T1, P1, cx, cm⟩ := tt_likely (E := X.1) (F := kF X ad) hX hM (xs (i + 1)) (xs (i + 2)) (kb (xs (i + 3)))
  refine v_aload_n h dL_law_869 rfl 1 rfl ?_
  refine v_arg h hL 1 (by decide) dL_law_870 dL_law_871 dL_law_872 dL_law_873 dL_law_874 (by omega) ?_
  refine v_arg h hL 2 (by decide) dL_law_875 dL_law_876 dL_law_877 dL_law_878 dL_law_879 (by omega) ?_
  refine v_arg h hL 3 (by decide) dL_law_880 dL_law_881 dL_law_882 dL_law_883 dL_law_884 (by omega) ?_
  refine v_bool h dL_law_885 dL_law_888 dL_law_889 dL_law_892 ?_
  refine v_callX (n := 3) (As := [.int (xs (i + 1)), .int (xs (i + 2)), .int (kb (xs (i + 3)))]) (rest := []) h rfl wcX9_likely wnX9 (z_w (List.mem_append_right _ (List.mem_of_getElem? (i := 626) (by decide +kernel))) rfl) wiX9_likely wlX9_likely ⟨by decide, by decide, by decide +kernel⟩ (by decide) (by decide) rfl (Nat.le_of_ble_eq_true rfl) dL_law_893 cx (fun rv M1 hq => ?_)
  obtain ⟨r, rfl, hr, hX1⟩ := hq
  refine v_aload_n h dL_law_896 rfl 2 rfl ?_
  refine v_arg h hL 1 (by decide) dL_law_897 dL_law_898 dL_law_899 dL_law_900 dL_law_901 (by omega) ?_
  refine v_arg h hL 2 (by decide) dL_law_902 dL_law_903 dL_law_904 dL_law_905 dL_law_906 (by omega) ?_
  refine v_arg h hL 3 (by decide) dL_law_907 dL_law_908 dL_law_909 dL_law_910 dL_law_911 (by omega) ?_
  refine v_bool h dL_law_912 dL_law_915 dL_law_916 dL_law_919 ?_
  refine v_callM (n := 3) (As := [.int (xs (i + 1)), .int (xs (i + 2)), .int (kb (xs (i + 3)))]) (rest := [.long r]) h rfl wcX10_likely wnX10 (z_w (List.mem_append_right _ (List.mem_of_getElem? (i := 1020) (by decide +kernel))) rfl) wiX10_likely wlX10_likely ⟨by decide, by decide, by decide +kernel⟩ (by decide) (by decide) rfl (Nat.le_of_ble_eq_true rfl) dL_law_920 cm (fun rv M2 hq => ?_)
  obtain ⟨r2, rfl, hr2, hM1⟩ := hq
  refine v_lcmp h dL_law_923 ?_
  exact v_if_eq h 1197 dL_law_924 (by decide) (fun _ => kk _ _ _ _ hX1 hM1) (fun c => absurd (by rw [hr, hr2]; exact kq_cmp _) c)
theorem v_k26 (h : Vc X ad b L xs) (hL : L ≤ 3072) (hX : InvX MX T P v) (hM : InvM MM T P) (hv : v < 900000) (hi : i + 6 ≤ L) (kk : ∀ MX1 MM1 T1 P1, InvX MX1 T1 P1 (v + 10) → InvM MM1 T1 P1 → V X ad Qf 1197 (lvL X ad b i) [] MX1 MM1) : V X ad Qf 929 (lvL X ad b i) [] MX MM := by
  obtain ⟨res, T1, P1, cx, cm⟩ := tt_week (E := X.1) (F := kF X ad) hX hM (xs (i + 1))
  refine v_aload_n h dL_law_929 rfl 1 rfl ?_
  refine v_arg h hL 1 (by decide) dL_law_930 dL_law_931 dL_law_932 dL_law_933 dL_law_934 (by omega) ?_
  refine v_callX (n := 1) (As := [.int (xs (i + 1))]) (rest := []) h rfl wcX9_week wnX9 (z_w (List.mem_append_right _ (List.mem_of_getElem? (i := 648) (by decide +kernel))) rfl) wiX9_week wlX9_week ⟨by decide, by decide, by decide +kernel⟩ (by decide) (by decide) rfl (Nat.le_of_ble_eq_true rfl) dL_law_935 cx (fun rv M1 hq => ?_)
  obtain ⟨r, rfl, hr, hX1⟩ := hq
  refine v_aload_n h dL_law_938 rfl 2 rfl ?_
  refine v_arg h hL 1 (by decide) dL_law_939 dL_law_940 dL_law_941 dL_law_942 dL_law_943 (by omega) ?_
  refine v_callM (n := 1) (As := [.int (xs (i + 1))]) (rest := [.int r]) h rfl wcX10_week wnX10 (z_w (List.mem_append_right _ (List.mem_of_getElem? (i := 1031) (by decide +kernel))) rfl) wiX10_week wlX10_week ⟨by decide, by decide, by decide +kernel⟩ (by decide) (by decide) rfl (Nat.le_of_ble_eq_true rfl) dL_law_944 cm (fun rv M2 hq => ?_)
  obtain ⟨r2, rfl, hr2, hM1⟩ := hq
  exact v_icmp_eq h 1197 dL_law_947 (by decide) (fun _ => kk _ _ _ _ hX1 hM1) (fun c => absurd (by rw [hr, hr2]) c)
theorem v_k27 (h : Vc X ad b L xs) (hL : L ≤ 3072) (hX : InvX MX T P v) (hM : InvM MM T P) (hv : v < 900000) (hi : i + 6 ≤ L) (kk : ∀ MX1 MM1 T1 P1, InvX MX1 T1 P1 (v + 10) → InvM MM1 T1 P1 → V X ad Qf 1197 (lvL X ad b i) [] MX1 MM1) : V X ad Qf 952 (lvL X ad b i) [] MX MM := by
  obtain ⟨res, T1, P1, cx, cm⟩ := tt_wipe (E := X.1) (F := kF X ad) hX hM
  refine v_aload_n h dL_law_952 rfl 1 rfl ?_
  refine v_callX (n := 0) (As := []) (rest := []) h rfl wcX9_wipe wnX9 (z_w (List.mem_append_right _ (List.mem_of_getElem? (i := 665) (by decide +kernel))) rfl) wiX9_wipe wlX9_wipe ⟨by decide, by decide, by decide +kernel⟩ (by decide) (by decide) rfl (Nat.le_of_ble_eq_true rfl) dL_law_953 cx (fun rv M1 hq => ?_)
  obtain ⟨r, rfl, hr, hX1⟩ := hq
  refine v_aload_n h dL_law_956 rfl 2 rfl ?_
  refine v_callM (n := 0) (As := []) (rest := [.int r]) h rfl wcX10_wipe wnX10 (z_w (List.mem_append_right _ (List.mem_of_getElem? (i := 1035) (by decide +kernel))) rfl) wiX10_wipe wlX10_wipe ⟨by decide, by decide, by decide +kernel⟩ (by decide) (by decide) rfl (Nat.le_of_ble_eq_true rfl) dL_law_957 cm (fun rv M2 hq => ?_)
  obtain ⟨r2, rfl, hr2, hM1⟩ := hq
  exact v_icmp_eq h 1197 dL_law_960 (by decide) (fun _ => kk _ _ _ _ hX1 hM1) (fun c => absurd (by rw [hr, hr2]) c)
theorem v_k28 (h : Vc X ad b L xs) (hL : L ≤ 3072) (hX : InvX MX T P v) (hM : InvM MM T P) (hv : v < 900000) (hi : i + 6 ≤ L) (kk : ∀ MX1 MM1 T1 P1, InvX MX1 T1 P1 (v + 10) → InvM MM1 T1 P1 → V X ad Qf 1197 (lvL X ad b i) [] MX1 MM1) : V X ad Qf 965 (lvL X ad b i) [] MX MM := by
  obtain ⟨res, T1, P1, cx, cm⟩ := tt_maybe (E := X.1) (F := kF X ad) hX hM (xs (i + 1))
  refine v_aload_n h dL_law_965 rfl 1 rfl ?_
  refine v_arg h hL 1 (by decide) dL_law_966 dL_law_967 dL_law_968 dL_law_969 dL_law_970 (by omega) ?_
  refine v_callX (n := 1) (As := [.int (xs (i + 1))]) (rest := []) h rfl wcX9_maybe wnX9 (z_w (List.mem_append_right _ (List.mem_of_getElem? (i := 669) (by decide +kernel))) rfl) wiX9_maybe wlX9_maybe ⟨by decide, by decide, by decide +kernel⟩ (by decide) (by decide) rfl (Nat.le_of_ble_eq_true rfl) dL_law_971 cx (fun rv M1 hq => ?_)
  obtain ⟨r, rfl, hr, hX1⟩ := hq
  refine v_aload_n h dL_law_974 rfl 2 rfl ?_
  refine v_arg h hL 1 (by decide) dL_law_975 dL_law_976 dL_law_977 dL_law_978 dL_law_979 (by omega) ?_
  refine v_callM (n := 1) (As := [.int (xs (i + 1))]) (rest := [.int r]) h rfl wcX10_maybe wnX10 (z_w (List.mem_append_right _ (List.mem_of_getElem? (i := 1039) (by decide +kernel))) rfl) wiX10_maybe wlX10_maybe ⟨by decide, by decide, by decide +kernel⟩ (by decide) (by decide) rfl (Nat.le_of_ble_eq_true rfl) dL_law_980 cm (fun rv M2 hq => ?_)
  obtain ⟨r2, rfl, hr2, hM1⟩ := hq
  exact v_icmp_eq h 1197 dL_law_983 (by decide) (fun _ => kk _ _ _ _ hX1 hM1) (fun c => absurd (by rw [hr, hr2]) c)
theorem v_k29 (h : Vc X ad b L xs) (hL : L ≤ 3072) (hX : InvX MX T P v) (hM : InvM MM T P) (hv : v < 900000) (hi : i + 6 ≤ L) (kk : ∀ MX1 MM1 T1 P1, InvX MX1 T1 P1 (v + 10) → InvM MM1 T1 P1 → V X ad Qf 1197 (lvL X ad b i) [] MX1 MM1) : V X ad Qf 988 (lvL X ad b i) [] MX MM := by
  obtain ⟨res, T1, P1, cx, cm⟩ := tt_ways (E := X.1) (F := kF X ad) hX hM
  refine v_aload_n h dL_law_988 rfl 1 rfl ?_
  refine v_callX (n := 0) (As := []) (rest := []) h rfl wcX9_ways wnX9 (z_w (List.mem_append_right _ (List.mem_of_getElem? (i := 680) (by decide +kernel))) rfl) wiX9_ways wlX9_ways ⟨by decide, by decide, by decide +kernel⟩ (by decide) (by decide) rfl (Nat.le_of_ble_eq_true rfl) dL_law_989 cx (fun rv M1 hq => ?_)
  obtain ⟨r, rfl, hr, hX1⟩ := hq
  refine v_aload_n h dL_law_992 rfl 2 rfl ?_
  refine v_callM (n := 0) (As := []) (rest := [.long r]) h rfl wcX10_ways wnX10 (z_w (List.mem_append_right _ (List.mem_of_getElem? (i := 1047) (by decide +kernel))) rfl) wiX10_ways wlX10_ways ⟨by decide, by decide, by decide +kernel⟩ (by decide) (by decide) rfl (Nat.le_of_ble_eq_true rfl) dL_law_993 cm (fun rv M2 hq => ?_)
  obtain ⟨r2, rfl, hr2, hM1⟩ := hq
  refine v_lcmp h dL_law_996 ?_
  exact v_if_eq h 1197 dL_law_997 (by decide) (fun _ => kk _ _ _ _ hX1 hM1) (fun c => absurd (by rw [hr, hr2]; exact kq_cmp _) c)
theorem v_k30 (h : Vc X ad b L xs) (hL : L ≤ 3072) (hX : InvX MX T P v) (hM : InvM MM T P) (hv : v < 900000) (hi : i + 6 ≤ L) (kk : ∀ MX1 MM1 T1 P1, InvX MX1 T1 P1 (v + 10) → InvM MM1 T1 P1 → V X ad Qf 1197 (lvL X ad b i) [] MX1 MM1) : V X ad Qf 1002 (lvL X ad b i) [] MX MM := by
  obtain ⟨res, T1, P1, cx, cm⟩ := tt_take (E := X.1) (F := kF X ad) hX hM (by omega)
  refine v_aload_n h dL_law_1002 rfl 1 rfl ?_
  refine v_callX (n := 0) (As := []) (rest := []) h rfl wcX9_take wnX9 (z_w (List.mem_append_right _ (List.mem_of_getElem? (i := 691) (by decide +kernel))) rfl) wiX9_take wlX9_take ⟨by decide, by decide, by decide +kernel⟩ (by decide) (by decide) rfl (Nat.le_of_ble_eq_true rfl) dL_law_1003 cx (fun rv M1 hq => ?_)
  obtain ⟨r, rfl, hr, hX1⟩ := hq
  refine v_aload_n h dL_law_1006 rfl 2 rfl ?_
  refine v_callM (n := 0) (As := []) (rest := [.int r]) h rfl wcX10_take wnX10 (z_w (List.mem_append_right _ (List.mem_of_getElem? (i := 1051) (by decide +kernel))) rfl) wiX10_take wlX10_take ⟨by decide, by decide, by decide +kernel⟩ (by decide) (by decide) rfl (Nat.le_of_ble_eq_true rfl) dL_law_1007 cm (fun rv M2 hq => ?_)
  obtain ⟨r2, rfl, hr2, hM1⟩ := hq
  exact v_icmp_eq h 1197 dL_law_1010 (by decide) (fun _ => kk _ _ _ _ hX1 hM1) (fun c => absurd (by rw [hr, hr2]) c)
theorem v_k31 (h : Vc X ad b L xs) (hL : L ≤ 3072) (hX : InvX MX T P v) (hM : InvM MM T P) (hv : v < 900000) (hi : i + 6 ≤ L) (kk : ∀ MX1 MM1 T1 P1, InvX MX1 T1 P1 (v + 10) → InvM MM1 T1 P1 → V X ad Qf 1197 (lvL X ad b i) [] MX1 MM1) : V X ad Qf 1015 (lvL X ad b i) [] MX MM := by
  obtain ⟨res, T1, P1, cx, cm⟩ := tt_asked (E := X.1) (F := kF X ad) hX hM (xs (i + 1)) (xs (i + 2)) (xs (i + 3))
  refine v_aload_n h dL_law_1015 rfl 1 rfl ?_
  refine v_arg h hL 1 (by decide) dL_law_1016 dL_law_1017 dL_law_1018 dL_law_1019 dL_law_1020 (by omega) ?_
  refine v_arg h hL 2 (by decide) dL_law_1021 dL_law_1022 dL_law_1023 dL_law_1024 dL_law_1025 (by omega) ?_
  refine v_arg h hL 3 (by decide) dL_law_1026 dL_law_1027 dL_law_1028 dL_law_1029 dL_law_1030 (by omega) ?_
  refine v_callX (n := 3) (As := [.int (xs (i + 1)), .int (xs (i + 2)), .int (xs (i + 3))]) (rest := []) h rfl wcX9_asked wnX9 (z_w (List.mem_append_right _ (List.mem_of_getElem? (i := 704) (by decide +kernel))) rfl) wiX9_asked wlX9_asked ⟨by decide, by decide, by decide +kernel⟩ (by decide) (by decide) rfl (Nat.le_of_ble_eq_true rfl) dL_law_1031 cx (fun rv M1 hq => ?_)
  obtain ⟨r, rfl, hr, hX1⟩ := hq
  refine v_aload_n h dL_law_1034 rfl 2 rfl ?_
  refine v_arg h hL 1 (by decide) dL_law_1035 dL_law_1036 dL_law_1037 dL_law_1038 dL_law_1039 (by omega) ?_
  refine v_arg h hL 2 (by decide) dL_law_1040 dL_law_1041 dL_law_1042 dL_law_1043 dL_law_1044 (by omega) ?_
  refine v_arg h hL 3 (by decide) dL_law_1045 dL_law_1046 dL_law_1047 dL_law_1048 dL_law_1049 (by omega) ?_
  refine v_callM (n := 3) (As := [.int (xs (i + 1)), .int (xs (i + 2)), .int (xs (i + 3))]) (rest := [.int r]) h rfl wcX10_asked wnX10 (z_w (List.mem_append_right _ (List.mem_of_getElem? (i := 1056) (by decide +kernel))) rfl) wiX10_asked wlX10_asked ⟨by decide, by decide, by decide +kernel⟩ (by decide) (by decide) rfl (Nat.le_of_ble_eq_true rfl) dL_law_1050 cm (fun rv M2 hq => ?_)
  obtain ⟨r2, rfl, hr2, hM1⟩ := hq
  exact v_icmp_eq h 1197 dL_law_1053 (by decide) (fun _ => kk _ _ _ _ hX1 hM1) (fun c => absurd (by rw [hr, hr2]) c)
theorem v_k32 (h : Vc X ad b L xs) (hL : L ≤ 3072) (hX : InvX MX T P v) (hM : InvM MM T P) (hv : v < 900000) (hi : i + 6 ≤ L) (kk : ∀ MX1 MM1 T1 P1, InvX MX1 T1 P1 (v + 10) → InvM MM1 T1 P1 → V X ad Qf 1197 (lvL X ad b i) [] MX1 MM1) : V X ad Qf 1058 (lvL X ad b i) [] MX MM := by
  obtain ⟨res, T1, P1, cx, cm⟩ := tt_gain (E := X.1) (F := kF X ad) hX hM (xs (i + 1)) (xs (i + 2)) (xs (i + 3)) (xs (i + 4)) (xs (i + 5))
  refine v_aload_n h dL_law_1058 rfl 1 rfl ?_
  refine v_arg h hL 1 (by decide) dL_law_1059 dL_law_1060 dL_law_1061 dL_law_1062 dL_law_1063 (by omega) ?_
  refine v_arg h hL 2 (by decide) dL_law_1064 dL_law_1065 dL_law_1066 dL_law_1067 dL_law_1068 (by omega) ?_
  refine v_arg h hL 3 (by decide) dL_law_1069 dL_law_1070 dL_law_1071 dL_law_1072 dL_law_1073 (by omega) ?_
  refine v_arg h hL 4 (by decide) dL_law_1074 dL_law_1075 dL_law_1076 dL_law_1077 dL_law_1078 (by omega) ?_
  refine v_arg h hL 5 (by decide) dL_law_1079 dL_law_1080 dL_law_1081 dL_law_1082 dL_law_1083 (by omega) ?_
  refine v_callX (n := 5) (As := [.int (xs (i + 1)), .int (xs (i + 2)), .int (xs (i + 3)), .int (xs (i + 4)), .int (xs (i + 5))]) (rest := []) h rfl wcX9_gain wnX9 (z_w (List.mem_append_right _ (List.mem_of_getElem? (i := 717) (by decide +kernel))) rfl) wiX9_gain wlX9_gain ⟨by decide, by decide, by decide +kernel⟩ (by decide) (by decide) rfl (Nat.le_of_ble_eq_true rfl) dL_law_1084 cx (fun rv M1 hq => ?_)
  obtain ⟨r, rfl, hr, hX1⟩ := hq
  refine v_aload_n h dL_law_1087 rfl 2 rfl ?_
  refine v_arg h hL 1 (by decide) dL_law_1088 dL_law_1089 dL_law_1090 dL_law_1091 dL_law_1092 (by omega) ?_
  refine v_arg h hL 2 (by decide) dL_law_1093 dL_law_1094 dL_law_1095 dL_law_1096 dL_law_1097 (by omega) ?_
  refine v_arg h hL 3 (by decide) dL_law_1098 dL_law_1099 dL_law_1100 dL_law_1101 dL_law_1102 (by omega) ?_
  refine v_arg h hL 4 (by decide) dL_law_1103 dL_law_1104 dL_law_1105 dL_law_1106 dL_law_1107 (by omega) ?_
  refine v_arg h hL 5 (by decide) dL_law_1108 dL_law_1109 dL_law_1110 dL_law_1111 dL_law_1112 (by omega) ?_
  refine v_callM (n := 5) (As := [.int (xs (i + 1)), .int (xs (i + 2)), .int (xs (i + 3)), .int (xs (i + 4)), .int (xs (i + 5))]) (rest := [.int r]) h rfl wcX10_gain wnX10 (z_w (List.mem_append_right _ (List.mem_of_getElem? (i := 1065) (by decide +kernel))) rfl) wiX10_gain wlX10_gain ⟨by decide, by decide, by decide +kernel⟩ (by decide) (by decide) rfl (Nat.le_of_ble_eq_true rfl) dL_law_1113 cm (fun rv M2 hq => ?_)
  obtain ⟨r2, rfl, hr2, hM1⟩ := hq
  exact v_icmp_eq h 1197 dL_law_1116 (by decide) (fun _ => kk _ _ _ _ hX1 hM1) (fun c => absurd (by rw [hr, hr2]) c)
theorem v_k33 (h : Vc X ad b L xs) (hL : L ≤ 3072) (hX : InvX MX T P v) (hM : InvM MM T P) (hv : v < 900000) (hi : i + 6 ≤ L) (kk : ∀ MX1 MM1 T1 P1, InvX MX1 T1 P1 (v + 10) → InvM MM1 T1 P1 → V X ad Qf 1197 (lvL X ad b i) [] MX1 MM1) : V X ad Qf 1121 (lvL X ad b i) [] MX MM := by
  obtain ⟨res, T1, P1, cx, cm⟩ := tt_order (E := X.1) (F := kF X ad) hX hM (xs (i + 1)) (xs (i + 2)) (xs (i + 3)) (xs (i + 4))
  refine v_aload_n h dL_law_1121 rfl 1 rfl ?_
  refine v_arg h hL 1 (by decide) dL_law_1122 dL_law_1123 dL_law_1124 dL_law_1125 dL_law_1126 (by omega) ?_
  refine v_arg h hL 2 (by decide) dL_law_1127 dL_law_1128 dL_law_1129 dL_law_1130 dL_law_1131 (by omega) ?_
  refine v_arg h hL 3 (by decide) dL_law_1132 dL_law_1133 dL_law_1134 dL_law_1135 dL_law_1136 (by omega) ?_
  refine v_arg h hL 4 (by decide) dL_law_1137 dL_law_1138 dL_law_1139 dL_law_1140 dL_law_1141 (by omega) ?_
  refine v_callX (n := 4) (As := [.int (xs (i + 1)), .int (xs (i + 2)), .int (xs (i + 3)), .int (xs (i + 4))]) (rest := []) h rfl wcX9_order wnX9 (z_w (List.mem_append_right _ (List.mem_of_getElem? (i := 734) (by decide +kernel))) rfl) wiX9_order wlX9_order ⟨by decide, by decide, by decide +kernel⟩ (by decide) (by decide) rfl (Nat.le_of_ble_eq_true rfl) dL_law_1142 cx (fun rv M1 hq => ?_)
  obtain ⟨r, rfl, hr, hX1⟩ := hq
  refine v_aload_n h dL_law_1145 rfl 2 rfl ?_
  refine v_arg h hL 1 (by decide) dL_law_1146 dL_law_1147 dL_law_1148 dL_law_1149 dL_law_1150 (by omega) ?_
  refine v_arg h hL 2 (by decide) dL_law_1151 dL_law_1152 dL_law_1153 dL_law_1154 dL_law_1155 (by omega) ?_
  refine v_arg h hL 3 (by decide) dL_law_1156 dL_law_1157 dL_law_1158 dL_law_1159 dL_law_1160 (by omega) ?_
  refine v_arg h hL 4 (by decide) dL_law_1161 dL_law_1162 dL_law_1163 dL_law_1164 dL_law_1165 (by omega) ?_
  refine v_callM (n := 4) (As := [.int (xs (i + 1)), .int (xs (i + 2)), .int (xs (i + 3)), .int (xs (i + 4))]) (rest := [.int r]) h rfl wcX10_order wnX10 (z_w (List.mem_append_right _ (List.mem_of_getElem? (i := 1082) (by decide +kernel))) rfl) wiX10_order wlX10_order ⟨by decide, by decide, by decide +kernel⟩ (by decide) (by decide) rfl (Nat.le_of_ble_eq_true rfl) dL_law_1166 cm (fun rv M2 hq => ?_)
  obtain ⟨r2, rfl, hr2, hM1⟩ := hq
  exact v_icmp_eq h 1197 dL_law_1169 (by decide) (fun _ => kk _ _ _ _ hX1 hM1) (fun c => absurd (by rw [hr, hr2]) c)
theorem v_k34 (h : Vc X ad b L xs) (hL : L ≤ 3072) (hX : InvX MX T P v) (hM : InvM MM T P) (hv : v < 900000) (hi : i + 6 ≤ L) (kk : ∀ MX1 MM1 T1 P1, InvX MX1 T1 P1 (v + 10) → InvM MM1 T1 P1 → V X ad Qf 1197 (lvL X ad b i) [] MX1 MM1) : V X ad Qf 1174 (lvL X ad b i) [] MX MM := by
  obtain ⟨res, T1, P1, cx, cm⟩ := tt_count (E := X.1) (F := kF X ad) hX hM (xs (i + 1))
  refine v_aload_n h dL_law_1174 rfl 1 rfl ?_
  refine v_arg h hL 1 (by decide) dL_law_1175 dL_law_1176 dL_law_1177 dL_law_1178 dL_law_1179 (by omega) ?_
  refine v_callX (n := 1) (As := [.int (xs (i + 1))]) (rest := []) h rfl wcX9_count wnX9 (z_w (List.mem_append_right _ (List.mem_of_getElem? (i := 742) (by decide +kernel))) rfl) wiX9_count wlX9_count ⟨by decide, by decide, by decide +kernel⟩ (by decide) (by decide) rfl (Nat.le_of_ble_eq_true rfl) dL_law_1180 cx (fun rv M1 hq => ?_)
  obtain ⟨r, rfl, hr, hX1⟩ := hq
  refine v_aload_n h dL_law_1183 rfl 2 rfl ?_
  refine v_arg h hL 1 (by decide) dL_law_1184 dL_law_1185 dL_law_1186 dL_law_1187 dL_law_1188 (by omega) ?_
  refine v_callM (n := 1) (As := [.int (xs (i + 1))]) (rest := [.int r]) h rfl wcX10_count wnX10 (z_w (List.mem_append_right _ (List.mem_of_getElem? (i := 1086) (by decide +kernel))) rfl) wiX10_count wlX10_count ⟨by decide, by decide, by decide +kernel⟩ (by decide) (by decide) rfl (Nat.le_of_ble_eq_true rfl) dL_law_1189 cm (fun rv M2 hq => ?_)
  obtain ⟨r2, rfl, hr2, hM1⟩ := hq
  exact v_icmp_eq h 1197 dL_law_1192 (by decide) (fun _ => kk _ _ _ _ hX1 hM1) (fun c => absurd (by rw [hr, hr2]) c)
end LawCases
