theorem lg_cmp_self (x : Int64) : lg_cmp x x = 0 := by
  simp [lg_cmp]
theorem lw_ti {n : Nat} (h : n < 2 ^ 31) : (Int32.ofNat n).toInt = (n : Int) := Int32.toInt_ofNat_of_lt h
theorem lw_sub {L : Nat} (hL : L ≤ 3072) : (Int32.ofNat L - 6).toInt = (L : Int) - 6 := by
  have h1 := lw_ti (n := L) (by omega)
  have h6 : (6 : Int32).toInt = 6 := by decide
  rw [Int32.toInt_sub, h1, h6]
  exact Int.bmod_eq_of_le (by omega) (by omega)
theorem lw_gt {L i : Nat} (hL : L ≤ 3072) (h2 : i ≤ 3078) (h1 : L < i + 6) : Int32.ofNat L - 6 < nI i := by
  rw [Int32.lt_iff_toInt_lt, lw_sub hL]
  show _ < (Int32.ofNat i).toInt
  rw [lw_ti (by omega)]
  omega
theorem lw_ngt {L i : Nat} (hL : L ≤ 3072) (h2 : i ≤ 3078) (h1 : i + 6 ≤ L) : ¬ Int32.ofNat L - 6 < nI i := by
  rw [Int32.lt_iff_toInt_lt, lw_sub hL]
  show ¬ _ < (Int32.ofNat i).toInt
  rw [lw_ti (by omega)]
  omega
def lw_tg : List Nat := [192, 215, 258, 291, 334, 377, 410, 433, 446, 479, 522, 555, 588, 621, 634, 687, 710, 743, 766, 799, 832, 865, 888, 901, 914, 927, 940, 963, 1006, 1029, 1062, 1105, 1178, 1212, 1275, 1308]
theorem lc_0 {l : Launch} {cx : CX} {b L : Nat} {xs : Nat → Int32} {x : Int32} {σ : AS} (hA : AD cx) (hI : Inv σ) (hin : ∀ v : Nat, v < 6 → vp_in (x + nI v) L) (back : ∀ σ1, Inv σ1 → LJ l cx b L xs 1331 (lvw cx b x) [] σ1) : LJ l cx b L xs 192 (lvw cx b x) [] σ := by
  have hw := op_sitter (xs (x + nI 1).toNatClampNeg) σ hI
  refine L_aload_n dL_law_192 rfl 2 rfl ?_
  refine L_arg (v := nI 1) dL_law_193 dL_law_194 dL_law_195 dL_law_196 dL_law_197 rfl (hin 1 (by decide)) ?_
  refine L_callI (As := [.inl (xs (x + nI 1).toNatClampNeg)]) acl8 rfl (by decide) mi_X8_sitter ml_RL_13 rfl (by decide) (Nat.le_of_ble_eq_true rfl) dL_law_198 (ct_X8_sitter hA (xs (x + nI 1).toNatClampNeg) _ _ hw) (fun r0 σ1 hw => ?_) rfl
  refine L_aload_n dL_law_201 rfl 1 rfl ?_
  refine L_arg (v := nI 1) dL_law_202 dL_law_203 dL_law_204 dL_law_205 dL_law_206 rfl (hin 1 (by decide)) ?_
  refine L_callI (As := [.inl (xs (x + nI 1).toNatClampNeg)]) acl9 rfl (by decide) mi_X9_sitter ml_RL_17 rfl (by decide) (Nat.le_of_ble_eq_true rfl) dL_law_207 (ct_X9_sitter hA (xs (x + nI 1).toNatClampNeg) _ _ hw) (fun r1 σ2 hw => ?_) rfl
  obtain ⟨he, hI2⟩ := hw
  exact L_icmpeq (tgt := 1331) dL_law_210 (by decide) he (back _ hI2)
theorem lc_1 {l : Launch} {cx : CX} {b L : Nat} {xs : Nat → Int32} {x : Int32} {σ : AS} (hA : AD cx) (hI : Inv σ) (hin : ∀ v : Nat, v < 6 → vp_in (x + nI v) L) (back : ∀ σ1, Inv σ1 → LJ l cx b L xs 1331 (lvw cx b x) [] σ1) : LJ l cx b L xs 215 (lvw cx b x) [] σ := by
  have hw := op_sitters (xs (x + nI 1).toNatClampNeg) (xs (x + nI 2).toNatClampNeg) (xs (x + nI 3).toNatClampNeg) σ hI
  refine L_aload_n dL_law_215 rfl 2 rfl ?_
  refine L_arg (v := nI 1) dL_law_216 dL_law_217 dL_law_218 dL_law_219 dL_law_220 rfl (hin 1 (by decide)) ?_
  refine L_arg (v := nI 2) dL_law_221 dL_law_222 dL_law_223 dL_law_224 dL_law_225 rfl (hin 2 (by decide)) ?_
  refine L_arg (v := nI 3) dL_law_226 dL_law_227 dL_law_228 dL_law_229 dL_law_230 rfl (hin 3 (by decide)) ?_
  refine L_callI (As := [.inl (xs (x + nI 1).toNatClampNeg), .inl (xs (x + nI 2).toNatClampNeg), .inl (xs (x + nI 3).toNatClampNeg)]) acl8 rfl (by decide) mi_X8_sitters ml_RL_18 rfl (by decide) (Nat.le_of_ble_eq_true rfl) dL_law_231 (ct_X8_sitters hA (xs (x + nI 1).toNatClampNeg) (xs (x + nI 2).toNatClampNeg) (xs (x + nI 3).toNatClampNeg) _ _ hw) (fun r0 σ1 hw => ?_) rfl
  refine L_aload_n dL_law_234 rfl 1 rfl ?_
  refine L_arg (v := nI 1) dL_law_235 dL_law_236 dL_law_237 dL_law_238 dL_law_239 rfl (hin 1 (by decide)) ?_
  refine L_arg (v := nI 2) dL_law_240 dL_law_241 dL_law_242 dL_law_243 dL_law_244 rfl (hin 2 (by decide)) ?_
  refine L_arg (v := nI 3) dL_law_245 dL_law_246 dL_law_247 dL_law_248 dL_law_249 rfl (hin 3 (by decide)) ?_
  refine L_callI (As := [.inl (xs (x + nI 1).toNatClampNeg), .inl (xs (x + nI 2).toNatClampNeg), .inl (xs (x + nI 3).toNatClampNeg)]) acl9 rfl (by decide) mi_X9_sitters ml_RL_22 rfl (by decide) (Nat.le_of_ble_eq_true rfl) dL_law_250 (ct_X9_sitters hA (xs (x + nI 1).toNatClampNeg) (xs (x + nI 2).toNatClampNeg) (xs (x + nI 3).toNatClampNeg) _ _ hw) (fun r1 σ2 hw => ?_) rfl
  obtain ⟨he, hI2⟩ := hw
  exact L_icmpeq (tgt := 1331) dL_law_253 (by decide) he (back _ hI2)
theorem lc_2 {l : Launch} {cx : CX} {b L : Nat} {xs : Nat → Int32} {x : Int32} {σ : AS} (hA : AD cx) (hI : Inv σ) (hin : ∀ v : Nat, v < 6 → vp_in (x + nI v) L) (back : ∀ σ1, Inv σ1 → LJ l cx b L xs 1331 (lvw cx b x) [] σ1) : LJ l cx b L xs 258 (lvw cx b x) [] σ := by
  have hw := op_wide (xs (x + nI 1).toNatClampNeg) (xs (x + nI 2).toNatClampNeg) σ hI
  refine L_aload_n dL_law_258 rfl 2 rfl ?_
  refine L_arg (v := nI 1) dL_law_259 dL_law_260 dL_law_261 dL_law_262 dL_law_263 rfl (hin 1 (by decide)) ?_
  refine L_arg (v := nI 2) dL_law_264 dL_law_265 dL_law_266 dL_law_267 dL_law_268 rfl (hin 2 (by decide)) ?_
  refine L_callI (As := [.inl (xs (x + nI 1).toNatClampNeg), .inl (xs (x + nI 2).toNatClampNeg)]) acl8 rfl (by decide) mi_X8_wide ml_RL_23 rfl (by decide) (Nat.le_of_ble_eq_true rfl) dL_law_269 (ct_X8_wide hA (xs (x + nI 1).toNatClampNeg) (xs (x + nI 2).toNatClampNeg) _ _ hw) (fun r0 σ1 hw => ?_) rfl
  refine L_aload_n dL_law_272 rfl 1 rfl ?_
  refine L_arg (v := nI 1) dL_law_273 dL_law_274 dL_law_275 dL_law_276 dL_law_277 rfl (hin 1 (by decide)) ?_
  refine L_arg (v := nI 2) dL_law_278 dL_law_279 dL_law_280 dL_law_281 dL_law_282 rfl (hin 2 (by decide)) ?_
  refine L_callI (As := [.inl (xs (x + nI 1).toNatClampNeg), .inl (xs (x + nI 2).toNatClampNeg)]) acl9 rfl (by decide) mi_X9_wide ml_RL_27 rfl (by decide) (Nat.le_of_ble_eq_true rfl) dL_law_283 (ct_X9_wide hA (xs (x + nI 1).toNatClampNeg) (xs (x + nI 2).toNatClampNeg) _ _ hw) (fun r1 σ2 hw => ?_) rfl
  obtain ⟨he, hI2⟩ := hw
  exact L_icmpeq (tgt := 1331) dL_law_286 (by decide) he (back _ hI2)
theorem lc_3 {l : Launch} {cx : CX} {b L : Nat} {xs : Nat → Int32} {x : Int32} {σ : AS} (hA : AD cx) (hI : Inv σ) (hin : ∀ v : Nat, v < 6 → vp_in (x + nI v) L) (back : ∀ σ1, Inv σ1 → LJ l cx b L xs 1331 (lvw cx b x) [] σ1) : LJ l cx b L xs 291 (lvw cx b x) [] σ := by
  have hw := op_hours (xs (x + nI 1).toNatClampNeg) (xs (x + nI 2).toNatClampNeg) (xs (x + nI 3).toNatClampNeg) σ hI
  refine L_aload_n dL_law_291 rfl 2 rfl ?_
  refine L_arg (v := nI 1) dL_law_292 dL_law_293 dL_law_294 dL_law_295 dL_law_296 rfl (hin 1 (by decide)) ?_
  refine L_arg (v := nI 2) dL_law_297 dL_law_298 dL_law_299 dL_law_300 dL_law_301 rfl (hin 2 (by decide)) ?_
  refine L_arg (v := nI 3) dL_law_302 dL_law_303 dL_law_304 dL_law_305 dL_law_306 rfl (hin 3 (by decide)) ?_
  refine L_callI (As := [.inl (xs (x + nI 1).toNatClampNeg), .inl (xs (x + nI 2).toNatClampNeg), .inl (xs (x + nI 3).toNatClampNeg)]) acl8 rfl (by decide) mi_X8_hours ml_RL_28 rfl (by decide) (Nat.le_of_ble_eq_true rfl) dL_law_307 (ct_X8_hours hA (xs (x + nI 1).toNatClampNeg) (xs (x + nI 2).toNatClampNeg) (xs (x + nI 3).toNatClampNeg) _ _ hw) (fun r0 σ1 hw => ?_) rfl
  refine L_aload_n dL_law_310 rfl 1 rfl ?_
  refine L_arg (v := nI 1) dL_law_311 dL_law_312 dL_law_313 dL_law_314 dL_law_315 rfl (hin 1 (by decide)) ?_
  refine L_arg (v := nI 2) dL_law_316 dL_law_317 dL_law_318 dL_law_319 dL_law_320 rfl (hin 2 (by decide)) ?_
  refine L_arg (v := nI 3) dL_law_321 dL_law_322 dL_law_323 dL_law_324 dL_law_325 rfl (hin 3 (by decide)) ?_
  refine L_callI (As := [.inl (xs (x + nI 1).toNatClampNeg), .inl (xs (x + nI 2).toNatClampNeg), .inl (xs (x + nI 3).toNatClampNeg)]) acl9 rfl (by decide) mi_X9_hours ml_RL_31 rfl (by decide) (Nat.le_of_ble_eq_true rfl) dL_law_326 (ct_X9_hours hA (xs (x + nI 1).toNatClampNeg) (xs (x + nI 2).toNatClampNeg) (xs (x + nI 3).toNatClampNeg) _ _ hw) (fun r1 σ2 hw => ?_) rfl
  obtain ⟨he, hI2⟩ := hw
  exact L_icmpeq (tgt := 1331) dL_law_329 (by decide) he (back _ hI2)
theorem lc_4 {l : Launch} {cx : CX} {b L : Nat} {xs : Nat → Int32} {x : Int32} {σ : AS} (hA : AD cx) (hI : Inv σ) (hin : ∀ v : Nat, v < 6 → vp_in (x + nI v) L) (back : ∀ σ1, Inv σ1 → LJ l cx b L xs 1331 (lvw cx b x) [] σ1) : LJ l cx b L xs 334 (lvw cx b x) [] σ := by
  have hw := op_mend (xs (x + nI 1).toNatClampNeg) (xs (x + nI 2).toNatClampNeg) (xs (x + nI 3).toNatClampNeg) σ hI
  refine L_aload_n dL_law_334 rfl 2 rfl ?_
  refine L_arg (v := nI 1) dL_law_335 dL_law_336 dL_law_337 dL_law_338 dL_law_339 rfl (hin 1 (by decide)) ?_
  refine L_arg (v := nI 2) dL_law_340 dL_law_341 dL_law_342 dL_law_343 dL_law_344 rfl (hin 2 (by decide)) ?_
  refine L_arg (v := nI 3) dL_law_345 dL_law_346 dL_law_347 dL_law_348 dL_law_349 rfl (hin 3 (by decide)) ?_
  refine L_callI (As := [.inl (xs (x + nI 1).toNatClampNeg), .inl (xs (x + nI 2).toNatClampNeg), .inl (xs (x + nI 3).toNatClampNeg)]) acl8 rfl (by decide) mi_X8_mend ml_RL_32 rfl (by decide) (Nat.le_of_ble_eq_true rfl) dL_law_350 (ct_X8_mend hA (xs (x + nI 1).toNatClampNeg) (xs (x + nI 2).toNatClampNeg) (xs (x + nI 3).toNatClampNeg) _ _ hw) (fun r0 σ1 hw => ?_) rfl
  refine L_aload_n dL_law_353 rfl 1 rfl ?_
  refine L_arg (v := nI 1) dL_law_354 dL_law_355 dL_law_356 dL_law_357 dL_law_358 rfl (hin 1 (by decide)) ?_
  refine L_arg (v := nI 2) dL_law_359 dL_law_360 dL_law_361 dL_law_362 dL_law_363 rfl (hin 2 (by decide)) ?_
  refine L_arg (v := nI 3) dL_law_364 dL_law_365 dL_law_366 dL_law_367 dL_law_368 rfl (hin 3 (by decide)) ?_
  refine L_callI (As := [.inl (xs (x + nI 1).toNatClampNeg), .inl (xs (x + nI 2).toNatClampNeg), .inl (xs (x + nI 3).toNatClampNeg)]) acl9 rfl (by decide) mi_X9_mend ml_RL_35 rfl (by decide) (Nat.le_of_ble_eq_true rfl) dL_law_369 (ct_X9_mend hA (xs (x + nI 1).toNatClampNeg) (xs (x + nI 2).toNatClampNeg) (xs (x + nI 3).toNatClampNeg) _ _ hw) (fun r1 σ2 hw => ?_) rfl
  obtain ⟨he, hI2⟩ := hw
  exact L_icmpeq (tgt := 1331) dL_law_372 (by decide) he (back _ hI2)
theorem lc_5 {l : Launch} {cx : CX} {b L : Nat} {xs : Nat → Int32} {x : Int32} {σ : AS} (hA : AD cx) (hI : Inv σ) (hin : ∀ v : Nat, v < 6 → vp_in (x + nI v) L) (back : ∀ σ1, Inv σ1 → LJ l cx b L xs 1331 (lvw cx b x) [] σ1) : LJ l cx b L xs 377 (lvw cx b x) [] σ := by
  have hw := op_of (xs (x + nI 1).toNatClampNeg) (xs (x + nI 2).toNatClampNeg) σ hI
  refine L_aload_n dL_law_377 rfl 2 rfl ?_
  refine L_arg (v := nI 1) dL_law_378 dL_law_379 dL_law_380 dL_law_381 dL_law_382 rfl (hin 1 (by decide)) ?_
  refine L_arg (v := nI 2) dL_law_383 dL_law_384 dL_law_385 dL_law_386 dL_law_387 rfl (hin 2 (by decide)) ?_
  refine L_callI (As := [.inl (xs (x + nI 1).toNatClampNeg), .inl (xs (x + nI 2).toNatClampNeg)]) acl8 rfl (by decide) mi_X8_of ml_RL_36 rfl (by decide) (Nat.le_of_ble_eq_true rfl) dL_law_388 (ct_X8_of hA (xs (x + nI 1).toNatClampNeg) (xs (x + nI 2).toNatClampNeg) _ _ hw) (fun r0 σ1 hw => ?_) rfl
  refine L_aload_n dL_law_391 rfl 1 rfl ?_
  refine L_arg (v := nI 1) dL_law_392 dL_law_393 dL_law_394 dL_law_395 dL_law_396 rfl (hin 1 (by decide)) ?_
  refine L_arg (v := nI 2) dL_law_397 dL_law_398 dL_law_399 dL_law_400 dL_law_401 rfl (hin 2 (by decide)) ?_
  refine L_callI (As := [.inl (xs (x + nI 1).toNatClampNeg), .inl (xs (x + nI 2).toNatClampNeg)]) acl9 rfl (by decide) mi_X9_of ml_RL_39 rfl (by decide) (Nat.le_of_ble_eq_true rfl) dL_law_402 (ct_X9_of hA (xs (x + nI 1).toNatClampNeg) (xs (x + nI 2).toNatClampNeg) _ _ hw) (fun r1 σ2 hw => ?_) rfl
  obtain ⟨he, hI2⟩ := hw
  exact L_icmpeq (tgt := 1331) dL_law_405 (by decide) he (back _ hI2)
theorem lc_6 {l : Launch} {cx : CX} {b L : Nat} {xs : Nat → Int32} {x : Int32} {σ : AS} (hA : AD cx) (hI : Inv σ) (hin : ∀ v : Nat, v < 6 → vp_in (x + nI v) L) (back : ∀ σ1, Inv σ1 → LJ l cx b L xs 1331 (lvw cx b x) [] σ1) : LJ l cx b L xs 410 (lvw cx b x) [] σ := by
  have hw := op_feed (xs (x + nI 1).toNatClampNeg) σ hI
  refine L_aload_n dL_law_410 rfl 2 rfl ?_
  refine L_arg (v := nI 1) dL_law_411 dL_law_412 dL_law_413 dL_law_414 dL_law_415 rfl (hin 1 (by decide)) ?_
  refine L_callI (As := [.inl (xs (x + nI 1).toNatClampNeg)]) acl8 rfl (by decide) mi_X8_feed ml_RL_40 rfl (by decide) (Nat.le_of_ble_eq_true rfl) dL_law_416 (ct_X8_feed hA (xs (x + nI 1).toNatClampNeg) _ _ hw) (fun r0 σ1 hw => ?_) rfl
  refine L_aload_n dL_law_419 rfl 1 rfl ?_
  refine L_arg (v := nI 1) dL_law_420 dL_law_421 dL_law_422 dL_law_423 dL_law_424 rfl (hin 1 (by decide)) ?_
  refine L_callI (As := [.inl (xs (x + nI 1).toNatClampNeg)]) acl9 rfl (by decide) mi_X9_feed ml_RL_43 rfl (by decide) (Nat.le_of_ble_eq_true rfl) dL_law_425 (ct_X9_feed hA (xs (x + nI 1).toNatClampNeg) _ _ hw) (fun r1 σ2 hw => ?_) rfl
  obtain ⟨he, hI2⟩ := hw
  exact L_icmpeq (tgt := 1331) dL_law_428 (by decide) he (back _ hI2)
theorem lc_7 {l : Launch} {cx : CX} {b L : Nat} {xs : Nat → Int32} {x : Int32} {σ : AS} (hA : AD cx) (hI : Inv σ) (hin : ∀ v : Nat, v < 6 → vp_in (x + nI v) L) (back : ∀ σ1, Inv σ1 → LJ l cx b L xs 1331 (lvw cx b x) [] σ1) : LJ l cx b L xs 433 (lvw cx b x) [] σ := by
  have hw := op_law σ hI
  refine L_aload_n dL_law_433 rfl 2 rfl ?_
  refine L_callI (As := []) acl8 rfl (by decide) mi_X8_law ml_RL_44 rfl (by decide) (Nat.le_of_ble_eq_true rfl) dL_law_434 (ct_X8_law hA _ _ hw) (fun r0 σ1 hw => ?_) rfl
  refine L_aload_n dL_law_437 rfl 1 rfl ?_
  refine L_callI (As := []) acl9 rfl (by decide) mi_X9_law ml_RL_48 rfl (by decide) (Nat.le_of_ble_eq_true rfl) dL_law_438 (ct_X9_law hA _ _ hw) (fun r1 σ2 hw => ?_) rfl
  obtain ⟨he, hI2⟩ := hw
  exact L_icmpeq (tgt := 1331) dL_law_441 (by decide) he (back _ hI2)
theorem lc_8 {l : Launch} {cx : CX} {b L : Nat} {xs : Nat → Int32} {x : Int32} {σ : AS} (hA : AD cx) (hI : Inv σ) (hin : ∀ v : Nat, v < 6 → vp_in (x + nI v) L) (back : ∀ σ1, Inv σ1 → LJ l cx b L xs 1331 (lvw cx b x) [] σ1) : LJ l cx b L xs 446 (lvw cx b x) [] σ := by
  have hw := op_rest (xs (x + nI 1).toNatClampNeg) (xs (x + nI 2).toNatClampNeg) σ hI
  refine L_aload_n dL_law_446 rfl 2 rfl ?_
  refine L_arg (v := nI 1) dL_law_447 dL_law_448 dL_law_449 dL_law_450 dL_law_451 rfl (hin 1 (by decide)) ?_
  refine L_arg (v := nI 2) dL_law_452 dL_law_453 dL_law_454 dL_law_455 dL_law_456 rfl (hin 2 (by decide)) ?_
  refine L_callI (As := [.inl (xs (x + nI 1).toNatClampNeg), .inl (xs (x + nI 2).toNatClampNeg)]) acl8 rfl (by decide) mi_X8_rest ml_RL_49 rfl (by decide) (Nat.le_of_ble_eq_true rfl) dL_law_457 (ct_X8_rest hA (xs (x + nI 1).toNatClampNeg) (xs (x + nI 2).toNatClampNeg) _ _ hw) (fun r0 σ1 hw => ?_) rfl
  refine L_aload_n dL_law_460 rfl 1 rfl ?_
  refine L_arg (v := nI 1) dL_law_461 dL_law_462 dL_law_463 dL_law_464 dL_law_465 rfl (hin 1 (by decide)) ?_
  refine L_arg (v := nI 2) dL_law_466 dL_law_467 dL_law_468 dL_law_469 dL_law_470 rfl (hin 2 (by decide)) ?_
  refine L_callI (As := [.inl (xs (x + nI 1).toNatClampNeg), .inl (xs (x + nI 2).toNatClampNeg)]) acl9 rfl (by decide) mi_X9_rest ml_RL_52 rfl (by decide) (Nat.le_of_ble_eq_true rfl) dL_law_471 (ct_X9_rest hA (xs (x + nI 1).toNatClampNeg) (xs (x + nI 2).toNatClampNeg) _ _ hw) (fun r1 σ2 hw => ?_) rfl
  obtain ⟨he, hI2⟩ := hw
  exact L_icmpeq (tgt := 1331) dL_law_474 (by decide) he (back _ hI2)
theorem lc_9 {l : Launch} {cx : CX} {b L : Nat} {xs : Nat → Int32} {x : Int32} {σ : AS} (hA : AD cx) (hI : Inv σ) (hin : ∀ v : Nat, v < 6 → vp_in (x + nI v) L) (back : ∀ σ1, Inv σ1 → LJ l cx b L xs 1331 (lvw cx b x) [] σ1) : LJ l cx b L xs 479 (lvw cx b x) [] σ := by
  have hw := op_strength (xs (x + nI 1).toNatClampNeg) (xs (x + nI 2).toNatClampNeg) (xs (x + nI 3).toNatClampNeg) σ hI
  refine L_aload_n dL_law_479 rfl 2 rfl ?_
  refine L_arg (v := nI 1) dL_law_480 dL_law_481 dL_law_482 dL_law_483 dL_law_484 rfl (hin 1 (by decide)) ?_
  refine L_arg (v := nI 2) dL_law_485 dL_law_486 dL_law_487 dL_law_488 dL_law_489 rfl (hin 2 (by decide)) ?_
  refine L_arg (v := nI 3) dL_law_490 dL_law_491 dL_law_492 dL_law_493 dL_law_494 rfl (hin 3 (by decide)) ?_
  refine L_callI (As := [.inl (xs (x + nI 1).toNatClampNeg), .inl (xs (x + nI 2).toNatClampNeg), .inl (xs (x + nI 3).toNatClampNeg)]) acl8 rfl (by decide) mi_X8_strength ml_RL_53 rfl (by decide) (Nat.le_of_ble_eq_true rfl) dL_law_495 (ct_X8_strength hA (xs (x + nI 1).toNatClampNeg) (xs (x + nI 2).toNatClampNeg) (xs (x + nI 3).toNatClampNeg) _ _ hw) (fun r0 σ1 hw => ?_) rfl
  refine L_aload_n dL_law_498 rfl 1 rfl ?_
  refine L_arg (v := nI 1) dL_law_499 dL_law_500 dL_law_501 dL_law_502 dL_law_503 rfl (hin 1 (by decide)) ?_
  refine L_arg (v := nI 2) dL_law_504 dL_law_505 dL_law_506 dL_law_507 dL_law_508 rfl (hin 2 (by decide)) ?_
  refine L_arg (v := nI 3) dL_law_509 dL_law_510 dL_law_511 dL_law_512 dL_law_513 rfl (hin 3 (by decide)) ?_
  refine L_callI (As := [.inl (xs (x + nI 1).toNatClampNeg), .inl (xs (x + nI 2).toNatClampNeg), .inl (xs (x + nI 3).toNatClampNeg)]) acl9 rfl (by decide) mi_X9_strength ml_RL_56 rfl (by decide) (Nat.le_of_ble_eq_true rfl) dL_law_514 (ct_X9_strength hA (xs (x + nI 1).toNatClampNeg) (xs (x + nI 2).toNatClampNeg) (xs (x + nI 3).toNatClampNeg) _ _ hw) (fun r1 σ2 hw => ?_) rfl
  obtain ⟨he, hI2⟩ := hw
  exact L_icmpeq (tgt := 1331) dL_law_517 (by decide) he (back _ hI2)
theorem lc_10 {l : Launch} {cx : CX} {b L : Nat} {xs : Nat → Int32} {x : Int32} {σ : AS} (hA : AD cx) (hI : Inv σ) (hin : ∀ v : Nat, v < 6 → vp_in (x + nI v) L) (back : ∀ σ1, Inv σ1 → LJ l cx b L xs 1331 (lvw cx b x) [] σ1) : LJ l cx b L xs 522 (lvw cx b x) [] σ := by
  have hw := op_go (xs (x + nI 1).toNatClampNeg) (xs (x + nI 2).toNatClampNeg) σ hI
  refine L_aload_n dL_law_522 rfl 2 rfl ?_
  refine L_arg (v := nI 1) dL_law_523 dL_law_524 dL_law_525 dL_law_526 dL_law_527 rfl (hin 1 (by decide)) ?_
  refine L_arg (v := nI 2) dL_law_528 dL_law_529 dL_law_530 dL_law_531 dL_law_532 rfl (hin 2 (by decide)) ?_
  refine L_callI (As := [.inl (xs (x + nI 1).toNatClampNeg), .inl (xs (x + nI 2).toNatClampNeg)]) acl8 rfl (by decide) mi_X8_go ml_RL_57 rfl (by decide) (Nat.le_of_ble_eq_true rfl) dL_law_533 (ct_X8_go hA (xs (x + nI 1).toNatClampNeg) (xs (x + nI 2).toNatClampNeg) _ _ hw) (fun r0 σ1 hw => ?_) rfl
  refine L_aload_n dL_law_536 rfl 1 rfl ?_
  refine L_arg (v := nI 1) dL_law_537 dL_law_538 dL_law_539 dL_law_540 dL_law_541 rfl (hin 1 (by decide)) ?_
  refine L_arg (v := nI 2) dL_law_542 dL_law_543 dL_law_544 dL_law_545 dL_law_546 rfl (hin 2 (by decide)) ?_
  refine L_callI (As := [.inl (xs (x + nI 1).toNatClampNeg), .inl (xs (x + nI 2).toNatClampNeg)]) acl9 rfl (by decide) mi_X9_go ml_RL_60 rfl (by decide) (Nat.le_of_ble_eq_true rfl) dL_law_547 (ct_X9_go hA (xs (x + nI 1).toNatClampNeg) (xs (x + nI 2).toNatClampNeg) _ _ hw) (fun r1 σ2 hw => ?_) rfl
  obtain ⟨he, hI2⟩ := hw
  exact L_icmpeq (tgt := 1331) dL_law_550 (by decide) he (back _ hI2)
theorem lc_11 {l : Launch} {cx : CX} {b L : Nat} {xs : Nat → Int32} {x : Int32} {σ : AS} (hA : AD cx) (hI : Inv σ) (hin : ∀ v : Nat, v < 6 → vp_in (x + nI v) L) (back : ∀ σ1, Inv σ1 → LJ l cx b L xs 1331 (lvw cx b x) [] σ1) : LJ l cx b L xs 555 (lvw cx b x) [] σ := by
  have hw := op_led (xs (x + nI 1).toNatClampNeg) (xs (x + nI 2).toNatClampNeg) σ hI
  refine L_aload_n dL_law_555 rfl 2 rfl ?_
  refine L_arg (v := nI 1) dL_law_556 dL_law_557 dL_law_558 dL_law_559 dL_law_560 rfl (hin 1 (by decide)) ?_
  refine L_arg (v := nI 2) dL_law_561 dL_law_562 dL_law_563 dL_law_564 dL_law_565 rfl (hin 2 (by decide)) ?_
  refine L_callI (As := [.inl (xs (x + nI 1).toNatClampNeg), .inl (xs (x + nI 2).toNatClampNeg)]) acl8 rfl (by decide) mi_X8_led ml_RL_61 rfl (by decide) (Nat.le_of_ble_eq_true rfl) dL_law_566 (ct_X8_led hA (xs (x + nI 1).toNatClampNeg) (xs (x + nI 2).toNatClampNeg) _ _ hw) (fun r0 σ1 hw => ?_) rfl
  refine L_aload_n dL_law_569 rfl 1 rfl ?_
  refine L_arg (v := nI 1) dL_law_570 dL_law_571 dL_law_572 dL_law_573 dL_law_574 rfl (hin 1 (by decide)) ?_
  refine L_arg (v := nI 2) dL_law_575 dL_law_576 dL_law_577 dL_law_578 dL_law_579 rfl (hin 2 (by decide)) ?_
  refine L_callI (As := [.inl (xs (x + nI 1).toNatClampNeg), .inl (xs (x + nI 2).toNatClampNeg)]) acl9 rfl (by decide) mi_X9_led ml_RL_64 rfl (by decide) (Nat.le_of_ble_eq_true rfl) dL_law_580 (ct_X9_led hA (xs (x + nI 1).toNatClampNeg) (xs (x + nI 2).toNatClampNeg) _ _ hw) (fun r1 σ2 hw => ?_) rfl
  obtain ⟨he, hI2⟩ := hw
  exact L_icmpeq (tgt := 1331) dL_law_583 (by decide) he (back _ hI2)
theorem lc_12 {l : Launch} {cx : CX} {b L : Nat} {xs : Nat → Int32} {x : Int32} {σ : AS} (hA : AD cx) (hI : Inv σ) (hin : ∀ v : Nat, v < 6 → vp_in (x + nI v) L) (back : ∀ σ1, Inv σ1 → LJ l cx b L xs 1331 (lvw cx b x) [] σ1) : LJ l cx b L xs 588 (lvw cx b x) [] σ := by
  have hw := op_judge (xs (x + nI 1).toNatClampNeg) (xs (x + nI 2).toNatClampNeg) σ hI
  refine L_aload_n dL_law_588 rfl 2 rfl ?_
  refine L_arg (v := nI 1) dL_law_589 dL_law_590 dL_law_591 dL_law_592 dL_law_593 rfl (hin 1 (by decide)) ?_
  refine L_arg (v := nI 2) dL_law_594 dL_law_595 dL_law_596 dL_law_597 dL_law_598 rfl (hin 2 (by decide)) ?_
  refine L_callI (As := [.inl (xs (x + nI 1).toNatClampNeg), .inl (xs (x + nI 2).toNatClampNeg)]) acl8 rfl (by decide) mi_X8_judge ml_RL_65 rfl (by decide) (Nat.le_of_ble_eq_true rfl) dL_law_599 (ct_X8_judge hA (xs (x + nI 1).toNatClampNeg) (xs (x + nI 2).toNatClampNeg) _ _ hw) (fun r0 σ1 hw => ?_) rfl
  refine L_aload_n dL_law_602 rfl 1 rfl ?_
  refine L_arg (v := nI 1) dL_law_603 dL_law_604 dL_law_605 dL_law_606 dL_law_607 rfl (hin 1 (by decide)) ?_
  refine L_arg (v := nI 2) dL_law_608 dL_law_609 dL_law_610 dL_law_611 dL_law_612 rfl (hin 2 (by decide)) ?_
  refine L_callI (As := [.inl (xs (x + nI 1).toNatClampNeg), .inl (xs (x + nI 2).toNatClampNeg)]) acl9 rfl (by decide) mi_X9_judge ml_RL_68 rfl (by decide) (Nat.le_of_ble_eq_true rfl) dL_law_613 (ct_X9_judge hA (xs (x + nI 1).toNatClampNeg) (xs (x + nI 2).toNatClampNeg) _ _ hw) (fun r1 σ2 hw => ?_) rfl
  obtain ⟨he, hI2⟩ := hw
  exact L_icmpeq (tgt := 1331) dL_law_616 (by decide) he (back _ hI2)
theorem lc_13 {l : Launch} {cx : CX} {b L : Nat} {xs : Nat → Int32} {x : Int32} {σ : AS} (hA : AD cx) (hI : Inv σ) (hin : ∀ v : Nat, v < 6 → vp_in (x + nI v) L) (back : ∀ σ1, Inv σ1 → LJ l cx b L xs 1331 (lvw cx b x) [] σ1) : LJ l cx b L xs 621 (lvw cx b x) [] σ := by
  have hw := op_match σ hI
  refine L_aload_n dL_law_621 rfl 2 rfl ?_
  refine L_callI (As := []) acl8 rfl (by decide) mi_X8_match ml_RL_69 rfl (by decide) (Nat.le_of_ble_eq_true rfl) dL_law_622 (ct_X8_match hA _ _ hw) (fun r0 σ1 hw => ?_) rfl
  refine L_aload_n dL_law_625 rfl 1 rfl ?_
  refine L_callI (As := []) acl9 rfl (by decide) mi_X9_match ml_RL_72 rfl (by decide) (Nat.le_of_ble_eq_true rfl) dL_law_626 (ct_X9_match hA _ _ hw) (fun r1 σ2 hw => ?_) rfl
  obtain ⟨he, hI2⟩ := hw
  exact L_icmpeq (tgt := 1331) dL_law_629 (by decide) he (back _ hI2)
theorem lc_14 {l : Launch} {cx : CX} {b L : Nat} {xs : Nat → Int32} {x : Int32} {σ : AS} (hA : AD cx) (hI : Inv σ) (hin : ∀ v : Nat, v < 6 → vp_in (x + nI v) L) (back : ∀ σ1, Inv σ1 → LJ l cx b L xs 1331 (lvw cx b x) [] σ1) : LJ l cx b L xs 634 (lvw cx b x) [] σ := by
  have hw := op_then (xs (x + nI 1).toNatClampNeg) (xs (x + nI 2).toNatClampNeg) (xs (x + nI 3).toNatClampNeg) (xs (x + nI 4).toNatClampNeg) σ hI
  refine L_aload_n dL_law_634 rfl 2 rfl ?_
  refine L_arg (v := nI 1) dL_law_635 dL_law_636 dL_law_637 dL_law_638 dL_law_639 rfl (hin 1 (by decide)) ?_
  refine L_arg (v := nI 2) dL_law_640 dL_law_641 dL_law_642 dL_law_643 dL_law_644 rfl (hin 2 (by decide)) ?_
  refine L_arg (v := nI 3) dL_law_645 dL_law_646 dL_law_647 dL_law_648 dL_law_649 rfl (hin 3 (by decide)) ?_
  refine L_arg (v := nI 4) dL_law_650 dL_law_651 dL_law_652 dL_law_653 dL_law_654 rfl (hin 4 (by decide)) ?_
  refine L_callI (As := [.inl (xs (x + nI 1).toNatClampNeg), .inl (xs (x + nI 2).toNatClampNeg), .inl (xs (x + nI 3).toNatClampNeg), .inl (xs (x + nI 4).toNatClampNeg)]) acl8 rfl (by decide) mi_X8_then ml_RL_73 rfl (by decide) (Nat.le_of_ble_eq_true rfl) dL_law_655 (ct_X8_then hA (xs (x + nI 1).toNatClampNeg) (xs (x + nI 2).toNatClampNeg) (xs (x + nI 3).toNatClampNeg) (xs (x + nI 4).toNatClampNeg) _ _ hw) (fun r0 σ1 hw => ?_) rfl
  refine L_aload_n dL_law_658 rfl 1 rfl ?_
  refine L_arg (v := nI 1) dL_law_659 dL_law_660 dL_law_661 dL_law_662 dL_law_663 rfl (hin 1 (by decide)) ?_
  refine L_arg (v := nI 2) dL_law_664 dL_law_665 dL_law_666 dL_law_667 dL_law_668 rfl (hin 2 (by decide)) ?_
  refine L_arg (v := nI 3) dL_law_669 dL_law_670 dL_law_671 dL_law_672 dL_law_673 rfl (hin 3 (by decide)) ?_
  refine L_arg (v := nI 4) dL_law_674 dL_law_675 dL_law_676 dL_law_677 dL_law_678 rfl (hin 4 (by decide)) ?_
  refine L_callI (As := [.inl (xs (x + nI 1).toNatClampNeg), .inl (xs (x + nI 2).toNatClampNeg), .inl (xs (x + nI 3).toNatClampNeg), .inl (xs (x + nI 4).toNatClampNeg)]) acl9 rfl (by decide) mi_X9_then ml_RL_77 rfl (by decide) (Nat.le_of_ble_eq_true rfl) dL_law_679 (ct_X9_then hA (xs (x + nI 1).toNatClampNeg) (xs (x + nI 2).toNatClampNeg) (xs (x + nI 3).toNatClampNeg) (xs (x + nI 4).toNatClampNeg) _ _ hw) (fun r1 σ2 hw => ?_) rfl
  obtain ⟨he, hI2⟩ := hw
  exact L_icmpeq (tgt := 1331) dL_law_682 (by decide) he (back _ hI2)
theorem lc_15 {l : Launch} {cx : CX} {b L : Nat} {xs : Nat → Int32} {x : Int32} {σ : AS} (hA : AD cx) (hI : Inv σ) (hin : ∀ v : Nat, v < 6 → vp_in (x + nI v) L) (back : ∀ σ1, Inv σ1 → LJ l cx b L xs 1331 (lvw cx b x) [] σ1) : LJ l cx b L xs 687 (lvw cx b x) [] σ := by
  have hw := op_quiet (xs (x + nI 1).toNatClampNeg) σ hI
  refine L_aload_n dL_law_687 rfl 2 rfl ?_
  refine L_arg (v := nI 1) dL_law_688 dL_law_689 dL_law_690 dL_law_691 dL_law_692 rfl (hin 1 (by decide)) ?_
  refine L_callI (As := [.inl (xs (x + nI 1).toNatClampNeg)]) acl8 rfl (by decide) mi_X8_quiet ml_RL_78 rfl (by decide) (Nat.le_of_ble_eq_true rfl) dL_law_693 (ct_X8_quiet hA (xs (x + nI 1).toNatClampNeg) _ _ hw) (fun r0 σ1 hw => ?_) rfl
  refine L_aload_n dL_law_696 rfl 1 rfl ?_
  refine L_arg (v := nI 1) dL_law_697 dL_law_698 dL_law_699 dL_law_700 dL_law_701 rfl (hin 1 (by decide)) ?_
  refine L_callI (As := [.inl (xs (x + nI 1).toNatClampNeg)]) acl9 rfl (by decide) mi_X9_quiet ml_RL_81 rfl (by decide) (Nat.le_of_ble_eq_true rfl) dL_law_702 (ct_X9_quiet hA (xs (x + nI 1).toNatClampNeg) _ _ hw) (fun r1 σ2 hw => ?_) rfl
  obtain ⟨he, hI2⟩ := hw
  exact L_icmpeq (tgt := 1331) dL_law_705 (by decide) he (back _ hI2)
theorem lc_16 {l : Launch} {cx : CX} {b L : Nat} {xs : Nat → Int32} {x : Int32} {σ : AS} (hA : AD cx) (hI : Inv σ) (hin : ∀ v : Nat, v < 6 → vp_in (x + nI v) L) (back : ∀ σ1, Inv σ1 → LJ l cx b L xs 1331 (lvw cx b x) [] σ1) : LJ l cx b L xs 710 (lvw cx b x) [] σ := by
  have hw := op_seat (xs (x + nI 1).toNatClampNeg) (xs (x + nI 2).toNatClampNeg) σ hI
  refine L_aload_n dL_law_710 rfl 2 rfl ?_
  refine L_arg (v := nI 1) dL_law_711 dL_law_712 dL_law_713 dL_law_714 dL_law_715 rfl (hin 1 (by decide)) ?_
  refine L_arg (v := nI 2) dL_law_716 dL_law_717 dL_law_718 dL_law_719 dL_law_720 rfl (hin 2 (by decide)) ?_
  refine L_callI (As := [.inl (xs (x + nI 1).toNatClampNeg), .inl (xs (x + nI 2).toNatClampNeg)]) acl8 rfl (by decide) mi_X8_seat ml_RL_82 rfl (by decide) (Nat.le_of_ble_eq_true rfl) dL_law_721 (ct_X8_seat hA (xs (x + nI 1).toNatClampNeg) (xs (x + nI 2).toNatClampNeg) _ _ hw) (fun r0 σ1 hw => ?_) rfl
  refine L_aload_n dL_law_724 rfl 1 rfl ?_
  refine L_arg (v := nI 1) dL_law_725 dL_law_726 dL_law_727 dL_law_728 dL_law_729 rfl (hin 1 (by decide)) ?_
  refine L_arg (v := nI 2) dL_law_730 dL_law_731 dL_law_732 dL_law_733 dL_law_734 rfl (hin 2 (by decide)) ?_
  refine L_callI (As := [.inl (xs (x + nI 1).toNatClampNeg), .inl (xs (x + nI 2).toNatClampNeg)]) acl9 rfl (by decide) mi_X9_seat ml_RL_85 rfl (by decide) (Nat.le_of_ble_eq_true rfl) dL_law_735 (ct_X9_seat hA (xs (x + nI 1).toNatClampNeg) (xs (x + nI 2).toNatClampNeg) _ _ hw) (fun r1 σ2 hw => ?_) rfl
  obtain ⟨he, hI2⟩ := hw
  exact L_icmpeq (tgt := 1331) dL_law_738 (by decide) he (back _ hI2)
theorem lc_17 {l : Launch} {cx : CX} {b L : Nat} {xs : Nat → Int32} {x : Int32} {σ : AS} (hA : AD cx) (hI : Inv σ) (hin : ∀ v : Nat, v < 6 → vp_in (x + nI v) L) (back : ∀ σ1, Inv σ1 → LJ l cx b L xs 1331 (lvw cx b x) [] σ1) : LJ l cx b L xs 743 (lvw cx b x) [] σ := by
  have hw := op_change (xs (x + nI 1).toNatClampNeg) σ hI
  refine L_aload_n dL_law_743 rfl 2 rfl ?_
  refine L_arg (v := nI 1) dL_law_744 dL_law_745 dL_law_746 dL_law_747 dL_law_748 rfl (hin 1 (by decide)) ?_
  refine L_callI (As := [.inl (xs (x + nI 1).toNatClampNeg)]) acl8 rfl (by decide) mi_X8_change ml_RL_86 rfl (by decide) (Nat.le_of_ble_eq_true rfl) dL_law_749 (ct_X8_change hA (xs (x + nI 1).toNatClampNeg) _ _ hw) (fun r0 σ1 hw => ?_) rfl
  refine L_aload_n dL_law_752 rfl 1 rfl ?_
  refine L_arg (v := nI 1) dL_law_753 dL_law_754 dL_law_755 dL_law_756 dL_law_757 rfl (hin 1 (by decide)) ?_
  refine L_callI (As := [.inl (xs (x + nI 1).toNatClampNeg)]) acl9 rfl (by decide) mi_X9_change ml_RL_89 rfl (by decide) (Nat.le_of_ble_eq_true rfl) dL_law_758 (ct_X9_change hA (xs (x + nI 1).toNatClampNeg) _ _ hw) (fun r1 σ2 hw => ?_) rfl
  obtain ⟨he, hI2⟩ := hw
  exact L_icmpeq (tgt := 1331) dL_law_761 (by decide) he (back _ hI2)
theorem lc_18 {l : Launch} {cx : CX} {b L : Nat} {xs : Nat → Int32} {x : Int32} {σ : AS} (hA : AD cx) (hI : Inv σ) (hin : ∀ v : Nat, v < 6 → vp_in (x + nI v) L) (back : ∀ σ1, Inv σ1 → LJ l cx b L xs 1331 (lvw cx b x) [] σ1) : LJ l cx b L xs 766 (lvw cx b x) [] σ := by
  have hw := op_wider (xs (x + nI 1).toNatClampNeg) (xs (x + nI 2).toNatClampNeg) σ hI
  refine L_aload_n dL_law_766 rfl 2 rfl ?_
  refine L_arg (v := nI 1) dL_law_767 dL_law_768 dL_law_769 dL_law_770 dL_law_771 rfl (hin 1 (by decide)) ?_
  refine L_arg (v := nI 2) dL_law_772 dL_law_773 dL_law_774 dL_law_775 dL_law_776 rfl (hin 2 (by decide)) ?_
  refine L_callI (As := [.inl (xs (x + nI 1).toNatClampNeg), .inl (xs (x + nI 2).toNatClampNeg)]) acl8 rfl (by decide) mi_X8_wider ml_RL_90 rfl (by decide) (Nat.le_of_ble_eq_true rfl) dL_law_777 (ct_X8_wider hA (xs (x + nI 1).toNatClampNeg) (xs (x + nI 2).toNatClampNeg) _ _ hw) (fun r0 σ1 hw => ?_) rfl
  refine L_aload_n dL_law_780 rfl 1 rfl ?_
  refine L_arg (v := nI 1) dL_law_781 dL_law_782 dL_law_783 dL_law_784 dL_law_785 rfl (hin 1 (by decide)) ?_
  refine L_arg (v := nI 2) dL_law_786 dL_law_787 dL_law_788 dL_law_789 dL_law_790 rfl (hin 2 (by decide)) ?_
  refine L_callI (As := [.inl (xs (x + nI 1).toNatClampNeg), .inl (xs (x + nI 2).toNatClampNeg)]) acl9 rfl (by decide) mi_X9_wider ml_RL_93 rfl (by decide) (Nat.le_of_ble_eq_true rfl) dL_law_791 (ct_X9_wider hA (xs (x + nI 1).toNatClampNeg) (xs (x + nI 2).toNatClampNeg) _ _ hw) (fun r1 σ2 hw => ?_) rfl
  obtain ⟨he, hI2⟩ := hw
  exact L_icmpeq (tgt := 1331) dL_law_794 (by decide) he (back _ hI2)
theorem lc_19 {l : Launch} {cx : CX} {b L : Nat} {xs : Nat → Int32} {x : Int32} {σ : AS} (hA : AD cx) (hI : Inv σ) (hin : ∀ v : Nat, v < 6 → vp_in (x + nI v) L) (back : ∀ σ1, Inv σ1 → LJ l cx b L xs 1331 (lvw cx b x) [] σ1) : LJ l cx b L xs 799 (lvw cx b x) [] σ := by
  have hw := op_both (xs (x + nI 1).toNatClampNeg) (xs (x + nI 2).toNatClampNeg) σ hI
  refine L_aload_n dL_law_799 rfl 2 rfl ?_
  refine L_arg (v := nI 1) dL_law_800 dL_law_801 dL_law_802 dL_law_803 dL_law_804 rfl (hin 1 (by decide)) ?_
  refine L_arg (v := nI 2) dL_law_805 dL_law_806 dL_law_807 dL_law_808 dL_law_809 rfl (hin 2 (by decide)) ?_
  refine L_callI (As := [.inl (xs (x + nI 1).toNatClampNeg), .inl (xs (x + nI 2).toNatClampNeg)]) acl8 rfl (by decide) mi_X8_both ml_RL_94 rfl (by decide) (Nat.le_of_ble_eq_true rfl) dL_law_810 (ct_X8_both hA (xs (x + nI 1).toNatClampNeg) (xs (x + nI 2).toNatClampNeg) _ _ hw) (fun r0 σ1 hw => ?_) rfl
  refine L_aload_n dL_law_813 rfl 1 rfl ?_
  refine L_arg (v := nI 1) dL_law_814 dL_law_815 dL_law_816 dL_law_817 dL_law_818 rfl (hin 1 (by decide)) ?_
  refine L_arg (v := nI 2) dL_law_819 dL_law_820 dL_law_821 dL_law_822 dL_law_823 rfl (hin 2 (by decide)) ?_
  refine L_callI (As := [.inl (xs (x + nI 1).toNatClampNeg), .inl (xs (x + nI 2).toNatClampNeg)]) acl9 rfl (by decide) mi_X9_both ml_RL_97 rfl (by decide) (Nat.le_of_ble_eq_true rfl) dL_law_824 (ct_X9_both hA (xs (x + nI 1).toNatClampNeg) (xs (x + nI 2).toNatClampNeg) _ _ hw) (fun r1 σ2 hw => ?_) rfl
  obtain ⟨he, hI2⟩ := hw
  exact L_icmpeq (tgt := 1331) dL_law_827 (by decide) he (back _ hI2)
theorem lc_20 {l : Launch} {cx : CX} {b L : Nat} {xs : Nat → Int32} {x : Int32} {σ : AS} (hA : AD cx) (hI : Inv σ) (hin : ∀ v : Nat, v < 6 → vp_in (x + nI v) L) (back : ∀ σ1, Inv σ1 → LJ l cx b L xs 1331 (lvw cx b x) [] σ1) : LJ l cx b L xs 832 (lvw cx b x) [] σ := by
  have hw := op_deals (xs (x + nI 1).toNatClampNeg) (xs (x + nI 2).toNatClampNeg) σ hI
  refine L_aload_n dL_law_832 rfl 2 rfl ?_
  refine L_arg (v := nI 1) dL_law_833 dL_law_834 dL_law_835 dL_law_836 dL_law_837 rfl (hin 1 (by decide)) ?_
  refine L_arg (v := nI 2) dL_law_838 dL_law_839 dL_law_840 dL_law_841 dL_law_842 rfl (hin 2 (by decide)) ?_
  refine L_callI (As := [.inl (xs (x + nI 1).toNatClampNeg), .inl (xs (x + nI 2).toNatClampNeg)]) acl8 rfl (by decide) mi_X8_deals ml_RL_98 rfl (by decide) (Nat.le_of_ble_eq_true rfl) dL_law_843 (ct_X8_deals hA (xs (x + nI 1).toNatClampNeg) (xs (x + nI 2).toNatClampNeg) _ _ hw) (fun r0 σ1 hw => ?_) rfl
  refine L_aload_n dL_law_846 rfl 1 rfl ?_
  refine L_arg (v := nI 1) dL_law_847 dL_law_848 dL_law_849 dL_law_850 dL_law_851 rfl (hin 1 (by decide)) ?_
  refine L_arg (v := nI 2) dL_law_852 dL_law_853 dL_law_854 dL_law_855 dL_law_856 rfl (hin 2 (by decide)) ?_
  refine L_callI (As := [.inl (xs (x + nI 1).toNatClampNeg), .inl (xs (x + nI 2).toNatClampNeg)]) acl9 rfl (by decide) mi_X9_deals ml_RL_101 rfl (by decide) (Nat.le_of_ble_eq_true rfl) dL_law_857 (ct_X9_deals hA (xs (x + nI 1).toNatClampNeg) (xs (x + nI 2).toNatClampNeg) _ _ hw) (fun r1 σ2 hw => ?_) rfl
  obtain ⟨he, hI2⟩ := hw
  exact L_icmpeq (tgt := 1331) dL_law_860 (by decide) he (back _ hI2)
theorem lc_21 {l : Launch} {cx : CX} {b L : Nat} {xs : Nat → Int32} {x : Int32} {σ : AS} (hA : AD cx) (hI : Inv σ) (hin : ∀ v : Nat, v < 6 → vp_in (x + nI v) L) (back : ∀ σ1, Inv σ1 → LJ l cx b L xs 1331 (lvw cx b x) [] σ1) : LJ l cx b L xs 865 (lvw cx b x) [] σ := by
  have hw := op_sell (xs (x + nI 1).toNatClampNeg) σ hI
  refine L_aload_n dL_law_865 rfl 2 rfl ?_
  refine L_arg (v := nI 1) dL_law_866 dL_law_867 dL_law_868 dL_law_869 dL_law_870 rfl (hin 1 (by decide)) ?_
  refine L_callI (As := [.inl (xs (x + nI 1).toNatClampNeg)]) acl8 rfl (by decide) mi_X8_sell ml_RL_102 rfl (by decide) (Nat.le_of_ble_eq_true rfl) dL_law_871 (ct_X8_sell hA (xs (x + nI 1).toNatClampNeg) _ _ hw) (fun r0 σ1 hw => ?_) rfl
  refine L_aload_n dL_law_874 rfl 1 rfl ?_
  refine L_arg (v := nI 1) dL_law_875 dL_law_876 dL_law_877 dL_law_878 dL_law_879 rfl (hin 1 (by decide)) ?_
  refine L_callI (As := [.inl (xs (x + nI 1).toNatClampNeg)]) acl9 rfl (by decide) mi_X9_sell ml_RL_105 rfl (by decide) (Nat.le_of_ble_eq_true rfl) dL_law_880 (ct_X9_sell hA (xs (x + nI 1).toNatClampNeg) _ _ hw) (fun r1 σ2 hw => ?_) rfl
  obtain ⟨he, hI2⟩ := hw
  exact L_icmpeq (tgt := 1331) dL_law_883 (by decide) he (back _ hI2)
theorem lc_22 {l : Launch} {cx : CX} {b L : Nat} {xs : Nat → Int32} {x : Int32} {σ : AS} (hA : AD cx) (hI : Inv σ) (hin : ∀ v : Nat, v < 6 → vp_in (x + nI v) L) (back : ∀ σ1, Inv σ1 → LJ l cx b L xs 1331 (lvw cx b x) [] σ1) : LJ l cx b L xs 888 (lvw cx b x) [] σ := by
  have hw := op_image σ hI
  refine L_aload_n dL_law_888 rfl 2 rfl ?_
  refine L_callI (As := []) acl8 rfl (by decide) mi_X8_image ml_RL_106 rfl (by decide) (Nat.le_of_ble_eq_true rfl) dL_law_889 (ct_X8_image hA _ _ hw) (fun r0 σ1 hw => ?_) rfl
  refine L_aload_n dL_law_892 rfl 1 rfl ?_
  refine L_callI (As := []) acl9 rfl (by decide) mi_X9_image ml_RL_109 rfl (by decide) (Nat.le_of_ble_eq_true rfl) dL_law_893 (ct_X9_image hA _ _ hw) (fun r1 σ2 hw => ?_) rfl
  obtain ⟨he, hI2⟩ := hw
  exact L_icmpeq (tgt := 1331) dL_law_896 (by decide) he (back _ hI2)
theorem lc_23 {l : Launch} {cx : CX} {b L : Nat} {xs : Nat → Int32} {x : Int32} {σ : AS} (hA : AD cx) (hI : Inv σ) (hin : ∀ v : Nat, v < 6 → vp_in (x + nI v) L) (back : ∀ σ1, Inv σ1 → LJ l cx b L xs 1331 (lvw cx b x) [] σ1) : LJ l cx b L xs 901 (lvw cx b x) [] σ := by
  have hw := op_back σ hI
  refine L_aload_n dL_law_901 rfl 2 rfl ?_
  refine L_callI (As := []) acl8 rfl (by decide) mi_X8_back ml_RL_110 rfl (by decide) (Nat.le_of_ble_eq_true rfl) dL_law_902 (ct_X8_back hA _ _ hw) (fun r0 σ1 hw => ?_) rfl
  refine L_aload_n dL_law_905 rfl 1 rfl ?_
  refine L_callI (As := []) acl9 rfl (by decide) mi_X9_back ml_RL_113 rfl (by decide) (Nat.le_of_ble_eq_true rfl) dL_law_906 (ct_X9_back hA _ _ hw) (fun r1 σ2 hw => ?_) rfl
  obtain ⟨he, hI2⟩ := hw
  exact L_icmpeq (tgt := 1331) dL_law_909 (by decide) he (back _ hI2)
theorem lc_24 {l : Launch} {cx : CX} {b L : Nat} {xs : Nat → Int32} {x : Int32} {σ : AS} (hA : AD cx) (hI : Inv σ) (hin : ∀ v : Nat, v < 6 → vp_in (x + nI v) L) (back : ∀ σ1, Inv σ1 → LJ l cx b L xs 1331 (lvw cx b x) [] σ1) : LJ l cx b L xs 914 (lvw cx b x) [] σ := by
  have hw := op_undo σ hI
  refine L_aload_n dL_law_914 rfl 2 rfl ?_
  refine L_callI (As := []) acl8 rfl (by decide) mi_X8_undo ml_RL_114 rfl (by decide) (Nat.le_of_ble_eq_true rfl) dL_law_915 (ct_X8_undo hA _ _ hw) (fun r0 σ1 hw => ?_) rfl
  refine L_aload_n dL_law_918 rfl 1 rfl ?_
  refine L_callI (As := []) acl9 rfl (by decide) mi_X9_undo ml_RL_117 rfl (by decide) (Nat.le_of_ble_eq_true rfl) dL_law_919 (ct_X9_undo hA _ _ hw) (fun r1 σ2 hw => ?_) rfl
  obtain ⟨he, hI2⟩ := hw
  exact L_icmpeq (tgt := 1331) dL_law_922 (by decide) he (back _ hI2)
theorem lc_25 {l : Launch} {cx : CX} {b L : Nat} {xs : Nat → Int32} {x : Int32} {σ : AS} (hA : AD cx) (hI : Inv σ) (hin : ∀ v : Nat, v < 6 → vp_in (x + nI v) L) (back : ∀ σ1, Inv σ1 → LJ l cx b L xs 1331 (lvw cx b x) [] σ1) : LJ l cx b L xs 927 (lvw cx b x) [] σ := by
  have hw := op_redo σ hI
  refine L_aload_n dL_law_927 rfl 2 rfl ?_
  refine L_callI (As := []) acl8 rfl (by decide) mi_X8_redo ml_RL_118 rfl (by decide) (Nat.le_of_ble_eq_true rfl) dL_law_928 (ct_X8_redo hA _ _ hw) (fun r0 σ1 hw => ?_) rfl
  refine L_aload_n dL_law_931 rfl 1 rfl ?_
  refine L_callI (As := []) acl9 rfl (by decide) mi_X9_redo ml_RL_121 rfl (by decide) (Nat.le_of_ble_eq_true rfl) dL_law_932 (ct_X9_redo hA _ _ hw) (fun r1 σ2 hw => ?_) rfl
  obtain ⟨he, hI2⟩ := hw
  exact L_icmpeq (tgt := 1331) dL_law_935 (by decide) he (back _ hI2)
theorem lc_26 {l : Launch} {cx : CX} {b L : Nat} {xs : Nat → Int32} {x : Int32} {σ : AS} (hA : AD cx) (hI : Inv σ) (hin : ∀ v : Nat, v < 6 → vp_in (x + nI v) L) (back : ∀ σ1, Inv σ1 → LJ l cx b L xs 1331 (lvw cx b x) [] σ1) : LJ l cx b L xs 940 (lvw cx b x) [] σ := by
  have hw := op_body (xs (x + nI 1).toNatClampNeg) σ hI
  refine L_aload_n dL_law_940 rfl 2 rfl ?_
  refine L_arg (v := nI 1) dL_law_941 dL_law_942 dL_law_943 dL_law_944 dL_law_945 rfl (hin 1 (by decide)) ?_
  refine L_callI (As := [.inl (xs (x + nI 1).toNatClampNeg)]) acl8 rfl (by decide) mi_X8_body ml_RL_122 rfl (by decide) (Nat.le_of_ble_eq_true rfl) dL_law_946 (ct_X8_body hA (xs (x + nI 1).toNatClampNeg) _ _ hw) (fun r0 σ1 hw => ?_) rfl
  refine L_aload_n dL_law_949 rfl 1 rfl ?_
  refine L_arg (v := nI 1) dL_law_950 dL_law_951 dL_law_952 dL_law_953 dL_law_954 rfl (hin 1 (by decide)) ?_
  refine L_callI (As := [.inl (xs (x + nI 1).toNatClampNeg)]) acl9 rfl (by decide) mi_X9_body ml_RL_125 rfl (by decide) (Nat.le_of_ble_eq_true rfl) dL_law_955 (ct_X9_body hA (xs (x + nI 1).toNatClampNeg) _ _ hw) (fun r1 σ2 hw => ?_) rfl
  obtain ⟨he, hI2⟩ := hw
  exact L_icmpeq (tgt := 1331) dL_law_958 (by decide) he (back _ hI2)
theorem lc_27 {l : Launch} {cx : CX} {b L : Nat} {xs : Nat → Int32} {x : Int32} {σ : AS} (hA : AD cx) (hI : Inv σ) (hin : ∀ v : Nat, v < 6 → vp_in (x + nI v) L) (back : ∀ σ1, Inv σ1 → LJ l cx b L xs 1331 (lvw cx b x) [] σ1) : LJ l cx b L xs 963 (lvw cx b x) [] σ := by
  have hw := op_act (xs (x + nI 1).toNatClampNeg) (xs (x + nI 2).toNatClampNeg) (xs (x + nI 3).toNatClampNeg) σ hI
  refine L_aload_n dL_law_963 rfl 2 rfl ?_
  refine L_arg (v := nI 1) dL_law_964 dL_law_965 dL_law_966 dL_law_967 dL_law_968 rfl (hin 1 (by decide)) ?_
  refine L_arg (v := nI 2) dL_law_969 dL_law_970 dL_law_971 dL_law_972 dL_law_973 rfl (hin 2 (by decide)) ?_
  refine L_arg (v := nI 3) dL_law_974 dL_law_975 dL_law_976 dL_law_977 dL_law_978 rfl (hin 3 (by decide)) ?_
  refine L_callI (As := [.inl (xs (x + nI 1).toNatClampNeg), .inl (xs (x + nI 2).toNatClampNeg), .inl (xs (x + nI 3).toNatClampNeg)]) acl8 rfl (by decide) mi_X8_act ml_RL_126 rfl (by decide) (Nat.le_of_ble_eq_true rfl) dL_law_979 (ct_X8_act hA (xs (x + nI 1).toNatClampNeg) (xs (x + nI 2).toNatClampNeg) (xs (x + nI 3).toNatClampNeg) _ _ hw) (fun r0 σ1 hw => ?_) rfl
  refine L_aload_n dL_law_982 rfl 1 rfl ?_
  refine L_arg (v := nI 1) dL_law_983 dL_law_984 dL_law_985 dL_law_986 dL_law_987 rfl (hin 1 (by decide)) ?_
  refine L_arg (v := nI 2) dL_law_988 dL_law_989 dL_law_990 dL_law_991 dL_law_992 rfl (hin 2 (by decide)) ?_
  refine L_arg (v := nI 3) dL_law_993 dL_law_994 dL_law_995 dL_law_996 dL_law_997 rfl (hin 3 (by decide)) ?_
  refine L_callI (As := [.inl (xs (x + nI 1).toNatClampNeg), .inl (xs (x + nI 2).toNatClampNeg), .inl (xs (x + nI 3).toNatClampNeg)]) acl9 rfl (by decide) mi_X9_act ml_RL_129 rfl (by decide) (Nat.le_of_ble_eq_true rfl) dL_law_998 (ct_X9_act hA (xs (x + nI 1).toNatClampNeg) (xs (x + nI 2).toNatClampNeg) (xs (x + nI 3).toNatClampNeg) _ _ hw) (fun r1 σ2 hw => ?_) rfl
  obtain ⟨he, hI2⟩ := hw
  exact L_icmpeq (tgt := 1331) dL_law_1001 (by decide) he (back _ hI2)
theorem lc_28 {l : Launch} {cx : CX} {b L : Nat} {xs : Nat → Int32} {x : Int32} {σ : AS} (hA : AD cx) (hI : Inv σ) (hin : ∀ v : Nat, v < 6 → vp_in (x + nI v) L) (back : ∀ σ1, Inv σ1 → LJ l cx b L xs 1331 (lvw cx b x) [] σ1) : LJ l cx b L xs 1006 (lvw cx b x) [] σ := by
  have hw := op_trace (xs (x + nI 1).toNatClampNeg) σ hI
  refine L_aload_n dL_law_1006 rfl 2 rfl ?_
  refine L_arg (v := nI 1) dL_law_1007 dL_law_1008 dL_law_1009 dL_law_1010 dL_law_1011 rfl (hin 1 (by decide)) ?_
  refine L_callI (As := [.inl (xs (x + nI 1).toNatClampNeg)]) acl8 rfl (by decide) mi_X8_trace ml_RL_130 rfl (by decide) (Nat.le_of_ble_eq_true rfl) dL_law_1012 (ct_X8_trace hA (xs (x + nI 1).toNatClampNeg) _ _ hw) (fun r0 σ1 hw => ?_) rfl
  refine L_aload_n dL_law_1015 rfl 1 rfl ?_
  refine L_arg (v := nI 1) dL_law_1016 dL_law_1017 dL_law_1018 dL_law_1019 dL_law_1020 rfl (hin 1 (by decide)) ?_
  refine L_callI (As := [.inl (xs (x + nI 1).toNatClampNeg)]) acl9 rfl (by decide) mi_X9_trace ml_RL_133 rfl (by decide) (Nat.le_of_ble_eq_true rfl) dL_law_1021 (ct_X9_trace hA (xs (x + nI 1).toNatClampNeg) _ _ hw) (fun r1 σ2 hw => ?_) rfl
  obtain ⟨he, hI2⟩ := hw
  exact L_icmpeq (tgt := 1331) dL_law_1024 (by decide) he (back _ hI2)
theorem lc_29 {l : Launch} {cx : CX} {b L : Nat} {xs : Nat → Int32} {x : Int32} {σ : AS} (hA : AD cx) (hI : Inv σ) (hin : ∀ v : Nat, v < 6 → vp_in (x + nI v) L) (back : ∀ σ1, Inv σ1 → LJ l cx b L xs 1331 (lvw cx b x) [] σ1) : LJ l cx b L xs 1029 (lvw cx b x) [] σ := by
  have hw := op_keep (xs (x + nI 1).toNatClampNeg) (xs (x + nI 2).toNatClampNeg) σ hI
  refine L_aload_n dL_law_1029 rfl 2 rfl ?_
  refine L_arg (v := nI 1) dL_law_1030 dL_law_1031 dL_law_1032 dL_law_1033 dL_law_1034 rfl (hin 1 (by decide)) ?_
  refine L_arg (v := nI 2) dL_law_1035 dL_law_1036 dL_law_1037 dL_law_1038 dL_law_1039 rfl (hin 2 (by decide)) ?_
  refine L_callI (As := [.inl (xs (x + nI 1).toNatClampNeg), .inl (xs (x + nI 2).toNatClampNeg)]) acl8 rfl (by decide) mi_X8_keep ml_RL_134 rfl (by decide) (Nat.le_of_ble_eq_true rfl) dL_law_1040 (ct_X8_keep hA (xs (x + nI 1).toNatClampNeg) (xs (x + nI 2).toNatClampNeg) _ _ hw) (fun r0 σ1 hw => ?_) rfl
  refine L_aload_n dL_law_1043 rfl 1 rfl ?_
  refine L_arg (v := nI 1) dL_law_1044 dL_law_1045 dL_law_1046 dL_law_1047 dL_law_1048 rfl (hin 1 (by decide)) ?_
  refine L_arg (v := nI 2) dL_law_1049 dL_law_1050 dL_law_1051 dL_law_1052 dL_law_1053 rfl (hin 2 (by decide)) ?_
  refine L_callI (As := [.inl (xs (x + nI 1).toNatClampNeg), .inl (xs (x + nI 2).toNatClampNeg)]) acl9 rfl (by decide) mi_X9_keep ml_RL_137 rfl (by decide) (Nat.le_of_ble_eq_true rfl) dL_law_1054 (ct_X9_keep hA (xs (x + nI 1).toNatClampNeg) (xs (x + nI 2).toNatClampNeg) _ _ hw) (fun r1 σ2 hw => ?_) rfl
  obtain ⟨he, hI2⟩ := hw
  exact L_icmpeq (tgt := 1331) dL_law_1057 (by decide) he (back _ hI2)
theorem lc_30 {l : Launch} {cx : CX} {b L : Nat} {xs : Nat → Int32} {x : Int32} {σ : AS} (hA : AD cx) (hI : Inv σ) (hin : ∀ v : Nat, v < 6 → vp_in (x + nI v) L) (back : ∀ σ1, Inv σ1 → LJ l cx b L xs 1331 (lvw cx b x) [] σ1) : LJ l cx b L xs 1062 (lvw cx b x) [] σ := by
  have hw := op_row (xs (x + nI 1).toNatClampNeg) (xs (x + nI 2).toNatClampNeg) (xs (x + nI 3).toNatClampNeg) σ hI
  refine L_aload_n dL_law_1062 rfl 2 rfl ?_
  refine L_arg (v := nI 1) dL_law_1063 dL_law_1064 dL_law_1065 dL_law_1066 dL_law_1067 rfl (hin 1 (by decide)) ?_
  refine L_arg (v := nI 2) dL_law_1068 dL_law_1069 dL_law_1070 dL_law_1071 dL_law_1072 rfl (hin 2 (by decide)) ?_
  refine L_arg (v := nI 3) dL_law_1073 dL_law_1074 dL_law_1075 dL_law_1076 dL_law_1077 rfl (hin 3 (by decide)) ?_
  refine L_callI (As := [.inl (xs (x + nI 1).toNatClampNeg), .inl (xs (x + nI 2).toNatClampNeg), .inl (xs (x + nI 3).toNatClampNeg)]) acl8 rfl (by decide) mi_X8_row ml_RL_138 rfl (by decide) (Nat.le_of_ble_eq_true rfl) dL_law_1078 (ct_X8_row hA (xs (x + nI 1).toNatClampNeg) (xs (x + nI 2).toNatClampNeg) (xs (x + nI 3).toNatClampNeg) _ _ hw) (fun r0 σ1 hw => ?_) rfl
  refine L_aload_n dL_law_1081 rfl 1 rfl ?_
  refine L_arg (v := nI 1) dL_law_1082 dL_law_1083 dL_law_1084 dL_law_1085 dL_law_1086 rfl (hin 1 (by decide)) ?_
  refine L_arg (v := nI 2) dL_law_1087 dL_law_1088 dL_law_1089 dL_law_1090 dL_law_1091 rfl (hin 2 (by decide)) ?_
  refine L_arg (v := nI 3) dL_law_1092 dL_law_1093 dL_law_1094 dL_law_1095 dL_law_1096 rfl (hin 3 (by decide)) ?_
  refine L_callI (As := [.inl (xs (x + nI 1).toNatClampNeg), .inl (xs (x + nI 2).toNatClampNeg), .inl (xs (x + nI 3).toNatClampNeg)]) acl9 rfl (by decide) mi_X9_row ml_RL_141 rfl (by decide) (Nat.le_of_ble_eq_true rfl) dL_law_1097 (ct_X9_row hA (xs (x + nI 1).toNatClampNeg) (xs (x + nI 2).toNatClampNeg) (xs (x + nI 3).toNatClampNeg) _ _ hw) (fun r1 σ2 hw => ?_) rfl
  obtain ⟨he, hI2⟩ := hw
  exact L_icmpeq (tgt := 1331) dL_law_1100 (by decide) he (back _ hI2)
theorem lc_31 {l : Launch} {cx : CX} {b L : Nat} {xs : Nat → Int32} {x : Int32} {σ : AS} (hA : AD cx) (hI : Inv σ) (hin : ∀ v : Nat, v < 6 → vp_in (x + nI v) L) (back : ∀ σ1, Inv σ1 → LJ l cx b L xs 1331 (lvw cx b x) [] σ1) : LJ l cx b L xs 1105 (lvw cx b x) [] σ := by
  have hw := op_put (xs (x + nI 1).toNatClampNeg) (xs (x + nI 2).toNatClampNeg) ((lsh (xs (x + nI 3).toNatClampNeg).toInt64 (32 : Int32)) ||| ((xs (x + nI 4).toNatClampNeg).toInt64 &&& (4294967295 : Int64))) σ hI
  refine L_aload_n dL_law_1105 rfl 2 rfl ?_
  refine L_arg (v := nI 1) dL_law_1106 dL_law_1107 dL_law_1108 dL_law_1109 dL_law_1110 rfl (hin 1 (by decide)) ?_
  refine L_arg (v := nI 2) dL_law_1111 dL_law_1112 dL_law_1113 dL_law_1114 dL_law_1115 rfl (hin 2 (by decide)) ?_
  refine L_arg (v := nI 3) dL_law_1116 dL_law_1117 dL_law_1118 dL_law_1119 dL_law_1120 rfl (hin 3 (by decide)) ?_
  refine L_i2l dL_law_1121 ?_
  refine L_bipush (v := 32) dL_law_1122 (by decide) ?_
  refine L_lshl dL_law_1124 ?_
  refine L_arg (v := nI 4) dL_law_1125 dL_law_1126 dL_law_1127 dL_law_1128 dL_law_1129 rfl (hin 4 (by decide)) ?_
  refine L_i2l dL_law_1130 ?_
  refine L_ldc2 dL_law_1131 ck_RL_142 ?_
  refine L_land dL_law_1134 ?_
  refine L_lor dL_law_1135 ?_
  refine L_callI (As := [.inl (xs (x + nI 1).toNatClampNeg), .inl (xs (x + nI 2).toNatClampNeg), .inr (.inl ((lsh (xs (x + nI 3).toNatClampNeg).toInt64 (32 : Int32)) ||| ((xs (x + nI 4).toNatClampNeg).toInt64 &&& (4294967295 : Int64))))]) acl8 rfl (by decide) mi_X8_put ml_RL_144 rfl (by decide) (Nat.le_of_ble_eq_true rfl) dL_law_1136 (ct_X8_put hA (xs (x + nI 1).toNatClampNeg) (xs (x + nI 2).toNatClampNeg) ((lsh (xs (x + nI 3).toNatClampNeg).toInt64 (32 : Int32)) ||| ((xs (x + nI 4).toNatClampNeg).toInt64 &&& (4294967295 : Int64))) _ _ hw) (fun r0 σ1 hw => ?_) rfl
  refine L_aload_n dL_law_1139 rfl 1 rfl ?_
  refine L_arg (v := nI 1) dL_law_1140 dL_law_1141 dL_law_1142 dL_law_1143 dL_law_1144 rfl (hin 1 (by decide)) ?_
  refine L_arg (v := nI 2) dL_law_1145 dL_law_1146 dL_law_1147 dL_law_1148 dL_law_1149 rfl (hin 2 (by decide)) ?_
  refine L_arg (v := nI 3) dL_law_1150 dL_law_1151 dL_law_1152 dL_law_1153 dL_law_1154 rfl (hin 3 (by decide)) ?_
  refine L_i2l dL_law_1155 ?_
  refine L_bipush (v := 32) dL_law_1156 (by decide) ?_
  refine L_lshl dL_law_1158 ?_
  refine L_arg (v := nI 4) dL_law_1159 dL_law_1160 dL_law_1161 dL_law_1162 dL_law_1163 rfl (hin 4 (by decide)) ?_
  refine L_i2l dL_law_1164 ?_
  refine L_ldc2 dL_law_1165 ck_RL_142 ?_
  refine L_land dL_law_1168 ?_
  refine L_lor dL_law_1169 ?_
  refine L_callI (As := [.inl (xs (x + nI 1).toNatClampNeg), .inl (xs (x + nI 2).toNatClampNeg), .inr (.inl ((lsh (xs (x + nI 3).toNatClampNeg).toInt64 (32 : Int32)) ||| ((xs (x + nI 4).toNatClampNeg).toInt64 &&& (4294967295 : Int64))))]) acl9 rfl (by decide) mi_X9_put ml_RL_148 rfl (by decide) (Nat.le_of_ble_eq_true rfl) dL_law_1170 (ct_X9_put hA (xs (x + nI 1).toNatClampNeg) (xs (x + nI 2).toNatClampNeg) ((lsh (xs (x + nI 3).toNatClampNeg).toInt64 (32 : Int32)) ||| ((xs (x + nI 4).toNatClampNeg).toInt64 &&& (4294967295 : Int64))) _ _ hw) (fun r1 σ2 hw => ?_) rfl
  obtain ⟨he, hI2⟩ := hw
  exact L_icmpeq (tgt := 1331) dL_law_1173 (by decide) he (back _ hI2)
theorem lc_32 {l : Launch} {cx : CX} {b L : Nat} {xs : Nat → Int32} {x : Int32} {σ : AS} (hA : AD cx) (hI : Inv σ) (hin : ∀ v : Nat, v < 6 → vp_in (x + nI v) L) (back : ∀ σ1, Inv σ1 → LJ l cx b L xs 1331 (lvw cx b x) [] σ1) : LJ l cx b L xs 1178 (lvw cx b x) [] σ := by
  have hw := op_element (xs (x + nI 1).toNatClampNeg) (xs (x + nI 2).toNatClampNeg) σ hI
  refine L_aload_n dL_law_1178 rfl 2 rfl ?_
  refine L_arg (v := nI 1) dL_law_1179 dL_law_1180 dL_law_1181 dL_law_1182 dL_law_1183 rfl (hin 1 (by decide)) ?_
  refine L_arg (v := nI 2) dL_law_1184 dL_law_1185 dL_law_1186 dL_law_1187 dL_law_1188 rfl (hin 2 (by decide)) ?_
  refine L_callJ (As := [.inl (xs (x + nI 1).toNatClampNeg), .inl (xs (x + nI 2).toNatClampNeg)]) acl8 rfl (by decide) mi_X8_element ml_RL_149 rfl (by decide) (Nat.le_of_ble_eq_true rfl) dL_law_1189 (ct_X8_element hA (xs (x + nI 1).toNatClampNeg) (xs (x + nI 2).toNatClampNeg) _ _ hw) (fun r0 σ1 hw => ?_) rfl
  refine L_aload_n dL_law_1192 rfl 1 rfl ?_
  refine L_arg (v := nI 1) dL_law_1193 dL_law_1194 dL_law_1195 dL_law_1196 dL_law_1197 rfl (hin 1 (by decide)) ?_
  refine L_arg (v := nI 2) dL_law_1198 dL_law_1199 dL_law_1200 dL_law_1201 dL_law_1202 rfl (hin 2 (by decide)) ?_
  refine L_callJ (As := [.inl (xs (x + nI 1).toNatClampNeg), .inl (xs (x + nI 2).toNatClampNeg)]) acl9 rfl (by decide) mi_X9_element ml_RL_153 rfl (by decide) (Nat.le_of_ble_eq_true rfl) dL_law_1203 (ct_X9_element hA (xs (x + nI 1).toNatClampNeg) (xs (x + nI 2).toNatClampNeg) _ _ hw) (fun r1 σ2 hw => ?_) rfl
  obtain ⟨he, hI2⟩ := hw
  subst he
  refine L_lcmp dL_law_1206 ?_
  exact L_ifeq (tgt := 1331) dL_law_1207 (by decide) (lg_cmp_self _) (back _ hI2)
theorem lc_33 {l : Launch} {cx : CX} {b L : Nat} {xs : Nat → Int32} {x : Int32} {σ : AS} (hA : AD cx) (hI : Inv σ) (hin : ∀ v : Nat, v < 6 → vp_in (x + nI v) L) (back : ∀ σ1, Inv σ1 → LJ l cx b L xs 1331 (lvw cx b x) [] σ1) : LJ l cx b L xs 1212 (lvw cx b x) [] σ := by
  have hw := op_shift (xs (x + nI 1).toNatClampNeg) (xs (x + nI 2).toNatClampNeg) (xs (x + nI 3).toNatClampNeg) (xs (x + nI 4).toNatClampNeg) (xs (x + nI 5).toNatClampNeg) σ hI
  refine L_aload_n dL_law_1212 rfl 2 rfl ?_
  refine L_arg (v := nI 1) dL_law_1213 dL_law_1214 dL_law_1215 dL_law_1216 dL_law_1217 rfl (hin 1 (by decide)) ?_
  refine L_arg (v := nI 2) dL_law_1218 dL_law_1219 dL_law_1220 dL_law_1221 dL_law_1222 rfl (hin 2 (by decide)) ?_
  refine L_arg (v := nI 3) dL_law_1223 dL_law_1224 dL_law_1225 dL_law_1226 dL_law_1227 rfl (hin 3 (by decide)) ?_
  refine L_arg (v := nI 4) dL_law_1228 dL_law_1229 dL_law_1230 dL_law_1231 dL_law_1232 rfl (hin 4 (by decide)) ?_
  refine L_arg (v := nI 5) dL_law_1233 dL_law_1234 dL_law_1235 dL_law_1236 dL_law_1237 rfl (hin 5 (by decide)) ?_
  refine L_callI (As := [.inl (xs (x + nI 1).toNatClampNeg), .inl (xs (x + nI 2).toNatClampNeg), .inl (xs (x + nI 3).toNatClampNeg), .inl (xs (x + nI 4).toNatClampNeg), .inl (xs (x + nI 5).toNatClampNeg)]) acl8 rfl (by decide) mi_X8_shift ml_RL_154 rfl (by decide) (Nat.le_of_ble_eq_true rfl) dL_law_1238 (ct_X8_shift hA (xs (x + nI 1).toNatClampNeg) (xs (x + nI 2).toNatClampNeg) (xs (x + nI 3).toNatClampNeg) (xs (x + nI 4).toNatClampNeg) (xs (x + nI 5).toNatClampNeg) _ _ hw) (fun r0 σ1 hw => ?_) rfl
  refine L_aload_n dL_law_1241 rfl 1 rfl ?_
  refine L_arg (v := nI 1) dL_law_1242 dL_law_1243 dL_law_1244 dL_law_1245 dL_law_1246 rfl (hin 1 (by decide)) ?_
  refine L_arg (v := nI 2) dL_law_1247 dL_law_1248 dL_law_1249 dL_law_1250 dL_law_1251 rfl (hin 2 (by decide)) ?_
  refine L_arg (v := nI 3) dL_law_1252 dL_law_1253 dL_law_1254 dL_law_1255 dL_law_1256 rfl (hin 3 (by decide)) ?_
  refine L_arg (v := nI 4) dL_law_1257 dL_law_1258 dL_law_1259 dL_law_1260 dL_law_1261 rfl (hin 4 (by decide)) ?_
  refine L_arg (v := nI 5) dL_law_1262 dL_law_1263 dL_law_1264 dL_law_1265 dL_law_1266 rfl (hin 5 (by decide)) ?_
  refine L_callI (As := [.inl (xs (x + nI 1).toNatClampNeg), .inl (xs (x + nI 2).toNatClampNeg), .inl (xs (x + nI 3).toNatClampNeg), .inl (xs (x + nI 4).toNatClampNeg), .inl (xs (x + nI 5).toNatClampNeg)]) acl9 rfl (by decide) mi_X9_shift ml_RL_158 rfl (by decide) (Nat.le_of_ble_eq_true rfl) dL_law_1267 (ct_X9_shift hA (xs (x + nI 1).toNatClampNeg) (xs (x + nI 2).toNatClampNeg) (xs (x + nI 3).toNatClampNeg) (xs (x + nI 4).toNatClampNeg) (xs (x + nI 5).toNatClampNeg) _ _ hw) (fun r1 σ2 hw => ?_) rfl
  obtain ⟨he, hI2⟩ := hw
  exact L_icmpeq (tgt := 1331) dL_law_1270 (by decide) he (back _ hI2)
theorem lc_34 {l : Launch} {cx : CX} {b L : Nat} {xs : Nat → Int32} {x : Int32} {σ : AS} (hA : AD cx) (hI : Inv σ) (hin : ∀ v : Nat, v < 6 → vp_in (x + nI v) L) (back : ∀ σ1, Inv σ1 → LJ l cx b L xs 1331 (lvw cx b x) [] σ1) : LJ l cx b L xs 1275 (lvw cx b x) [] σ := by
  have hw := op_taken (xs (x + nI 1).toNatClampNeg) (xs (x + nI 2).toNatClampNeg) σ hI
  refine L_aload_n dL_law_1275 rfl 2 rfl ?_
  refine L_arg (v := nI 1) dL_law_1276 dL_law_1277 dL_law_1278 dL_law_1279 dL_law_1280 rfl (hin 1 (by decide)) ?_
  refine L_arg (v := nI 2) dL_law_1281 dL_law_1282 dL_law_1283 dL_law_1284 dL_law_1285 rfl (hin 2 (by decide)) ?_
  refine L_callI (As := [.inl (xs (x + nI 1).toNatClampNeg), .inl (xs (x + nI 2).toNatClampNeg)]) acl8 rfl (by decide) mi_X8_taken ml_RL_159 rfl (by decide) (Nat.le_of_ble_eq_true rfl) dL_law_1286 (ct_X8_taken hA (xs (x + nI 1).toNatClampNeg) (xs (x + nI 2).toNatClampNeg) _ _ hw) (fun r0 σ1 hw => ?_) rfl
  refine L_aload_n dL_law_1289 rfl 1 rfl ?_
  refine L_arg (v := nI 1) dL_law_1290 dL_law_1291 dL_law_1292 dL_law_1293 dL_law_1294 rfl (hin 1 (by decide)) ?_
  refine L_arg (v := nI 2) dL_law_1295 dL_law_1296 dL_law_1297 dL_law_1298 dL_law_1299 rfl (hin 2 (by decide)) ?_
  refine L_callI (As := [.inl (xs (x + nI 1).toNatClampNeg), .inl (xs (x + nI 2).toNatClampNeg)]) acl9 rfl (by decide) mi_X9_taken ml_RL_162 rfl (by decide) (Nat.le_of_ble_eq_true rfl) dL_law_1300 (ct_X9_taken hA (xs (x + nI 1).toNatClampNeg) (xs (x + nI 2).toNatClampNeg) _ _ hw) (fun r1 σ2 hw => ?_) rfl
  obtain ⟨he, hI2⟩ := hw
  exact L_icmpeq (tgt := 1331) dL_law_1303 (by decide) he (back _ hI2)
theorem lc_35 {l : Launch} {cx : CX} {b L : Nat} {xs : Nat → Int32} {x : Int32} {σ : AS} (hA : AD cx) (hI : Inv σ) (hin : ∀ v : Nat, v < 6 → vp_in (x + nI v) L) (back : ∀ σ1, Inv σ1 → LJ l cx b L xs 1331 (lvw cx b x) [] σ1) : LJ l cx b L xs 1308 (lvw cx b x) [] σ := by
  have hw := op_count (xs (x + nI 1).toNatClampNeg) σ hI
  refine L_aload_n dL_law_1308 rfl 2 rfl ?_
  refine L_arg (v := nI 1) dL_law_1309 dL_law_1310 dL_law_1311 dL_law_1312 dL_law_1313 rfl (hin 1 (by decide)) ?_
  refine L_callI (As := [.inl (xs (x + nI 1).toNatClampNeg)]) acl8 rfl (by decide) mi_X8_count ml_RL_163 rfl (by decide) (Nat.le_of_ble_eq_true rfl) dL_law_1314 (ct_X8_count hA (xs (x + nI 1).toNatClampNeg) _ _ hw) (fun r0 σ1 hw => ?_) rfl
  refine L_aload_n dL_law_1317 rfl 1 rfl ?_
  refine L_arg (v := nI 1) dL_law_1318 dL_law_1319 dL_law_1320 dL_law_1321 dL_law_1322 rfl (hin 1 (by decide)) ?_
  refine L_callI (As := [.inl (xs (x + nI 1).toNatClampNeg)]) acl9 rfl (by decide) mi_X9_count ml_RL_166 rfl (by decide) (Nat.le_of_ble_eq_true rfl) dL_law_1323 (ct_X9_count hA (xs (x + nI 1).toNatClampNeg) _ _ hw) (fun r1 σ2 hw => ?_) rfl
  obtain ⟨he, hI2⟩ := hw
  exact L_icmpeq (tgt := 1331) dL_law_1326 (by decide) he (back _ hI2)
theorem lc_all {l : Launch} {cx : CX} {b L : Nat} {xs : Nat → Int32} {x : Int32} {σ : AS} (hA : AD cx) (hI : Inv σ) (hin : ∀ v : Nat, v < 6 → vp_in (x + nI v) L) (back : ∀ σ1, Inv σ1 → LJ l cx b L xs 1331 (lvw cx b x) [] σ1) : ∀ j, j < 36 → LJ l cx b L xs (lw_tg.getD j 0) (lvw cx b x) [] σ := by
  intro j hj
  match j, hj with
  | 0, _ => exact lc_0 hA hI hin back
  | 1, _ => exact lc_1 hA hI hin back
  | 2, _ => exact lc_2 hA hI hin back
  | 3, _ => exact lc_3 hA hI hin back
  | 4, _ => exact lc_4 hA hI hin back
  | 5, _ => exact lc_5 hA hI hin back
  | 6, _ => exact lc_6 hA hI hin back
  | 7, _ => exact lc_7 hA hI hin back
  | 8, _ => exact lc_8 hA hI hin back
  | 9, _ => exact lc_9 hA hI hin back
  | 10, _ => exact lc_10 hA hI hin back
  | 11, _ => exact lc_11 hA hI hin back
  | 12, _ => exact lc_12 hA hI hin back
  | 13, _ => exact lc_13 hA hI hin back
  | 14, _ => exact lc_14 hA hI hin back
  | 15, _ => exact lc_15 hA hI hin back
  | 16, _ => exact lc_16 hA hI hin back
  | 17, _ => exact lc_17 hA hI hin back
  | 18, _ => exact lc_18 hA hI hin back
  | 19, _ => exact lc_19 hA hI hin back
  | 20, _ => exact lc_20 hA hI hin back
  | 21, _ => exact lc_21 hA hI hin back
  | 22, _ => exact lc_22 hA hI hin back
  | 23, _ => exact lc_23 hA hI hin back
  | 24, _ => exact lc_24 hA hI hin back
  | 25, _ => exact lc_25 hA hI hin back
  | 26, _ => exact lc_26 hA hI hin back
  | 27, _ => exact lc_27 hA hI hin back
  | 28, _ => exact lc_28 hA hI hin back
  | 29, _ => exact lc_29 hA hI hin back
  | 30, _ => exact lc_30 hA hI hin back
  | 31, _ => exact lc_31 hA hI hin back
  | 32, _ => exact lc_32 hA hI hin back
  | 33, _ => exact lc_33 hA hI hin back
  | 34, _ => exact lc_34 hA hI hin back
  | 35, _ => exact lc_35 hA hI hin back
  | j + 36, hj => omega
theorem lg_cmp_x (x : Int64) : lg_cmp x x = 0 := lg_cmp_self x
theorem law_body {l : Launch} {cx : CX} {b L : Nat} {xs : Nat → Int32} (hA : AD cx) (hL : L ≤ 3072) : ∀ (d i : Nat) (σ : AS), L + 1 ≤ i + d → i ≤ 3078 → Inv σ → LJ l cx b L xs 18 (lvw cx b (nI i)) [] σ := by
  intro d
  have ends : ∀ (i : Nat) (σ : AS), L < i + 6 → i ≤ 3078 → LJ l cx b L xs 18 (lvw cx b (nI i)) [] σ := by
    intro i σ h1 h2
    refine L_iload_n dL_law_18 rfl 0 rfl ?_
    refine L_aload_n dL_law_19 rfl 3 rfl ?_
    refine L_len dL_law_20 ?_
    refine L_bipush (v := 6) dL_law_21 (by decide) ?_
    refine L_isub dL_law_23 ?_
    refine L_icmpgt (tgt := 1337) dL_law_24 (by decide) (fun _ => ?_) (fun h => ?_)
    · refine L_iconst (v := 1) dL_law_1337 (by decide) ?_
      exact L_ret dL_law_1338
    · exact absurd (lw_gt hL h2 h1) h
  induction d with
  | zero => intro i σ h1 h2 hI; exact ends i σ (by omega) h2
  | succ d ih =>
    intro i σ h1 h2 hI
    by_cases h3 : L < i + 6
    · exact ends i σ h3 h2
    · refine L_iload_n dL_law_18 rfl 0 rfl ?_
      refine L_aload_n dL_law_19 rfl 3 rfl ?_
      refine L_len dL_law_20 ?_
      refine L_bipush (v := 6) dL_law_21 (by decide) ?_
      refine L_isub dL_law_23 ?_
      have hin : ∀ v : Nat, v < 6 → vp_in (nI i + nI v) L := by
        intro v hv
        rw [nI_add]
        exact inb_in ⟨nI_pos' (by omega), by rw [nI_clamp (by omega)]; omega⟩
      refine L_icmpgt (tgt := 1337) dL_law_24 (by decide) (fun h => absurd h (lw_ngt hL h2 (by omega))) (fun _ => ?_)
      refine L_aload_n dL_law_27 rfl 3 rfl ?_
      refine L_iload_n dL_law_28 rfl 0 rfl ?_
      refine L_sld dL_law_29 (by have h0 := hin 0 (by decide); rw [nI_add, Nat.add_zero] at h0; exact h0) ?_
      refine L_bipush (v := 63) dL_law_30 (by decide) ?_
      refine L_iand dL_law_32 ?_
      have back : ∀ σ1, Inv σ1 → LJ l cx b L xs 1331 (lvw cx b (nI i)) [] σ1 := by
        intro σ1 hI1
        refine L_iinc (v := nI (i + 6)) (lv' := lvw cx b (nI (i + 6))) dL_law_1331 0 rfl (by show nI i + nI 6 = nI (i + 6); exact nI_add i 6) (by decide) rfl ?_
        refine L_goto (tgt := 18) dL_law_1334 (by decide) ?_
        exact ih (i + 6) σ1 (by omega) (by omega) hI1
      refine L_tsw (n := 36) (tg := lw_tg) (td := 1331) dL_law_33 (by decide) (by decide) (by decide) (fun j hj _ => lc_all hA hI hin back j hj) (back σ hI)

