/-- between calls: both objects are one board -/
def zInv (σ : zPH) : Prop := ∃ (V D : zPH) (t u : Nat), zBD V D ∧ zCI σ V D t u ∧ zMI σ V D
theorem zcase_0 {G : zG} {p : Program} {l : Launch} {e : Env} {s : State} {m : MethodId} {below : List Frame} {meth : Method} {c : Code} {b L : Nat} {xs : Nat → Int32} {Z : State → Prop} {i : Int} {σ : zPH} (C : zLC G p s m c b L xs) (hi : 0 ≤ i ∧ i + 6 ≤ L) (hI : zInv σ) (k : ∀ σ', zInv σ' → LW G p l e s m below meth c b Z i 1206 [] σ') : LW G p l e s m below meth c b Z i 200 [] σ := by
  obtain ⟨V, D, t, u, hB, hC, hM⟩ := hI
  refine LW_x C zd_W_law_200 ?_
  refine LW_arg C (j := 1) hi (by decide) zd_W_law_201 zd_W_law_202 zd_W_law_203 zd_W_law_204 zd_W_law_205 ?_
  refine LW_arg C (j := 2) hi (by decide) zd_W_law_206 zd_W_law_207 zd_W_law_208 zd_W_law_209 zd_W_law_210 ?_
  refine LW_arg C (j := 3) hi (by decide) zd_W_law_211 zd_W_law_212 zd_W_law_213 zd_W_law_214 zd_W_law_215 ?_
  refine LW_arg C (j := 4) hi (by decide) zd_W_law_216 zd_W_law_217 zd_W_law_218 zd_W_law_219 zd_W_law_220 ?_
  refine LW_arg C (j := 5) hi (by decide) zd_W_law_221 zd_W_law_222 zd_W_law_223 zd_W_law_224 zd_W_law_225 ?_
  refine LW_call C (fr' := 1) (q := 0) (as := [iZ (xs (i + 1).toNat).toInt, iZ (xs (i + 2).toNat).toInt, iZ (xs (i + 3).toNat).toInt, iZ (xs (i + 4).toNat).toInt, iZ (xs (i + 5).toNat).toInt]) (st := []) zd_W_law_226 zl_W_13 zk_B_feed zv_B_feed (Nat.le_of_ble_eq_true rfl) (zs_0 _) rfl rfl rfl rfl (Nat.le_of_ble_eq_true rfl) ?_
  refine s_B_feed hB hC (zxI _) (zxI _) (zxI _) (zxI _) (zxI _) (fun σ1 x1 D1 a1 c1 f1 => ?_)
  refine LW_v ?_
  refine LW_m C zd_W_law_229 ?_
  refine LW_arg C (j := 1) hi (by decide) zd_W_law_230 zd_W_law_231 zd_W_law_232 zd_W_law_233 zd_W_law_234 ?_
  refine LW_arg C (j := 2) hi (by decide) zd_W_law_235 zd_W_law_236 zd_W_law_237 zd_W_law_238 zd_W_law_239 ?_
  refine LW_arg C (j := 3) hi (by decide) zd_W_law_240 zd_W_law_241 zd_W_law_242 zd_W_law_243 zd_W_law_244 ?_
  refine LW_arg C (j := 4) hi (by decide) zd_W_law_245 zd_W_law_246 zd_W_law_247 zd_W_law_248 zd_W_law_249 ?_
  refine LW_arg C (j := 5) hi (by decide) zd_W_law_250 zd_W_law_251 zd_W_law_252 zd_W_law_253 zd_W_law_254 ?_
  refine LW_call C (fr' := 1) (q := 58) (as := [iZ (xs (i + 1).toNat).toInt, iZ (xs (i + 2).toNat).toInt, iZ (xs (i + 3).toNat).toInt, iZ (xs (i + 4).toNat).toInt, iZ (xs (i + 5).toNat).toInt]) (st := [iZ x1]) zd_W_law_255 zl_W_17 zk_M_feed zv_M_feed (Nat.le_of_ble_eq_true rfl) (zs_58 _) rfl rfl rfl rfl (Nat.le_of_ble_eq_true rfl) ?_
  refine s_M_feed hB (zMI_B f1 hM) (zxI _) (zxI _) (zxI _) (zxI _) (zxI _) (fun σ2 x2 D2 a2 m2 f2 => ?_)
  refine LW_v ?_
  obtain ⟨rfl, rfl⟩ := zFee_u a1 a2
  refine LW_cmp C zd_W_law_258 ?_
  exact k _ ⟨V, D1, t, u, zFee_D hB a1, zCI_A f2 c1, m2⟩
theorem zcase_1 {G : zG} {p : Program} {l : Launch} {e : Env} {s : State} {m : MethodId} {below : List Frame} {meth : Method} {c : Code} {b L : Nat} {xs : Nat → Int32} {Z : State → Prop} {i : Int} {σ : zPH} (C : zLC G p s m c b L xs) (hi : 0 ≤ i ∧ i + 6 ≤ L) (hI : zInv σ) (k : ∀ σ', zInv σ' → LW G p l e s m below meth c b Z i 1206 [] σ') : LW G p l e s m below meth c b Z i 263 [] σ := by
  obtain ⟨V, D, t, u, hB, hC, hM⟩ := hI
  refine LW_x C zd_W_law_263 ?_
  refine LW_arg C (j := 1) hi (by decide) zd_W_law_264 zd_W_law_265 zd_W_law_266 zd_W_law_267 zd_W_law_268 ?_
  refine LW_call C (fr' := 0) (q := 0) (as := [iZ (xs (i + 1).toNat).toInt]) (st := []) zd_W_law_269 zl_W_18 zk_B_end zv_B_end (Nat.le_of_ble_eq_true rfl) (zs_0 _) rfl rfl rfl rfl (Nat.le_of_ble_eq_true rfl) ?_
  refine s_B_end hC hB (zxI _) (fun σ1 x1 D1 a1 c1 f1 => ?_)
  refine LW_v ?_
  refine LW_m C zd_W_law_272 ?_
  refine LW_arg C (j := 1) hi (by decide) zd_W_law_273 zd_W_law_274 zd_W_law_275 zd_W_law_276 zd_W_law_277 ?_
  refine LW_call C (fr' := 0) (q := 58) (as := [iZ (xs (i + 1).toNat).toInt]) (st := [iZ x1]) zd_W_law_278 zl_W_22 zk_M_end zv_M_end (Nat.le_of_ble_eq_true rfl) (zs_58 _) rfl rfl rfl rfl (Nat.le_of_ble_eq_true rfl) ?_
  refine s_M_end hB (zMI_B f1 hM) (zxI _) (fun σ2 x2 D2 a2 m2 f2 => ?_)
  refine LW_v ?_
  obtain ⟨rfl, rfl⟩ := zEnf_u a1 a2
  refine LW_cmp C zd_W_law_281 ?_
  exact k _ ⟨V, D1, t, u, zEnf_D hB a1, zCI_A f2 c1, m2⟩
theorem zcase_2 {G : zG} {p : Program} {l : Launch} {e : Env} {s : State} {m : MethodId} {below : List Frame} {meth : Method} {c : Code} {b L : Nat} {xs : Nat → Int32} {Z : State → Prop} {i : Int} {σ : zPH} (C : zLC G p s m c b L xs) (hi : 0 ≤ i ∧ i + 6 ≤ L) (hI : zInv σ) (k : ∀ σ', zInv σ' → LW G p l e s m below meth c b Z i 1206 [] σ') : LW G p l e s m below meth c b Z i 286 [] σ := by
  obtain ⟨V, D, t, u, hB, hC, hM⟩ := hI
  refine LW_x C zd_W_law_286 ?_
  refine LW_call C (fr' := 43) (q := 0) (as := []) (st := []) zd_W_law_287 zl_W_23 zk_B_board zv_B_board (Nat.le_of_ble_eq_true rfl) (zs_0 _) rfl rfl rfl rfl (Nat.le_of_ble_eq_true rfl) ?_
  refine s_B_board hB hC  (fun σ1 V1 D1 x1 t1 u1 a1 c1 f1 => ?_)
  refine LW_v ?_
  refine LW_m C zd_W_law_290 ?_
  refine LW_call C (fr' := 8) (q := 58) (as := []) (st := [iZ x1]) zd_W_law_291 zl_W_27 zk_M_board zv_M_board (Nat.le_of_ble_eq_true rfl) (zs_58 _) rfl rfl rfl rfl (Nat.le_of_ble_eq_true rfl) ?_
  refine s_M_board hB (zMI_B f1 hM)  (fun σ2 V2 D2 x2 a2 m2 f2 => ?_)
  refine LW_v ?_
  obtain ⟨rfl, rfl, rfl⟩ := yRes_u a1 a2
  refine LW_cmp C zd_W_law_294 ?_
  exact k _ ⟨V1, D1, t1, u1, (yRes_D hB a1).1, zCI_A f2 c1, m2⟩
theorem zcase_3 {G : zG} {p : Program} {l : Launch} {e : Env} {s : State} {m : MethodId} {below : List Frame} {meth : Method} {c : Code} {b L : Nat} {xs : Nat → Int32} {Z : State → Prop} {i : Int} {σ : zPH} (C : zLC G p s m c b L xs) (hi : 0 ≤ i ∧ i + 6 ≤ L) (hI : zInv σ) (k : ∀ σ', zInv σ' → LW G p l e s m below meth c b Z i 1206 [] σ') : LW G p l e s m below meth c b Z i 299 [] σ := by
  obtain ⟨V, D, t, u, hB, hC, hM⟩ := hI
  refine LW_x C zd_W_law_299 ?_
  refine LW_arg C (j := 1) hi (by decide) zd_W_law_300 zd_W_law_301 zd_W_law_302 zd_W_law_303 zd_W_law_304 ?_
  refine LW_call C (fr' := 0) (q := 0) (as := [iZ (xs (i + 1).toNat).toInt]) (st := []) zd_W_law_305 zl_W_28 zk_B_fault zv_B_fault (Nat.le_of_ble_eq_true rfl) (zs_0 _) rfl rfl rfl rfl (Nat.le_of_ble_eq_true rfl) ?_
  refine s_B_fault hC (zxI _) ?_
  have f1 : zfB σ σ := zfB.rf
  have c1 := hC
  refine LW_v ?_
  generalize hx1 : zFau D (xs (i + 1).toNat).toInt = x1
  refine LW_m C zd_W_law_308 ?_
  refine LW_arg C (j := 1) hi (by decide) zd_W_law_309 zd_W_law_310 zd_W_law_311 zd_W_law_312 zd_W_law_313 ?_
  refine LW_call C (fr' := 0) (q := 58) (as := [iZ (xs (i + 1).toNat).toInt]) (st := [iZ x1]) zd_W_law_314 zl_W_32 zk_M_fault zv_M_fault (Nat.le_of_ble_eq_true rfl) (zs_58 _) rfl rfl rfl rfl (Nat.le_of_ble_eq_true rfl) ?_
  refine s_M_fault hB (zMI_B f1 hM) (zxI _) ?_
  have f2 : zfA σ σ := zfA.rf
  have m2 := zMI_B f1 hM
  refine LW_v ?_
  rw [hx1]
  refine LW_cmp C zd_W_law_317 ?_
  exact k _ ⟨V, D, t, u, hB, zCI_A f2 c1, m2⟩
theorem zcase_4 {G : zG} {p : Program} {l : Launch} {e : Env} {s : State} {m : MethodId} {below : List Frame} {meth : Method} {c : Code} {b L : Nat} {xs : Nat → Int32} {Z : State → Prop} {i : Int} {σ : zPH} (C : zLC G p s m c b L xs) (hi : 0 ≤ i ∧ i + 6 ≤ L) (hI : zInv σ) (k : ∀ σ', zInv σ' → LW G p l e s m below meth c b Z i 1206 [] σ') : LW G p l e s m below meth c b Z i 322 [] σ := by
  obtain ⟨V, D, t, u, hB, hC, hM⟩ := hI
  refine LW_x C zd_W_law_322 ?_
  refine LW_arg C (j := 1) hi (by decide) zd_W_law_323 zd_W_law_324 zd_W_law_325 zd_W_law_326 zd_W_law_327 ?_
  refine LW_call C (fr' := 0) (q := 0) (as := [iZ (xs (i + 1).toNat).toInt]) (st := []) zd_W_law_328 zl_W_33 zk_B_has zv_B_has (Nat.le_of_ble_eq_true rfl) (zs_0 _) rfl rfl rfl rfl (Nat.le_of_ble_eq_true rfl) ?_
  refine s_B_has hC (zxI _) ?_
  have f1 : zfB σ σ := zfB.rf
  have c1 := hC
  refine LW_v ?_
  generalize hx1 : zHss V (xs (i + 1).toNat).toInt = x1
  refine LW_m C zd_W_law_331 ?_
  refine LW_arg C (j := 1) hi (by decide) zd_W_law_332 zd_W_law_333 zd_W_law_334 zd_W_law_335 zd_W_law_336 ?_
  refine LW_call C (fr' := 0) (q := 58) (as := [iZ (xs (i + 1).toNat).toInt]) (st := [iZ x1]) zd_W_law_337 zl_W_36 zk_M_has zv_M_has (Nat.le_of_ble_eq_true rfl) (zs_58 _) rfl rfl rfl rfl (Nat.le_of_ble_eq_true rfl) ?_
  refine s_M_has (zMI_B f1 hM) (zxI _) ?_
  have f2 : zfA σ σ := zfA.rf
  have m2 := zMI_B f1 hM
  refine LW_v ?_
  rw [hx1]
  refine LW_cmp C zd_W_law_340 ?_
  exact k _ ⟨V, D, t, u, hB, zCI_A f2 c1, m2⟩
theorem zcase_5 {G : zG} {p : Program} {l : Launch} {e : Env} {s : State} {m : MethodId} {below : List Frame} {meth : Method} {c : Code} {b L : Nat} {xs : Nat → Int32} {Z : State → Prop} {i : Int} {σ : zPH} (C : zLC G p s m c b L xs) (hi : 0 ≤ i ∧ i + 6 ≤ L) (hI : zInv σ) (k : ∀ σ', zInv σ' → LW G p l e s m below meth c b Z i 1206 [] σ') : LW G p l e s m below meth c b Z i 345 [] σ := by
  obtain ⟨V, D, t, u, hB, hC, hM⟩ := hI
  refine LW_x C zd_W_law_345 ?_
  refine LW_arg C (j := 1) hi (by decide) zd_W_law_346 zd_W_law_347 zd_W_law_348 zd_W_law_349 zd_W_law_350 ?_
  refine LW_arg C (j := 2) hi (by decide) zd_W_law_351 zd_W_law_352 zd_W_law_353 zd_W_law_354 zd_W_law_355 ?_
  refine LW_call C (fr' := 1) (q := 0) (as := [iZ (xs (i + 1).toNat).toInt, iZ (xs (i + 2).toNat).toInt]) (st := []) zd_W_law_356 zl_W_37 zk_B_letter zv_B_letter (Nat.le_of_ble_eq_true rfl) (zs_0 _) rfl rfl rfl rfl (Nat.le_of_ble_eq_true rfl) ?_
  refine s_B_letter hB hC (zxI _) (zxI _) (fun x1 a1 => ?_)
  have f1 : zfB σ σ := zfB.rf
  have c1 := hC
  refine LW_v ?_
  refine LW_m C zd_W_law_359 ?_
  refine LW_arg C (j := 1) hi (by decide) zd_W_law_360 zd_W_law_361 zd_W_law_362 zd_W_law_363 zd_W_law_364 ?_
  refine LW_arg C (j := 2) hi (by decide) zd_W_law_365 zd_W_law_366 zd_W_law_367 zd_W_law_368 zd_W_law_369 ?_
  refine LW_call C (fr' := 2) (q := 58) (as := [iZ (xs (i + 1).toNat).toInt, iZ (xs (i + 2).toNat).toInt]) (st := [iZ x1]) zd_W_law_370 zl_W_41 zk_M_letter zv_M_letter (Nat.le_of_ble_eq_true rfl) (zs_58 _) rfl rfl rfl rfl (Nat.le_of_ble_eq_true rfl) ?_
  refine s_M_letter hB (zMI_B f1 hM) (zxI _) (zxI _) (fun x2 a2 => ?_)
  have f2 : zfA σ σ := zfA.rf
  have m2 := zMI_B f1 hM
  refine LW_v ?_
  obtain rfl := zLet_u a1 a2
  refine LW_cmp C zd_W_law_373 ?_
  exact k _ ⟨V, D, t, u, hB, zCI_A f2 c1, m2⟩
theorem zcase_6 {G : zG} {p : Program} {l : Launch} {e : Env} {s : State} {m : MethodId} {below : List Frame} {meth : Method} {c : Code} {b L : Nat} {xs : Nat → Int32} {Z : State → Prop} {i : Int} {σ : zPH} (C : zLC G p s m c b L xs) (hi : 0 ≤ i ∧ i + 6 ≤ L) (hI : zInv σ) (k : ∀ σ', zInv σ' → LW G p l e s m below meth c b Z i 1206 [] σ') : LW G p l e s m below meth c b Z i 378 [] σ := by
  obtain ⟨V, D, t, u, hB, hC, hM⟩ := hI
  refine LW_x C zd_W_law_378 ?_
  refine LW_arg C (j := 1) hi (by decide) zd_W_law_379 zd_W_law_380 zd_W_law_381 zd_W_law_382 zd_W_law_383 ?_
  refine LW_arg C (j := 2) hi (by decide) zd_W_law_384 zd_W_law_385 zd_W_law_386 zd_W_law_387 zd_W_law_388 ?_
  refine LW_arg C (j := 3) hi (by decide) zd_W_law_389 zd_W_law_390 zd_W_law_391 zd_W_law_392 zd_W_law_393 ?_
  refine LW_call C (fr' := 1) (q := 0) (as := [iZ (xs (i + 1).toNat).toInt, iZ (xs (i + 2).toNat).toInt, iZ (xs (i + 3).toNat).toInt]) (st := []) zd_W_law_394 zl_W_42 zk_B_square zv_B_square (Nat.le_of_ble_eq_true rfl) (zs_0 _) rfl rfl rfl rfl (Nat.le_of_ble_eq_true rfl) ?_
  refine s_B_square hB hC (zxI _) (zxI _) (zxI _) (fun x1 a1 => ?_)
  have f1 : zfB σ σ := zfB.rf
  have c1 := hC
  refine LW_v ?_
  refine LW_m C zd_W_law_397 ?_
  refine LW_arg C (j := 1) hi (by decide) zd_W_law_398 zd_W_law_399 zd_W_law_400 zd_W_law_401 zd_W_law_402 ?_
  refine LW_arg C (j := 2) hi (by decide) zd_W_law_403 zd_W_law_404 zd_W_law_405 zd_W_law_406 zd_W_law_407 ?_
  refine LW_arg C (j := 3) hi (by decide) zd_W_law_408 zd_W_law_409 zd_W_law_410 zd_W_law_411 zd_W_law_412 ?_
  refine LW_call C (fr' := 3) (q := 58) (as := [iZ (xs (i + 1).toNat).toInt, iZ (xs (i + 2).toNat).toInt, iZ (xs (i + 3).toNat).toInt]) (st := [iZ x1]) zd_W_law_413 zl_W_46 zk_M_square zv_M_square (Nat.le_of_ble_eq_true rfl) (zs_58 _) rfl rfl rfl rfl (Nat.le_of_ble_eq_true rfl) ?_
  refine s_M_square hB (zMI_B f1 hM) (zxI _) (zxI _) (zxI _) (fun x2 a2 => ?_)
  have f2 : zfA σ σ := zfA.rf
  have m2 := zMI_B f1 hM
  refine LW_v ?_
  obtain rfl := zSqr_u a1 a2
  refine LW_cmp C zd_W_law_416 ?_
  exact k _ ⟨V, D, t, u, hB, zCI_A f2 c1, m2⟩
theorem zcase_7 {G : zG} {p : Program} {l : Launch} {e : Env} {s : State} {m : MethodId} {below : List Frame} {meth : Method} {c : Code} {b L : Nat} {xs : Nat → Int32} {Z : State → Prop} {i : Int} {σ : zPH} (C : zLC G p s m c b L xs) (hi : 0 ≤ i ∧ i + 6 ≤ L) (hI : zInv σ) (k : ∀ σ', zInv σ' → LW G p l e s m below meth c b Z i 1206 [] σ') : LW G p l e s m below meth c b Z i 421 [] σ := by
  obtain ⟨V, D, t, u, hB, hC, hM⟩ := hI
  refine LW_x C zd_W_law_421 ?_
  refine LW_arg C (j := 1) hi (by decide) zd_W_law_422 zd_W_law_423 zd_W_law_424 zd_W_law_425 zd_W_law_426 ?_
  refine LW_call C (fr' := 7) (q := 0) (as := [iZ (xs (i + 1).toNat).toInt]) (st := []) zd_W_law_427 zl_W_47 zk_B_turn zv_B_turn (Nat.le_of_ble_eq_true rfl) (zs_0 _) rfl rfl rfl rfl (Nat.le_of_ble_eq_true rfl) ?_
  refine s_B_turn hB hC (zxI _) (fun σ1 x1 D1 a1 c1 f1 => ?_)
  refine LW_v ?_
  refine LW_m C zd_W_law_430 ?_
  refine LW_arg C (j := 1) hi (by decide) zd_W_law_431 zd_W_law_432 zd_W_law_433 zd_W_law_434 zd_W_law_435 ?_
  refine LW_call C (fr' := 2) (q := 58) (as := [iZ (xs (i + 1).toNat).toInt]) (st := [iZ x1]) zd_W_law_436 zl_W_50 zk_M_turn zv_M_turn (Nat.le_of_ble_eq_true rfl) (zs_58 _) rfl rfl rfl rfl (Nat.le_of_ble_eq_true rfl) ?_
  refine s_M_turn hB (zMI_B f1 hM) (zxI _) (fun σ2 x2 D2 a2 m2 f2 => ?_)
  refine LW_v ?_
  obtain ⟨rfl, rfl⟩ := zTrn_u a1 a2
  refine LW_cmp C zd_W_law_439 ?_
  exact k _ ⟨V, D1, t, u, zTrn_D hB a1, zCI_A f2 c1, m2⟩
theorem zcase_8 {G : zG} {p : Program} {l : Launch} {e : Env} {s : State} {m : MethodId} {below : List Frame} {meth : Method} {c : Code} {b L : Nat} {xs : Nat → Int32} {Z : State → Prop} {i : Int} {σ : zPH} (C : zLC G p s m c b L xs) (hi : 0 ≤ i ∧ i + 6 ≤ L) (hI : zInv σ) (k : ∀ σ', zInv σ' → LW G p l e s m below meth c b Z i 1206 [] σ') : LW G p l e s m below meth c b Z i 444 [] σ := by
  obtain ⟨V, D, t, u, hB, hC, hM⟩ := hI
  refine LW_x C zd_W_law_444 ?_
  refine LW_call C (fr' := 0) (q := 0) (as := []) (st := []) zd_W_law_445 zl_W_51 zk_B_turned zv_B_turned (Nat.le_of_ble_eq_true rfl) (zs_0 _) rfl rfl rfl rfl (Nat.le_of_ble_eq_true rfl) ?_
  refine s_B_turned hC  ?_
  have f1 : zfB σ σ := zfB.rf
  have c1 := hC
  refine LW_v ?_
  generalize hx1 : D 0 0 = x1
  refine LW_m C zd_W_law_448 ?_
  refine LW_call C (fr' := 0) (q := 58) (as := []) (st := [iZ x1]) zd_W_law_449 zl_W_54 zk_M_turned zv_M_turned (Nat.le_of_ble_eq_true rfl) (zs_58 _) rfl rfl rfl rfl (Nat.le_of_ble_eq_true rfl) ?_
  refine s_M_turned (zMI_B f1 hM)  ?_
  have f2 : zfA σ σ := zfA.rf
  have m2 := zMI_B f1 hM
  refine LW_v ?_
  rw [hx1]
  refine LW_cmp C zd_W_law_452 ?_
  exact k _ ⟨V, D, t, u, hB, zCI_A f2 c1, m2⟩
theorem zcase_9 {G : zG} {p : Program} {l : Launch} {e : Env} {s : State} {m : MethodId} {below : List Frame} {meth : Method} {c : Code} {b L : Nat} {xs : Nat → Int32} {Z : State → Prop} {i : Int} {σ : zPH} (C : zLC G p s m c b L xs) (hi : 0 ≤ i ∧ i + 6 ≤ L) (hI : zInv σ) (k : ∀ σ', zInv σ' → LW G p l e s m below meth c b Z i 1206 [] σ') : LW G p l e s m below meth c b Z i 457 [] σ := by
  obtain ⟨V, D, t, u, hB, hC, hM⟩ := hI
  refine LW_x C zd_W_law_457 ?_
  refine LW_arg C (j := 1) hi (by decide) zd_W_law_458 zd_W_law_459 zd_W_law_460 zd_W_law_461 zd_W_law_462 ?_
  refine LW_call C (fr' := 8) (q := 0) (as := [iZ (xs (i + 1).toNat).toInt]) (st := []) zd_W_law_463 zl_W_55 zk_B_set zv_B_set (Nat.le_of_ble_eq_true rfl) (zs_0 _) rfl rfl rfl rfl (Nat.le_of_ble_eq_true rfl) ?_
  refine s_B_set hB hC (zxI _) (fun σ1 x1 D1 a1 c1 f1 => ?_)
  refine LW_v ?_
  refine LW_m C zd_W_law_466 ?_
  refine LW_arg C (j := 1) hi (by decide) zd_W_law_467 zd_W_law_468 zd_W_law_469 zd_W_law_470 zd_W_law_471 ?_
  refine LW_call C (fr' := 1) (q := 58) (as := [iZ (xs (i + 1).toNat).toInt]) (st := [iZ x1]) zd_W_law_472 zl_W_58 zk_M_set zv_M_set (Nat.le_of_ble_eq_true rfl) (zs_58 _) rfl rfl rfl rfl (Nat.le_of_ble_eq_true rfl) ?_
  refine s_M_set hB (zMI_B f1 hM) (zxI _) (fun σ2 x2 D2 a2 m2 f2 => ?_)
  refine LW_v ?_
  obtain ⟨rfl, rfl⟩ := zStt_u a1 a2
  refine LW_cmp C zd_W_law_475 ?_
  exact k _ ⟨V, D1, t, u, zStt_D hB a1, zCI_A f2 c1, m2⟩
theorem zcase_10 {G : zG} {p : Program} {l : Launch} {e : Env} {s : State} {m : MethodId} {below : List Frame} {meth : Method} {c : Code} {b L : Nat} {xs : Nat → Int32} {Z : State → Prop} {i : Int} {σ : zPH} (C : zLC G p s m c b L xs) (hi : 0 ≤ i ∧ i + 6 ≤ L) (hI : zInv σ) (k : ∀ σ', zInv σ' → LW G p l e s m below meth c b Z i 1206 [] σ') : LW G p l e s m below meth c b Z i 480 [] σ := by
  obtain ⟨V, D, t, u, hB, hC, hM⟩ := hI
  refine LW_x C zd_W_law_480 ?_
  refine LW_call C (fr' := 0) (q := 0) (as := []) (st := []) zd_W_law_481 zl_W_59 zk_B_state zv_B_state (Nat.le_of_ble_eq_true rfl) (zs_0 _) rfl rfl rfl rfl (Nat.le_of_ble_eq_true rfl) ?_
  refine s_B_state hC  ?_
  have f1 : zfB σ σ := zfB.rf
  have c1 := hC
  refine LW_v ?_
  generalize hx1 : D 0 1 = x1
  refine LW_m C zd_W_law_484 ?_
  refine LW_call C (fr' := 0) (q := 58) (as := []) (st := [iZ x1]) zd_W_law_485 zl_W_62 zk_M_state zv_M_state (Nat.le_of_ble_eq_true rfl) (zs_58 _) rfl rfl rfl rfl (Nat.le_of_ble_eq_true rfl) ?_
  refine s_M_state (zMI_B f1 hM)  ?_
  have f2 : zfA σ σ := zfA.rf
  have m2 := zMI_B f1 hM
  refine LW_v ?_
  rw [hx1]
  refine LW_cmp C zd_W_law_488 ?_
  exact k _ ⟨V, D, t, u, hB, zCI_A f2 c1, m2⟩
theorem zcase_11 {G : zG} {p : Program} {l : Launch} {e : Env} {s : State} {m : MethodId} {below : List Frame} {meth : Method} {c : Code} {b L : Nat} {xs : Nat → Int32} {Z : State → Prop} {i : Int} {σ : zPH} (C : zLC G p s m c b L xs) (hi : 0 ≤ i ∧ i + 6 ≤ L) (hI : zInv σ) (k : ∀ σ', zInv σ' → LW G p l e s m below meth c b Z i 1206 [] σ') : LW G p l e s m below meth c b Z i 493 [] σ := by
  obtain ⟨V, D, t, u, hB, hC, hM⟩ := hI
  refine LW_x C zd_W_law_493 ?_
  refine LW_arg C (j := 1) hi (by decide) zd_W_law_494 zd_W_law_495 zd_W_law_496 zd_W_law_497 zd_W_law_498 ?_
  refine LW_arg C (j := 2) hi (by decide) zd_W_law_499 zd_W_law_500 zd_W_law_501 zd_W_law_502 zd_W_law_503 ?_
  refine LW_arg C (j := 3) hi (by decide) zd_W_law_504 zd_W_law_505 zd_W_law_506 zd_W_law_507 zd_W_law_508 ?_
  refine LW_call C (fr' := 6) (q := 0) (as := [iZ (xs (i + 1).toNat).toInt, iZ (xs (i + 2).toNat).toInt, iZ (xs (i + 3).toNat).toInt]) (st := []) zd_W_law_509 zl_W_63 zk_B_light zv_B_light (Nat.le_of_ble_eq_true rfl) (zs_0 _) rfl rfl rfl rfl (Nat.le_of_ble_eq_true rfl) ?_
  refine s_B_light hB hC (zxI _) (zxI _) (zxI _) (fun σ1 x1 a1 c1 f1 => ?_)
  refine LW_v ?_
  refine LW_m C zd_W_law_512 ?_
  refine LW_arg C (j := 1) hi (by decide) zd_W_law_513 zd_W_law_514 zd_W_law_515 zd_W_law_516 zd_W_law_517 ?_
  refine LW_arg C (j := 2) hi (by decide) zd_W_law_518 zd_W_law_519 zd_W_law_520 zd_W_law_521 zd_W_law_522 ?_
  refine LW_arg C (j := 3) hi (by decide) zd_W_law_523 zd_W_law_524 zd_W_law_525 zd_W_law_526 zd_W_law_527 ?_
  refine LW_call C (fr' := 5) (q := 58) (as := [iZ (xs (i + 1).toNat).toInt, iZ (xs (i + 2).toNat).toInt, iZ (xs (i + 3).toNat).toInt]) (st := [iZ x1]) zd_W_law_528 zl_W_66 zk_M_light zv_M_light (Nat.le_of_ble_eq_true rfl) (zs_58 _) rfl rfl rfl rfl (Nat.le_of_ble_eq_true rfl) ?_
  refine s_M_light hB (zMI_B f1 hM) (zxI _) (zxI _) (zxI _) (fun σ2 x2 a2 m2 f2 => ?_)
  refine LW_v ?_
  obtain rfl := zLgt_u a1 a2
  refine LW_cmp C zd_W_law_531 ?_
  exact k _ ⟨V, D, t, u, hB, zCI_A f2 c1, m2⟩
theorem zcase_12 {G : zG} {p : Program} {l : Launch} {e : Env} {s : State} {m : MethodId} {below : List Frame} {meth : Method} {c : Code} {b L : Nat} {xs : Nat → Int32} {Z : State → Prop} {i : Int} {σ : zPH} (C : zLC G p s m c b L xs) (hi : 0 ≤ i ∧ i + 6 ≤ L) (hI : zInv σ) (k : ∀ σ', zInv σ' → LW G p l e s m below meth c b Z i 1206 [] σ') : LW G p l e s m below meth c b Z i 536 [] σ := by
  obtain ⟨V, D, t, u, hB, hC, hM⟩ := hI
  refine LW_x C zd_W_law_536 ?_
  refine LW_arg C (j := 1) hi (by decide) zd_W_law_537 zd_W_law_538 zd_W_law_539 zd_W_law_540 zd_W_law_541 ?_
  refine LW_call C (fr' := 6) (q := 0) (as := [iZ (xs (i + 1).toNat).toInt]) (st := []) zd_W_law_542 zl_W_67 zk_B_lit zv_B_lit (Nat.le_of_ble_eq_true rfl) (zs_0 _) rfl rfl rfl rfl (Nat.le_of_ble_eq_true rfl) ?_
  refine s_B_lit hB hC (zxI _) (fun σ1 x1 a1 c1 f1 => ?_)
  refine LW_v ?_
  refine LW_m C zd_W_law_545 ?_
  refine LW_arg C (j := 1) hi (by decide) zd_W_law_546 zd_W_law_547 zd_W_law_548 zd_W_law_549 zd_W_law_550 ?_
  refine LW_call C (fr' := 5) (q := 58) (as := [iZ (xs (i + 1).toNat).toInt]) (st := [iZ x1]) zd_W_law_551 zl_W_70 zk_M_lit zv_M_lit (Nat.le_of_ble_eq_true rfl) (zs_58 _) rfl rfl rfl rfl (Nat.le_of_ble_eq_true rfl) ?_
  refine s_M_lit hB (zMI_B f1 hM) (zxI _) (fun σ2 x2 a2 m2 f2 => ?_)
  refine LW_v ?_
  obtain rfl := zLtt_u a1 a2
  refine LW_cmp C zd_W_law_554 ?_
  exact k _ ⟨V, D, t, u, hB, zCI_A f2 c1, m2⟩
theorem zcase_13 {G : zG} {p : Program} {l : Launch} {e : Env} {s : State} {m : MethodId} {below : List Frame} {meth : Method} {c : Code} {b L : Nat} {xs : Nat → Int32} {Z : State → Prop} {i : Int} {σ : zPH} (C : zLC G p s m c b L xs) (hi : 0 ≤ i ∧ i + 6 ≤ L) (hI : zInv σ) (k : ∀ σ', zInv σ' → LW G p l e s m below meth c b Z i 1206 [] σ') : LW G p l e s m below meth c b Z i 559 [] σ := by
  obtain ⟨V, D, t, u, hB, hC, hM⟩ := hI
  refine LW_x C zd_W_law_559 ?_
  refine LW_arg C (j := 1) hi (by decide) zd_W_law_560 zd_W_law_561 zd_W_law_562 zd_W_law_563 zd_W_law_564 ?_
  refine LW_call C (fr' := 6) (q := 0) (as := [iZ (xs (i + 1).toNat).toInt]) (st := []) zd_W_law_565 zl_W_71 zk_B_sees zv_B_sees (Nat.le_of_ble_eq_true rfl) (zs_0 _) rfl rfl rfl rfl (Nat.le_of_ble_eq_true rfl) ?_
  refine s_B_sees hB hC (zxI _) (fun σ1 x1 a1 c1 f1 => ?_)
  refine LW_v ?_
  refine LW_m C zd_W_law_568 ?_
  refine LW_arg C (j := 1) hi (by decide) zd_W_law_569 zd_W_law_570 zd_W_law_571 zd_W_law_572 zd_W_law_573 ?_
  refine LW_call C (fr' := 5) (q := 58) (as := [iZ (xs (i + 1).toNat).toInt]) (st := [iZ x1]) zd_W_law_574 zl_W_74 zk_M_sees zv_M_sees (Nat.le_of_ble_eq_true rfl) (zs_58 _) rfl rfl rfl rfl (Nat.le_of_ble_eq_true rfl) ?_
  refine s_M_sees hB (zMI_B f1 hM) (zxI _) (fun σ2 x2 a2 m2 f2 => ?_)
  refine LW_v ?_
  obtain rfl := zSee_u a1 a2
  refine LW_cmp C zd_W_law_577 ?_
  exact k _ ⟨V, D, t, u, hB, zCI_A f2 c1, m2⟩
theorem zcase_14 {G : zG} {p : Program} {l : Launch} {e : Env} {s : State} {m : MethodId} {below : List Frame} {meth : Method} {c : Code} {b L : Nat} {xs : Nat → Int32} {Z : State → Prop} {i : Int} {σ : zPH} (C : zLC G p s m c b L xs) (hi : 0 ≤ i ∧ i + 6 ≤ L) (hI : zInv σ) (k : ∀ σ', zInv σ' → LW G p l e s m below meth c b Z i 1206 [] σ') : LW G p l e s m below meth c b Z i 582 [] σ := by
  obtain ⟨V, D, t, u, hB, hC, hM⟩ := hI
  refine LW_x C zd_W_law_582 ?_
  refine LW_arg C (j := 1) hi (by decide) zd_W_law_583 zd_W_law_584 zd_W_law_585 zd_W_law_586 zd_W_law_587 ?_
  refine LW_call C (fr' := 8) (q := 0) (as := [iZ (xs (i + 1).toNat).toInt]) (st := []) zd_W_law_588 zl_W_75 zk_B_step zv_B_step (Nat.le_of_ble_eq_true rfl) (zs_0 _) rfl rfl rfl rfl (Nat.le_of_ble_eq_true rfl) ?_
  refine s_B_step hB hC (zxI _) (fun σ1 x1 D1 a1 c1 f1 => ?_)
  refine LW_v ?_
  refine LW_m C zd_W_law_591 ?_
  refine LW_arg C (j := 1) hi (by decide) zd_W_law_592 zd_W_law_593 zd_W_law_594 zd_W_law_595 zd_W_law_596 ?_
  refine LW_call C (fr' := 6) (q := 58) (as := [iZ (xs (i + 1).toNat).toInt]) (st := [iZ x1]) zd_W_law_597 zl_W_78 zk_M_step zv_M_step (Nat.le_of_ble_eq_true rfl) (zs_58 _) rfl rfl rfl rfl (Nat.le_of_ble_eq_true rfl) ?_
  refine s_M_step hB (zMI_B f1 hM) (zxI _) (fun σ2 x2 D2 a2 m2 f2 => ?_)
  refine LW_v ?_
  obtain ⟨rfl, rfl⟩ := zStp_u a1 a2
  refine LW_cmp C zd_W_law_600 ?_
  exact k _ ⟨V, D1, t, u, zStp_D hB a1, zCI_A f2 c1, m2⟩
theorem zcase_15 {G : zG} {p : Program} {l : Launch} {e : Env} {s : State} {m : MethodId} {below : List Frame} {meth : Method} {c : Code} {b L : Nat} {xs : Nat → Int32} {Z : State → Prop} {i : Int} {σ : zPH} (C : zLC G p s m c b L xs) (hi : 0 ≤ i ∧ i + 6 ≤ L) (hI : zInv σ) (k : ∀ σ', zInv σ' → LW G p l e s m below meth c b Z i 1206 [] σ') : LW G p l e s m below meth c b Z i 605 [] σ := by
  obtain ⟨V, D, t, u, hB, hC, hM⟩ := hI
  refine LW_x C zd_W_law_605 ?_
  refine LW_arg C (j := 1) hi (by decide) zd_W_law_606 zd_W_law_607 zd_W_law_608 zd_W_law_609 zd_W_law_610 ?_
  refine LW_call C (fr' := 7) (q := 0) (as := [iZ (xs (i + 1).toNat).toInt]) (st := []) zd_W_law_611 zl_W_79 zk_B_round zv_B_round (Nat.le_of_ble_eq_true rfl) (zs_0 _) rfl rfl rfl rfl (Nat.le_of_ble_eq_true rfl) ?_
  refine s_B_round hB hC (zxI _) (fun σ1 x1 a1 c1 f1 => ?_)
  refine LW_v ?_
  refine LW_m C zd_W_law_614 ?_
  refine LW_arg C (j := 1) hi (by decide) zd_W_law_615 zd_W_law_616 zd_W_law_617 zd_W_law_618 zd_W_law_619 ?_
  refine LW_call C (fr' := 7) (q := 58) (as := [iZ (xs (i + 1).toNat).toInt]) (st := [iZ x1]) zd_W_law_620 zl_W_82 zk_M_round zv_M_round (Nat.le_of_ble_eq_true rfl) (zs_58 _) rfl rfl rfl rfl (Nat.le_of_ble_eq_true rfl) ?_
  refine s_M_round hB (zMI_B f1 hM) (zxI _) (fun σ2 x2 a2 m2 f2 => ?_)
  refine LW_v ?_
  obtain rfl := zRnd_u a1 a2
  refine LW_cmp C zd_W_law_623 ?_
  exact k _ ⟨V, D, t, u, hB, zCI_A f2 c1, m2⟩
theorem zcase_16 {G : zG} {p : Program} {l : Launch} {e : Env} {s : State} {m : MethodId} {below : List Frame} {meth : Method} {c : Code} {b L : Nat} {xs : Nat → Int32} {Z : State → Prop} {i : Int} {σ : zPH} (C : zLC G p s m c b L xs) (hi : 0 ≤ i ∧ i + 6 ≤ L) (hI : zInv σ) (k : ∀ σ', zInv σ' → LW G p l e s m below meth c b Z i 1206 [] σ') : LW G p l e s m below meth c b Z i 628 [] σ := by
  obtain ⟨V, D, t, u, hB, hC, hM⟩ := hI
  refine LW_x C zd_W_law_628 ?_
  refine LW_arg C (j := 1) hi (by decide) zd_W_law_629 zd_W_law_630 zd_W_law_631 zd_W_law_632 zd_W_law_633 ?_
  refine LW_call C (fr' := 6) (q := 0) (as := [iZ (xs (i + 1).toNat).toInt]) (st := []) zd_W_law_634 zl_W_83 zk_B_rests zv_B_rests (Nat.le_of_ble_eq_true rfl) (zs_0 _) rfl rfl rfl rfl (Nat.le_of_ble_eq_true rfl) ?_
  refine s_B_rests hB hC (zxI _) (fun σ1 x1 a1 c1 f1 => ?_)
  refine LW_v ?_
  refine LW_m C zd_W_law_637 ?_
  refine LW_arg C (j := 1) hi (by decide) zd_W_law_638 zd_W_law_639 zd_W_law_640 zd_W_law_641 zd_W_law_642 ?_
  refine LW_call C (fr' := 6) (q := 58) (as := [iZ (xs (i + 1).toNat).toInt]) (st := [iZ x1]) zd_W_law_643 zl_W_86 zk_M_rests zv_M_rests (Nat.le_of_ble_eq_true rfl) (zs_58 _) rfl rfl rfl rfl (Nat.le_of_ble_eq_true rfl) ?_
  refine s_M_rests hB (zMI_B f1 hM) (zxI _) (fun σ2 x2 a2 m2 f2 => ?_)
  refine LW_v ?_
  obtain rfl := zRes_u a1 a2
  refine LW_cmp C zd_W_law_646 ?_
  exact k _ ⟨V, D, t, u, hB, zCI_A f2 c1, m2⟩
theorem zcase_17 {G : zG} {p : Program} {l : Launch} {e : Env} {s : State} {m : MethodId} {below : List Frame} {meth : Method} {c : Code} {b L : Nat} {xs : Nat → Int32} {Z : State → Prop} {i : Int} {σ : zPH} (C : zLC G p s m c b L xs) (hi : 0 ≤ i ∧ i + 6 ≤ L) (hI : zInv σ) (k : ∀ σ', zInv σ' → LW G p l e s m below meth c b Z i 1206 [] σ') : LW G p l e s m below meth c b Z i 651 [] σ := by
  obtain ⟨V, D, t, u, hB, hC, hM⟩ := hI
  refine LW_x C zd_W_law_651 ?_
  refine LW_arg C (j := 1) hi (by decide) zd_W_law_652 zd_W_law_653 zd_W_law_654 zd_W_law_655 zd_W_law_656 ?_
  refine LW_call C (fr' := 7) (q := 0) (as := [iZ (xs (i + 1).toNat).toInt]) (st := []) zd_W_law_657 zl_W_87 zk_B_drawn zv_B_drawn (Nat.le_of_ble_eq_true rfl) (zs_0 _) rfl rfl rfl rfl (Nat.le_of_ble_eq_true rfl) ?_
  refine s_B_drawn hB hC (zxI _) (fun σ1 x1 a1 c1 f1 => ?_)
  refine LW_v ?_
  refine LW_m C zd_W_law_660 ?_
  refine LW_arg C (j := 1) hi (by decide) zd_W_law_661 zd_W_law_662 zd_W_law_663 zd_W_law_664 zd_W_law_665 ?_
  refine LW_call C (fr' := 7) (q := 58) (as := [iZ (xs (i + 1).toNat).toInt]) (st := [iZ x1]) zd_W_law_666 zl_W_90 zk_M_drawn zv_M_drawn (Nat.le_of_ble_eq_true rfl) (zs_58 _) rfl rfl rfl rfl (Nat.le_of_ble_eq_true rfl) ?_
  refine s_M_drawn hB (zMI_B f1 hM) (zxI _) (fun σ2 x2 a2 m2 f2 => ?_)
  refine LW_v ?_
  obtain rfl := zDrw_u a1 a2
  refine LW_cmp C zd_W_law_669 ?_
  exact k _ ⟨V, D, t, u, hB, zCI_A f2 c1, m2⟩
theorem zcase_18 {G : zG} {p : Program} {l : Launch} {e : Env} {s : State} {m : MethodId} {below : List Frame} {meth : Method} {c : Code} {b L : Nat} {xs : Nat → Int32} {Z : State → Prop} {i : Int} {σ : zPH} (C : zLC G p s m c b L xs) (hi : 0 ≤ i ∧ i + 6 ≤ L) (hI : zInv σ) (k : ∀ σ', zInv σ' → LW G p l e s m below meth c b Z i 1206 [] σ') : LW G p l e s m below meth c b Z i 674 [] σ := by
  obtain ⟨V, D, t, u, hB, hC, hM⟩ := hI
  refine LW_x C zd_W_law_674 ?_
  refine LW_arg C (j := 1) hi (by decide) zd_W_law_675 zd_W_law_676 zd_W_law_677 zd_W_law_678 zd_W_law_679 ?_
  refine LW_arg C (j := 2) hi (by decide) zd_W_law_680 zd_W_law_681 zd_W_law_682 zd_W_law_683 zd_W_law_684 ?_
  refine LW_call C (fr' := 1) (q := 0) (as := [iZ (xs (i + 1).toNat).toInt, iZ (xs (i + 2).toNat).toInt]) (st := []) zd_W_law_685 zl_W_91 zk_B_wish zv_B_wish (Nat.le_of_ble_eq_true rfl) (zs_0 _) rfl rfl rfl rfl (Nat.le_of_ble_eq_true rfl) ?_
  refine s_B_wish hB hC (zxI _) (zxI _) (fun σ1 x1 D1 a1 c1 g1 g2 => ?_)
  have f1 : zfB σ σ1 := fun q hq => g1 q (by omega)
  refine LW_v ?_
  refine LW_m C zd_W_law_688 ?_
  refine LW_arg C (j := 1) hi (by decide) zd_W_law_689 zd_W_law_690 zd_W_law_691 zd_W_law_692 zd_W_law_693 ?_
  refine LW_arg C (j := 2) hi (by decide) zd_W_law_694 zd_W_law_695 zd_W_law_696 zd_W_law_697 zd_W_law_698 ?_
  refine LW_call C (fr' := 2) (q := 58) (as := [iZ (xs (i + 1).toNat).toInt, iZ (xs (i + 2).toNat).toInt]) (st := [iZ x1]) zd_W_law_699 zl_W_95 zk_M_wish zv_M_wish (Nat.le_of_ble_eq_true rfl) (zs_58 _) rfl rfl rfl rfl (Nat.le_of_ble_eq_true rfl) ?_
  refine s_M_wish hB (zMI_B f1 hM) (zxI _) (zxI _) (fun σ2 x2 D2 a2 m2 f2 => ?_)
  refine LW_v ?_
  obtain ⟨rfl, rfl⟩ := zWsh_u a1 a2
  refine LW_cmp C zd_W_law_702 ?_
  exact k _ ⟨V, D1, t, u, zWsh_D hB a1, zCI_A f2 c1, m2⟩
