/-! the law's cases -/
def mlaw : Mt := (yL_law, cL_law, 4, some .boolean)
def Scr (E : Ev) (fr : Fr) (b L : Nat) (xs : Nat → Int32) : Prop := va_X b L xs (fS fr) (fS fr).heap ∧ b < (fS fr).heap.size ∧ ¬ eX E b
def lvL (E : Ev) (b j : Nat) : List (Nat × Value) := [(3, .int (nI (6 * j))), (2, .ref (eA E 49)), (1, .ref (eA E 0)), (0, .ref b)]
theorem gw_sld {E : Ev} {mt : Mt} {d : Nat} {fr : Fr} {nL pc pc' : Nat} {lv : List (Nat × Value)} {rest : List Value} {σ : Sg} {b L j : Nat} {xs : Nat → Int32} {i : Int32} (cx : Cx E mt d fr) (S : Scr E fr b L xs) (hin : vp_in i L) (hj : i.toNatClampNeg = j) (hd : decode mt.2.1 pc = .ok (.iaload, 1)) (hp : pc + 1 = pc') (k : GW E fr nL pc' lv (.int (xs j) :: rest) σ) : GW E fr nL pc lv (.int i :: .ref b :: rest) σ := by
  subst hp
  subst hj
  exact fun H locs ls hP hS hl => va_sld cx.1 cx.2.1 S.1 S.2.1 S.2.2 hS hin hd (k H locs ls hP hS hl)
theorem gw_slen {E : Ev} {mt : Mt} {d : Nat} {fr : Fr} {nL pc pc' : Nat} {lv : List (Nat × Value)} {rest : List Value} {σ : Sg} {b L : Nat} {xs : Nat → Int32} (cx : Cx E mt d fr) (S : Scr E fr b L xs) (hd : decode mt.2.1 pc = .ok (.arraylength, 1)) (hp : pc + 1 = pc') (k : GW E fr nL pc' lv (.int (nI L) :: rest) σ) : GW E fr nL pc lv (.ref b :: rest) σ := by
  subst hp
  exact fun H locs ls hP hS hl => va_slen cx.1 cx.2.1 S.1 S.2.1 S.2.2 hS hd (k H locs ls hP hS hl)
theorem vp_nI {k n : Nat} (h : k < n) (hn : n < 2 ^ 31) : vp_in (nI k) n := vp_in_iff.mpr (by rw [nI_toInt (by omega)]; omega)
theorem gw_arg {E : Ev} {fr : Fr} {rest : List Value} {σ : Sg} {b L j pc : Nat} {xs : Nat → Int32} (k : Nat) (cx : Cx E mlaw 12 fr) (S : Scr E fr b L xs) (hL : L ≤ 3072) (hk : 6 * j + k < L) (hc : Int32.ofInt (k : Int) = nI k) (d0 : decode cL_law pc = .ok (.aload_n 0, 1)) (d1 : decode cL_law (pc + 1) = .ok (.iload_n 3, 1)) (d2 : decode cL_law (pc + 2) = .ok (.iconst (k : Int), 1)) (d3 : decode cL_law (pc + 3) = .ok (.iadd, 1)) (d4 : decode cL_law (pc + 4) = .ok (.iaload, 1)) (kk : GW E fr 4 (pc + 5) (lvL E b j) (.int (xs (6 * j + k)) :: rest) σ) : GW E fr 4 pc (lvL E b j) rest σ := by
  refine gw_aload_n cx 3 rfl rfl d0 rfl ?_
  refine gw_iload_n cx 0 rfl rfl d1 rfl ?_
  refine gw_iconst (v := nI k) cx hc d2 rfl ?_
  refine gw_iadd cx d3 rfl ?_
  rw [nI_add]
  exact gw_sld cx S (vp_nI hk (by omega)) (cl_nI (by omega)) d4 rfl kk
theorem lg_rf (r : Int64) : lg_cmp r r = 0 := by
  unfold lg_cmp
  have h : ¬ r < r := by rw [Int64.lt_iff_toInt_lt]; omega
  simp [h]
theorem la_say {E : Ev} {fr : Fr} {σ : Sg} {b L j : Nat} {xs : Nat → Int32} (cx : Cx E mlaw 12 fr) (S : Scr E fr b L xs) (hL : L ≤ 3072) (hj : j < 512) (h6 : 6 * j + 6 ≤ L) (hI : Inv j σ) (kk : ∀ σ2, Inv (j + 1) σ2 → GW E fr 4 1396 (lvL E b j) [] σ2) : GW E fr 4 212 (lvL E b j) [] σ := by
  obtain ⟨r, σ1, σ2, h1, h2, hI2⟩ := op_say hI (xs (6 * j + 1)) (xs (6 * j + 2)) (xs (6 * j + 3))
  refine gw_aload_n cx 2 rfl rfl dL_law_212 rfl ?_
  refine gw_arg (pc := 213) 1 cx S hL (by omega) (by decide) dL_law_213 dL_law_214 dL_law_215 dL_law_216 dL_law_217 ?_
  refine gw_arg (pc := 218) 2 cx S hL (by omega) (by decide) dL_law_218 dL_law_219 dL_law_220 dL_law_221 dL_law_222 ?_
  refine gw_arg (pc := 223) 3 cx S hL (by omega) (by decide) dL_law_223 dL_law_224 dL_law_225 dL_law_226 dL_law_227 ?_
  refine gw_cV (rest := []) (av := [.int (xs (6 * j + 1)), .int (xs (6 * j + 2)), .int (xs (6 * j + 3))]) (kc := 0) cx (k_X4_say E h1) at0 (by decide) lk_L_13 dL_law_228 rfl (Nat.le_of_ble_eq_true rfl) rfl ?_
  show GW E fr 4 231 (lvL E b j) [.int r] σ1
  refine gw_aload_n cx 1 rfl rfl dL_law_231 rfl ?_
  refine gw_arg (pc := 232) 1 cx S hL (by omega) (by decide) dL_law_232 dL_law_233 dL_law_234 dL_law_235 dL_law_236 ?_
  refine gw_arg (pc := 237) 2 cx S hL (by omega) (by decide) dL_law_237 dL_law_238 dL_law_239 dL_law_240 dL_law_241 ?_
  refine gw_arg (pc := 242) 3 cx S hL (by omega) (by decide) dL_law_242 dL_law_243 dL_law_244 dL_law_245 dL_law_246 ?_
  refine gw_cV (rest := [.int r]) (av := [.int (xs (6 * j + 1)), .int (xs (6 * j + 2)), .int (xs (6 * j + 3))]) (kc := 49) cx (k_X5_say E h2) at49 (by decide) lk_L_17 dL_law_247 rfl (Nat.le_of_ble_eq_true rfl) rfl ?_
  show GW E fr 4 250 (lvL E b j) [.int r, .int r] σ2
  exact gw_ic_eq_t cx rfl dL_law_250 (by decide) (kk σ2 hI2)
theorem la_said {E : Ev} {fr : Fr} {σ : Sg} {b L j : Nat} {xs : Nat → Int32} (cx : Cx E mlaw 12 fr) (S : Scr E fr b L xs) (hL : L ≤ 3072) (hj : j < 512) (h6 : 6 * j + 6 ≤ L) (hI : Inv j σ) (kk : ∀ σ2, Inv (j + 1) σ2 → GW E fr 4 1396 (lvL E b j) [] σ2) : GW E fr 4 255 (lvL E b j) [] σ := by
  obtain ⟨r, σ1, σ2, h1, h2, hI2⟩ := op_said hI (xs (6 * j + 1))
  refine gw_aload_n cx 2 rfl rfl dL_law_255 rfl ?_
  refine gw_arg (pc := 256) 1 cx S hL (by omega) (by decide) dL_law_256 dL_law_257 dL_law_258 dL_law_259 dL_law_260 ?_
  refine gw_cV (rest := []) (av := [.int (xs (6 * j + 1))]) (kc := 0) cx (k_X4_said E h1) at0 (by decide) lk_L_18 dL_law_261 rfl (Nat.le_of_ble_eq_true rfl) rfl ?_
  show GW E fr 4 264 (lvL E b j) [.int r] σ1
  refine gw_aload_n cx 1 rfl rfl dL_law_264 rfl ?_
  refine gw_arg (pc := 265) 1 cx S hL (by omega) (by decide) dL_law_265 dL_law_266 dL_law_267 dL_law_268 dL_law_269 ?_
  refine gw_cV (rest := [.int r]) (av := [.int (xs (6 * j + 1))]) (kc := 49) cx (k_X5_said E h2) at49 (by decide) lk_L_22 dL_law_270 rfl (Nat.le_of_ble_eq_true rfl) rfl ?_
  show GW E fr 4 273 (lvL E b j) [.int r, .int r] σ2
  exact gw_ic_eq_t cx rfl dL_law_273 (by decide) (kk σ2 hI2)
theorem la_person {E : Ev} {fr : Fr} {σ : Sg} {b L j : Nat} {xs : Nat → Int32} (cx : Cx E mlaw 12 fr) (S : Scr E fr b L xs) (hL : L ≤ 3072) (hj : j < 512) (h6 : 6 * j + 6 ≤ L) (hI : Inv j σ) (kk : ∀ σ2, Inv (j + 1) σ2 → GW E fr 4 1396 (lvL E b j) [] σ2) : GW E fr 4 278 (lvL E b j) [] σ := by
  obtain ⟨r, σ1, σ2, h1, h2, hI2⟩ := op_person hI (xs (6 * j + 1)) (xs (6 * j + 2))
  refine gw_aload_n cx 2 rfl rfl dL_law_278 rfl ?_
  refine gw_arg (pc := 279) 1 cx S hL (by omega) (by decide) dL_law_279 dL_law_280 dL_law_281 dL_law_282 dL_law_283 ?_
  refine gw_arg (pc := 284) 2 cx S hL (by omega) (by decide) dL_law_284 dL_law_285 dL_law_286 dL_law_287 dL_law_288 ?_
  refine gw_cV (rest := []) (av := [.int (xs (6 * j + 1)), .int (xs (6 * j + 2))]) (kc := 0) cx (k_X4_person E h1) at0 (by decide) lk_L_23 dL_law_289 rfl (Nat.le_of_ble_eq_true rfl) rfl ?_
  show GW E fr 4 292 (lvL E b j) [.int r] σ1
  refine gw_aload_n cx 1 rfl rfl dL_law_292 rfl ?_
  refine gw_arg (pc := 293) 1 cx S hL (by omega) (by decide) dL_law_293 dL_law_294 dL_law_295 dL_law_296 dL_law_297 ?_
  refine gw_arg (pc := 298) 2 cx S hL (by omega) (by decide) dL_law_298 dL_law_299 dL_law_300 dL_law_301 dL_law_302 ?_
  refine gw_cV (rest := [.int r]) (av := [.int (xs (6 * j + 1)), .int (xs (6 * j + 2))]) (kc := 49) cx (k_X5_person E h2) at49 (by decide) lk_L_27 dL_law_303 rfl (Nat.le_of_ble_eq_true rfl) rfl ?_
  show GW E fr 4 306 (lvL E b j) [.int r, .int r] σ2
  exact gw_ic_eq_t cx rfl dL_law_306 (by decide) (kk σ2 hI2)
theorem la_of {E : Ev} {fr : Fr} {σ : Sg} {b L j : Nat} {xs : Nat → Int32} (cx : Cx E mlaw 12 fr) (S : Scr E fr b L xs) (hL : L ≤ 3072) (hj : j < 512) (h6 : 6 * j + 6 ≤ L) (hI : Inv j σ) (kk : ∀ σ2, Inv (j + 1) σ2 → GW E fr 4 1396 (lvL E b j) [] σ2) : GW E fr 4 311 (lvL E b j) [] σ := by
  obtain ⟨r, σ1, σ2, h1, h2, hI2⟩ := op_of hI (xs (6 * j + 1)) (xs (6 * j + 2))
  refine gw_aload_n cx 2 rfl rfl dL_law_311 rfl ?_
  refine gw_arg (pc := 312) 1 cx S hL (by omega) (by decide) dL_law_312 dL_law_313 dL_law_314 dL_law_315 dL_law_316 ?_
  refine gw_arg (pc := 317) 2 cx S hL (by omega) (by decide) dL_law_317 dL_law_318 dL_law_319 dL_law_320 dL_law_321 ?_
  refine gw_cV (rest := []) (av := [.int (xs (6 * j + 1)), .int (xs (6 * j + 2))]) (kc := 0) cx (k_X4_of E h1) at0 (by decide) lk_L_28 dL_law_322 rfl (Nat.le_of_ble_eq_true rfl) rfl ?_
  show GW E fr 4 325 (lvL E b j) [.int r] σ1
  refine gw_aload_n cx 1 rfl rfl dL_law_325 rfl ?_
  refine gw_arg (pc := 326) 1 cx S hL (by omega) (by decide) dL_law_326 dL_law_327 dL_law_328 dL_law_329 dL_law_330 ?_
  refine gw_arg (pc := 331) 2 cx S hL (by omega) (by decide) dL_law_331 dL_law_332 dL_law_333 dL_law_334 dL_law_335 ?_
  refine gw_cV (rest := [.int r]) (av := [.int (xs (6 * j + 1)), .int (xs (6 * j + 2))]) (kc := 49) cx (k_X5_of E h2) at49 (by decide) lk_L_31 dL_law_336 rfl (Nat.le_of_ble_eq_true rfl) rfl ?_
  show GW E fr 4 339 (lvL E b j) [.int r, .int r] σ2
  exact gw_ic_eq_t cx rfl dL_law_339 (by decide) (kk σ2 hI2)
theorem la_change {E : Ev} {fr : Fr} {σ : Sg} {b L j : Nat} {xs : Nat → Int32} (cx : Cx E mlaw 12 fr) (S : Scr E fr b L xs) (hL : L ≤ 3072) (hj : j < 512) (h6 : 6 * j + 6 ≤ L) (hI : Inv j σ) (kk : ∀ σ2, Inv (j + 1) σ2 → GW E fr 4 1396 (lvL E b j) [] σ2) : GW E fr 4 344 (lvL E b j) [] σ := by
  obtain ⟨r, σ1, σ2, h1, h2, hI2⟩ := op_change hI (xs (6 * j + 1)) (xs (6 * j + 2)) (xs (6 * j + 3))
  refine gw_aload_n cx 2 rfl rfl dL_law_344 rfl ?_
  refine gw_arg (pc := 345) 1 cx S hL (by omega) (by decide) dL_law_345 dL_law_346 dL_law_347 dL_law_348 dL_law_349 ?_
  refine gw_arg (pc := 350) 2 cx S hL (by omega) (by decide) dL_law_350 dL_law_351 dL_law_352 dL_law_353 dL_law_354 ?_
  refine gw_arg (pc := 355) 3 cx S hL (by omega) (by decide) dL_law_355 dL_law_356 dL_law_357 dL_law_358 dL_law_359 ?_
  refine gw_cV (rest := []) (av := [.int (xs (6 * j + 1)), .int (xs (6 * j + 2)), .int (xs (6 * j + 3))]) (kc := 0) cx (k_X4_change E h1) at0 (by decide) lk_L_32 dL_law_360 rfl (Nat.le_of_ble_eq_true rfl) rfl ?_
  show GW E fr 4 363 (lvL E b j) [.int r] σ1
  refine gw_aload_n cx 1 rfl rfl dL_law_363 rfl ?_
  refine gw_arg (pc := 364) 1 cx S hL (by omega) (by decide) dL_law_364 dL_law_365 dL_law_366 dL_law_367 dL_law_368 ?_
  refine gw_arg (pc := 369) 2 cx S hL (by omega) (by decide) dL_law_369 dL_law_370 dL_law_371 dL_law_372 dL_law_373 ?_
  refine gw_arg (pc := 374) 3 cx S hL (by omega) (by decide) dL_law_374 dL_law_375 dL_law_376 dL_law_377 dL_law_378 ?_
  refine gw_cV (rest := [.int r]) (av := [.int (xs (6 * j + 1)), .int (xs (6 * j + 2)), .int (xs (6 * j + 3))]) (kc := 49) cx (k_X5_change E h2) at49 (by decide) lk_L_35 dL_law_379 rfl (Nat.le_of_ble_eq_true rfl) rfl ?_
  show GW E fr 4 382 (lvL E b j) [.int r, .int r] σ2
  exact gw_ic_eq_t cx rfl dL_law_382 (by decide) (kk σ2 hI2)
theorem la_feels {E : Ev} {fr : Fr} {σ : Sg} {b L j : Nat} {xs : Nat → Int32} (cx : Cx E mlaw 12 fr) (S : Scr E fr b L xs) (hL : L ≤ 3072) (hj : j < 512) (h6 : 6 * j + 6 ≤ L) (hI : Inv j σ) (kk : ∀ σ2, Inv (j + 1) σ2 → GW E fr 4 1396 (lvL E b j) [] σ2) : GW E fr 4 387 (lvL E b j) [] σ := by
  obtain ⟨r, σ1, σ2, h1, h2, hI2⟩ := op_feels hI (xs (6 * j + 1)) (xs (6 * j + 2))
  refine gw_aload_n cx 2 rfl rfl dL_law_387 rfl ?_
  refine gw_arg (pc := 388) 1 cx S hL (by omega) (by decide) dL_law_388 dL_law_389 dL_law_390 dL_law_391 dL_law_392 ?_
  refine gw_arg (pc := 393) 2 cx S hL (by omega) (by decide) dL_law_393 dL_law_394 dL_law_395 dL_law_396 dL_law_397 ?_
  refine gw_cV (rest := []) (av := [.int (xs (6 * j + 1)), .int (xs (6 * j + 2))]) (kc := 0) cx (k_X4_feels E h1) at0 (by decide) lk_L_36 dL_law_398 rfl (Nat.le_of_ble_eq_true rfl) rfl ?_
  show GW E fr 4 401 (lvL E b j) [.int r] σ1
  refine gw_aload_n cx 1 rfl rfl dL_law_401 rfl ?_
  refine gw_arg (pc := 402) 1 cx S hL (by omega) (by decide) dL_law_402 dL_law_403 dL_law_404 dL_law_405 dL_law_406 ?_
  refine gw_arg (pc := 407) 2 cx S hL (by omega) (by decide) dL_law_407 dL_law_408 dL_law_409 dL_law_410 dL_law_411 ?_
  refine gw_cV (rest := [.int r]) (av := [.int (xs (6 * j + 1)), .int (xs (6 * j + 2))]) (kc := 49) cx (k_X5_feels E h2) at49 (by decide) lk_L_39 dL_law_412 rfl (Nat.le_of_ble_eq_true rfl) rfl ?_
  show GW E fr 4 415 (lvL E b j) [.int r, .int r] σ2
  exact gw_ic_eq_t cx rfl dL_law_415 (by decide) (kk σ2 hI2)
theorem la_bearer {E : Ev} {fr : Fr} {σ : Sg} {b L j : Nat} {xs : Nat → Int32} (cx : Cx E mlaw 12 fr) (S : Scr E fr b L xs) (hL : L ≤ 3072) (hj : j < 512) (h6 : 6 * j + 6 ≤ L) (hI : Inv j σ) (kk : ∀ σ2, Inv (j + 1) σ2 → GW E fr 4 1396 (lvL E b j) [] σ2) : GW E fr 4 420 (lvL E b j) [] σ := by
  obtain ⟨r, σ1, σ2, h1, h2, hI2⟩ := op_bearer hI (xs (6 * j + 1)) (xs (6 * j + 2))
  refine gw_aload_n cx 2 rfl rfl dL_law_420 rfl ?_
  refine gw_arg (pc := 421) 1 cx S hL (by omega) (by decide) dL_law_421 dL_law_422 dL_law_423 dL_law_424 dL_law_425 ?_
  refine gw_arg (pc := 426) 2 cx S hL (by omega) (by decide) dL_law_426 dL_law_427 dL_law_428 dL_law_429 dL_law_430 ?_
  refine gw_cV (rest := []) (av := [.int (xs (6 * j + 1)), .int (xs (6 * j + 2))]) (kc := 0) cx (k_X4_bearer E h1) at0 (by decide) lk_L_40 dL_law_431 rfl (Nat.le_of_ble_eq_true rfl) rfl ?_
  show GW E fr 4 434 (lvL E b j) [.int r] σ1
  refine gw_aload_n cx 1 rfl rfl dL_law_434 rfl ?_
  refine gw_arg (pc := 435) 1 cx S hL (by omega) (by decide) dL_law_435 dL_law_436 dL_law_437 dL_law_438 dL_law_439 ?_
  refine gw_arg (pc := 440) 2 cx S hL (by omega) (by decide) dL_law_440 dL_law_441 dL_law_442 dL_law_443 dL_law_444 ?_
  refine gw_cV (rest := [.int r]) (av := [.int (xs (6 * j + 1)), .int (xs (6 * j + 2))]) (kc := 49) cx (k_X5_bearer E h2) at49 (by decide) lk_L_43 dL_law_445 rfl (Nat.le_of_ble_eq_true rfl) rfl ?_
  show GW E fr 4 448 (lvL E b j) [.int r, .int r] σ2
  exact gw_ic_eq_t cx rfl dL_law_448 (by decide) (kk σ2 hI2)
theorem la_go {E : Ev} {fr : Fr} {σ : Sg} {b L j : Nat} {xs : Nat → Int32} (cx : Cx E mlaw 12 fr) (S : Scr E fr b L xs) (hL : L ≤ 3072) (hj : j < 512) (h6 : 6 * j + 6 ≤ L) (hI : Inv j σ) (kk : ∀ σ2, Inv (j + 1) σ2 → GW E fr 4 1396 (lvL E b j) [] σ2) : GW E fr 4 453 (lvL E b j) [] σ := by
  obtain ⟨r, σ1, σ2, h1, h2, hI2⟩ := op_go (hn := hj) hI (xs (6 * j + 1))
  refine gw_aload_n cx 2 rfl rfl dL_law_453 rfl ?_
  refine gw_arg (pc := 454) 1 cx S hL (by omega) (by decide) dL_law_454 dL_law_455 dL_law_456 dL_law_457 dL_law_458 ?_
  refine gw_cV (rest := []) (av := [.int (xs (6 * j + 1))]) (kc := 0) cx (k_X4_go E h1) at0 (by decide) lk_L_44 dL_law_459 rfl (Nat.le_of_ble_eq_true rfl) rfl ?_
  show GW E fr 4 462 (lvL E b j) [.int r] σ1
  refine gw_aload_n cx 1 rfl rfl dL_law_462 rfl ?_
  refine gw_arg (pc := 463) 1 cx S hL (by omega) (by decide) dL_law_463 dL_law_464 dL_law_465 dL_law_466 dL_law_467 ?_
  refine gw_cV (rest := [.int r]) (av := [.int (xs (6 * j + 1))]) (kc := 49) cx (k_X5_go E h2) at49 (by decide) lk_L_47 dL_law_468 rfl (Nat.le_of_ble_eq_true rfl) rfl ?_
  show GW E fr 4 471 (lvL E b j) [.int r, .int r] σ2
  exact gw_ic_eq_t cx rfl dL_law_471 (by decide) (kk σ2 hI2)
theorem la_now {E : Ev} {fr : Fr} {σ : Sg} {b L j : Nat} {xs : Nat → Int32} (cx : Cx E mlaw 12 fr) (S : Scr E fr b L xs) (hL : L ≤ 3072) (hj : j < 512) (h6 : 6 * j + 6 ≤ L) (hI : Inv j σ) (kk : ∀ σ2, Inv (j + 1) σ2 → GW E fr 4 1396 (lvL E b j) [] σ2) : GW E fr 4 476 (lvL E b j) [] σ := by
  obtain ⟨r, σ1, σ2, h1, h2, hI2⟩ := op_now hI (xs (6 * j + 1))
  refine gw_aload_n cx 2 rfl rfl dL_law_476 rfl ?_
  refine gw_arg (pc := 477) 1 cx S hL (by omega) (by decide) dL_law_477 dL_law_478 dL_law_479 dL_law_480 dL_law_481 ?_
  refine gw_cV (rest := []) (av := [.int (xs (6 * j + 1))]) (kc := 0) cx (k_X4_now E h1) at0 (by decide) lk_L_48 dL_law_482 rfl (Nat.le_of_ble_eq_true rfl) rfl ?_
  show GW E fr 4 485 (lvL E b j) [.int r] σ1
  refine gw_aload_n cx 1 rfl rfl dL_law_485 rfl ?_
  refine gw_arg (pc := 486) 1 cx S hL (by omega) (by decide) dL_law_486 dL_law_487 dL_law_488 dL_law_489 dL_law_490 ?_
  refine gw_cV (rest := [.int r]) (av := [.int (xs (6 * j + 1))]) (kc := 49) cx (k_X5_now E h2) at49 (by decide) lk_L_51 dL_law_491 rfl (Nat.le_of_ble_eq_true rfl) rfl ?_
  show GW E fr 4 494 (lvL E b j) [.int r, .int r] σ2
  exact gw_ic_eq_t cx rfl dL_law_494 (by decide) (kk σ2 hI2)
theorem la_ahead {E : Ev} {fr : Fr} {σ : Sg} {b L j : Nat} {xs : Nat → Int32} (cx : Cx E mlaw 12 fr) (S : Scr E fr b L xs) (hL : L ≤ 3072) (hj : j < 512) (h6 : 6 * j + 6 ≤ L) (hI : Inv j σ) (kk : ∀ σ2, Inv (j + 1) σ2 → GW E fr 4 1396 (lvL E b j) [] σ2) : GW E fr 4 499 (lvL E b j) [] σ := by
  obtain ⟨r, σ1, σ2, h1, h2, hI2⟩ := op_ahead (hn := hj) hI (xs (6 * j + 1)) (xs (6 * j + 2)) (xs (6 * j + 3))
  refine gw_aload_n cx 2 rfl rfl dL_law_499 rfl ?_
  refine gw_arg (pc := 500) 1 cx S hL (by omega) (by decide) dL_law_500 dL_law_501 dL_law_502 dL_law_503 dL_law_504 ?_
  refine gw_arg (pc := 505) 2 cx S hL (by omega) (by decide) dL_law_505 dL_law_506 dL_law_507 dL_law_508 dL_law_509 ?_
  refine gw_arg (pc := 510) 3 cx S hL (by omega) (by decide) dL_law_510 dL_law_511 dL_law_512 dL_law_513 dL_law_514 ?_
  refine gw_cV (rest := []) (av := [.int (xs (6 * j + 1)), .int (xs (6 * j + 2)), .int (xs (6 * j + 3))]) (kc := 0) cx (k_X4_ahead E h1) at0 (by decide) lk_L_52 dL_law_515 rfl (Nat.le_of_ble_eq_true rfl) rfl ?_
  show GW E fr 4 518 (lvL E b j) [.int r] σ1
  refine gw_aload_n cx 1 rfl rfl dL_law_518 rfl ?_
  refine gw_arg (pc := 519) 1 cx S hL (by omega) (by decide) dL_law_519 dL_law_520 dL_law_521 dL_law_522 dL_law_523 ?_
  refine gw_arg (pc := 524) 2 cx S hL (by omega) (by decide) dL_law_524 dL_law_525 dL_law_526 dL_law_527 dL_law_528 ?_
  refine gw_arg (pc := 529) 3 cx S hL (by omega) (by decide) dL_law_529 dL_law_530 dL_law_531 dL_law_532 dL_law_533 ?_
  refine gw_cV (rest := [.int r]) (av := [.int (xs (6 * j + 1)), .int (xs (6 * j + 2)), .int (xs (6 * j + 3))]) (kc := 49) cx (k_X5_ahead E h2) at49 (by decide) lk_L_55 dL_law_534 rfl (Nat.le_of_ble_eq_true rfl) rfl ?_
  show GW E fr 4 537 (lvL E b j) [.int r, .int r] σ2
  exact gw_ic_eq_t cx rfl dL_law_537 (by decide) (kk σ2 hI2)
theorem la_hints {E : Ev} {fr : Fr} {σ : Sg} {b L j : Nat} {xs : Nat → Int32} (cx : Cx E mlaw 12 fr) (S : Scr E fr b L xs) (hL : L ≤ 3072) (hj : j < 512) (h6 : 6 * j + 6 ≤ L) (hI : Inv j σ) (kk : ∀ σ2, Inv (j + 1) σ2 → GW E fr 4 1396 (lvL E b j) [] σ2) : GW E fr 4 542 (lvL E b j) [] σ := by
  obtain ⟨r, σ1, σ2, h1, h2, hI2⟩ := op_hints (hn := hj) hI (xs (6 * j + 1))
  refine gw_aload_n cx 2 rfl rfl dL_law_542 rfl ?_
  refine gw_arg (pc := 543) 1 cx S hL (by omega) (by decide) dL_law_543 dL_law_544 dL_law_545 dL_law_546 dL_law_547 ?_
  refine gw_cV (rest := []) (av := [.int (xs (6 * j + 1))]) (kc := 0) cx (k_X4_hints E h1) at0 (by decide) lk_L_56 dL_law_548 rfl (Nat.le_of_ble_eq_true rfl) rfl ?_
  show GW E fr 4 551 (lvL E b j) [.int r] σ1
  refine gw_aload_n cx 1 rfl rfl dL_law_551 rfl ?_
  refine gw_arg (pc := 552) 1 cx S hL (by omega) (by decide) dL_law_552 dL_law_553 dL_law_554 dL_law_555 dL_law_556 ?_
  refine gw_cV (rest := [.int r]) (av := [.int (xs (6 * j + 1))]) (kc := 49) cx (k_X5_hints E h2) at49 (by decide) lk_L_59 dL_law_557 rfl (Nat.le_of_ble_eq_true rfl) rfl ?_
  show GW E fr 4 560 (lvL E b j) [.int r, .int r] σ2
  exact gw_ic_eq_t cx rfl dL_law_560 (by decide) (kk σ2 hI2)
theorem la_even {E : Ev} {fr : Fr} {σ : Sg} {b L j : Nat} {xs : Nat → Int32} (cx : Cx E mlaw 12 fr) (S : Scr E fr b L xs) (hL : L ≤ 3072) (hj : j < 512) (h6 : 6 * j + 6 ≤ L) (hI : Inv j σ) (kk : ∀ σ2, Inv (j + 1) σ2 → GW E fr 4 1396 (lvL E b j) [] σ2) : GW E fr 4 565 (lvL E b j) [] σ := by
  obtain ⟨r, σ1, σ2, h1, h2, hI2⟩ := op_even (hn := hj) hI
  refine gw_aload_n cx 2 rfl rfl dL_law_565 rfl ?_
  refine gw_cV (rest := []) (av := []) (kc := 0) cx (k_X4_even E h1) at0 (by decide) lk_L_60 dL_law_566 rfl (Nat.le_of_ble_eq_true rfl) rfl ?_
  show GW E fr 4 569 (lvL E b j) [.int r] σ1
  refine gw_aload_n cx 1 rfl rfl dL_law_569 rfl ?_
  refine gw_cV (rest := [.int r]) (av := []) (kc := 49) cx (k_X5_even E h2) at49 (by decide) lk_L_64 dL_law_570 rfl (Nat.le_of_ble_eq_true rfl) rfl ?_
  show GW E fr 4 573 (lvL E b j) [.int r, .int r] σ2
  exact gw_ic_eq_t cx rfl dL_law_573 (by decide) (kk σ2 hI2)
theorem la_when {E : Ev} {fr : Fr} {σ : Sg} {b L j : Nat} {xs : Nat → Int32} (cx : Cx E mlaw 12 fr) (S : Scr E fr b L xs) (hL : L ≤ 3072) (hj : j < 512) (h6 : 6 * j + 6 ≤ L) (hI : Inv j σ) (kk : ∀ σ2, Inv (j + 1) σ2 → GW E fr 4 1396 (lvL E b j) [] σ2) : GW E fr 4 578 (lvL E b j) [] σ := by
  obtain ⟨r, σ1, σ2, h1, h2, hI2⟩ := op_when (hn := hj) hI (xs (6 * j + 1)) (xs (6 * j + 2))
  refine gw_aload_n cx 2 rfl rfl dL_law_578 rfl ?_
  refine gw_arg (pc := 579) 1 cx S hL (by omega) (by decide) dL_law_579 dL_law_580 dL_law_581 dL_law_582 dL_law_583 ?_
  refine gw_arg (pc := 584) 2 cx S hL (by omega) (by decide) dL_law_584 dL_law_585 dL_law_586 dL_law_587 dL_law_588 ?_
  refine gw_cV (rest := []) (av := [.int (xs (6 * j + 1)), .int (xs (6 * j + 2))]) (kc := 0) cx (k_X4_when E h1) at0 (by decide) lk_L_65 dL_law_589 rfl (Nat.le_of_ble_eq_true rfl) rfl ?_
  show GW E fr 4 592 (lvL E b j) [.int r] σ1
  refine gw_aload_n cx 1 rfl rfl dL_law_592 rfl ?_
  refine gw_arg (pc := 593) 1 cx S hL (by omega) (by decide) dL_law_593 dL_law_594 dL_law_595 dL_law_596 dL_law_597 ?_
  refine gw_arg (pc := 598) 2 cx S hL (by omega) (by decide) dL_law_598 dL_law_599 dL_law_600 dL_law_601 dL_law_602 ?_
  refine gw_cV (rest := [.int r]) (av := [.int (xs (6 * j + 1)), .int (xs (6 * j + 2))]) (kc := 49) cx (k_X5_when E h2) at49 (by decide) lk_L_68 dL_law_603 rfl (Nat.le_of_ble_eq_true rfl) rfl ?_
  show GW E fr 4 606 (lvL E b j) [.int r, .int r] σ2
  exact gw_ic_eq_t cx rfl dL_law_606 (by decide) (kk σ2 hI2)
theorem la_clean {E : Ev} {fr : Fr} {σ : Sg} {b L j : Nat} {xs : Nat → Int32} (cx : Cx E mlaw 12 fr) (S : Scr E fr b L xs) (hL : L ≤ 3072) (hj : j < 512) (h6 : 6 * j + 6 ≤ L) (hI : Inv j σ) (kk : ∀ σ2, Inv (j + 1) σ2 → GW E fr 4 1396 (lvL E b j) [] σ2) : GW E fr 4 611 (lvL E b j) [] σ := by
  obtain ⟨r, σ1, σ2, h1, h2, hI2⟩ := op_clean (hn := hj) hI (xs (6 * j + 1))
  refine gw_aload_n cx 2 rfl rfl dL_law_611 rfl ?_
  refine gw_arg (pc := 612) 1 cx S hL (by omega) (by decide) dL_law_612 dL_law_613 dL_law_614 dL_law_615 dL_law_616 ?_
  refine gw_cV (rest := []) (av := [.int (xs (6 * j + 1))]) (kc := 0) cx (k_X4_clean E h1) at0 (by decide) lk_L_69 dL_law_617 rfl (Nat.le_of_ble_eq_true rfl) rfl ?_
  show GW E fr 4 620 (lvL E b j) [.int r] σ1
  refine gw_aload_n cx 1 rfl rfl dL_law_620 rfl ?_
  refine gw_arg (pc := 621) 1 cx S hL (by omega) (by decide) dL_law_621 dL_law_622 dL_law_623 dL_law_624 dL_law_625 ?_
  refine gw_cV (rest := [.int r]) (av := [.int (xs (6 * j + 1))]) (kc := 49) cx (k_X5_clean E h2) at49 (by decide) lk_L_72 dL_law_626 rfl (Nat.le_of_ble_eq_true rfl) rfl ?_
  show GW E fr 4 629 (lvL E b j) [.int r, .int r] σ2
  exact gw_ic_eq_t cx rfl dL_law_629 (by decide) (kk σ2 hI2)
theorem la_whom {E : Ev} {fr : Fr} {σ : Sg} {b L j : Nat} {xs : Nat → Int32} (cx : Cx E mlaw 12 fr) (S : Scr E fr b L xs) (hL : L ≤ 3072) (hj : j < 512) (h6 : 6 * j + 6 ≤ L) (hI : Inv j σ) (kk : ∀ σ2, Inv (j + 1) σ2 → GW E fr 4 1396 (lvL E b j) [] σ2) : GW E fr 4 634 (lvL E b j) [] σ := by
  obtain ⟨r, σ1, σ2, h1, h2, hI2⟩ := op_whom (hn := hj) hI (xs (6 * j + 1))
  refine gw_aload_n cx 2 rfl rfl dL_law_634 rfl ?_
  refine gw_arg (pc := 635) 1 cx S hL (by omega) (by decide) dL_law_635 dL_law_636 dL_law_637 dL_law_638 dL_law_639 ?_
  refine gw_cV (rest := []) (av := [.int (xs (6 * j + 1))]) (kc := 0) cx (k_X4_whom E h1) at0 (by decide) lk_L_73 dL_law_640 rfl (Nat.le_of_ble_eq_true rfl) rfl ?_
  show GW E fr 4 643 (lvL E b j) [.int r] σ1
  refine gw_aload_n cx 1 rfl rfl dL_law_643 rfl ?_
  refine gw_arg (pc := 644) 1 cx S hL (by omega) (by decide) dL_law_644 dL_law_645 dL_law_646 dL_law_647 dL_law_648 ?_
  refine gw_cV (rest := [.int r]) (av := [.int (xs (6 * j + 1))]) (kc := 49) cx (k_X5_whom E h2) at49 (by decide) lk_L_76 dL_law_649 rfl (Nat.le_of_ble_eq_true rfl) rfl ?_
  show GW E fr 4 652 (lvL E b j) [.int r, .int r] σ2
  exact gw_ic_eq_t cx rfl dL_law_652 (by decide) (kk σ2 hI2)
theorem la_weightFor {E : Ev} {fr : Fr} {σ : Sg} {b L j : Nat} {xs : Nat → Int32} (cx : Cx E mlaw 12 fr) (S : Scr E fr b L xs) (hL : L ≤ 3072) (hj : j < 512) (h6 : 6 * j + 6 ≤ L) (hI : Inv j σ) (kk : ∀ σ2, Inv (j + 1) σ2 → GW E fr 4 1396 (lvL E b j) [] σ2) : GW E fr 4 657 (lvL E b j) [] σ := by
  obtain ⟨r, σ1, σ2, h1, h2, hI2⟩ := op_weightFor (hn := hj) hI (xs (6 * j + 1))
  refine gw_aload_n cx 2 rfl rfl dL_law_657 rfl ?_
  refine gw_arg (pc := 658) 1 cx S hL (by omega) (by decide) dL_law_658 dL_law_659 dL_law_660 dL_law_661 dL_law_662 ?_
  refine gw_cV (rest := []) (av := [.int (xs (6 * j + 1))]) (kc := 0) cx (k_X4_weightFor E h1) at0 (by decide) lk_L_77 dL_law_663 rfl (Nat.le_of_ble_eq_true rfl) rfl ?_
  show GW E fr 4 666 (lvL E b j) [.int r] σ1
  refine gw_aload_n cx 1 rfl rfl dL_law_666 rfl ?_
  refine gw_arg (pc := 667) 1 cx S hL (by omega) (by decide) dL_law_667 dL_law_668 dL_law_669 dL_law_670 dL_law_671 ?_
  refine gw_cV (rest := [.int r]) (av := [.int (xs (6 * j + 1))]) (kc := 49) cx (k_X5_weightFor E h2) at49 (by decide) lk_L_80 dL_law_672 rfl (Nat.le_of_ble_eq_true rfl) rfl ?_
  show GW E fr 4 675 (lvL E b j) [.int r, .int r] σ2
  exact gw_ic_eq_t cx rfl dL_law_675 (by decide) (kk σ2 hI2)
theorem la_buildFor {E : Ev} {fr : Fr} {σ : Sg} {b L j : Nat} {xs : Nat → Int32} (cx : Cx E mlaw 12 fr) (S : Scr E fr b L xs) (hL : L ≤ 3072) (hj : j < 512) (h6 : 6 * j + 6 ≤ L) (hI : Inv j σ) (kk : ∀ σ2, Inv (j + 1) σ2 → GW E fr 4 1396 (lvL E b j) [] σ2) : GW E fr 4 680 (lvL E b j) [] σ := by
  obtain ⟨r, σ1, σ2, h1, h2, hI2⟩ := op_buildFor (hn := hj) hI (xs (6 * j + 1)) (xs (6 * j + 2))
  refine gw_aload_n cx 2 rfl rfl dL_law_680 rfl ?_
  refine gw_arg (pc := 681) 1 cx S hL (by omega) (by decide) dL_law_681 dL_law_682 dL_law_683 dL_law_684 dL_law_685 ?_
  refine gw_arg (pc := 686) 2 cx S hL (by omega) (by decide) dL_law_686 dL_law_687 dL_law_688 dL_law_689 dL_law_690 ?_
  refine gw_cV (rest := []) (av := [.int (xs (6 * j + 1)), .int (xs (6 * j + 2))]) (kc := 0) cx (k_X4_buildFor E h1) at0 (by decide) lk_L_81 dL_law_691 rfl (Nat.le_of_ble_eq_true rfl) rfl ?_
  show GW E fr 4 694 (lvL E b j) [.int r] σ1
  refine gw_aload_n cx 1 rfl rfl dL_law_694 rfl ?_
  refine gw_arg (pc := 695) 1 cx S hL (by omega) (by decide) dL_law_695 dL_law_696 dL_law_697 dL_law_698 dL_law_699 ?_
  refine gw_arg (pc := 700) 2 cx S hL (by omega) (by decide) dL_law_700 dL_law_701 dL_law_702 dL_law_703 dL_law_704 ?_
  refine gw_cV (rest := [.int r]) (av := [.int (xs (6 * j + 1)), .int (xs (6 * j + 2))]) (kc := 49) cx (k_X5_buildFor E h2) at49 (by decide) lk_L_84 dL_law_705 rfl (Nat.le_of_ble_eq_true rfl) rfl ?_
  show GW E fr 4 708 (lvL E b j) [.int r, .int r] σ2
  exact gw_ic_eq_t cx rfl dL_law_708 (by decide) (kk σ2 hI2)
theorem la_kindFor {E : Ev} {fr : Fr} {σ : Sg} {b L j : Nat} {xs : Nat → Int32} (cx : Cx E mlaw 12 fr) (S : Scr E fr b L xs) (hL : L ≤ 3072) (hj : j < 512) (h6 : 6 * j + 6 ≤ L) (hI : Inv j σ) (kk : ∀ σ2, Inv (j + 1) σ2 → GW E fr 4 1396 (lvL E b j) [] σ2) : GW E fr 4 713 (lvL E b j) [] σ := by
  obtain ⟨r, σ1, σ2, h1, h2, hI2⟩ := op_kindFor (hn := hj) hI (xs (6 * j + 1)) (xs (6 * j + 2))
  refine gw_aload_n cx 2 rfl rfl dL_law_713 rfl ?_
  refine gw_arg (pc := 714) 1 cx S hL (by omega) (by decide) dL_law_714 dL_law_715 dL_law_716 dL_law_717 dL_law_718 ?_
  refine gw_arg (pc := 719) 2 cx S hL (by omega) (by decide) dL_law_719 dL_law_720 dL_law_721 dL_law_722 dL_law_723 ?_
  refine gw_cV (rest := []) (av := [.int (xs (6 * j + 1)), .int (xs (6 * j + 2))]) (kc := 0) cx (k_X4_kindFor E h1) at0 (by decide) lk_L_85 dL_law_724 rfl (Nat.le_of_ble_eq_true rfl) rfl ?_
  show GW E fr 4 727 (lvL E b j) [.int r] σ1
  refine gw_aload_n cx 1 rfl rfl dL_law_727 rfl ?_
  refine gw_arg (pc := 728) 1 cx S hL (by omega) (by decide) dL_law_728 dL_law_729 dL_law_730 dL_law_731 dL_law_732 ?_
  refine gw_arg (pc := 733) 2 cx S hL (by omega) (by decide) dL_law_733 dL_law_734 dL_law_735 dL_law_736 dL_law_737 ?_
  refine gw_cV (rest := [.int r]) (av := [.int (xs (6 * j + 1)), .int (xs (6 * j + 2))]) (kc := 49) cx (k_X5_kindFor E h2) at49 (by decide) lk_L_88 dL_law_738 rfl (Nat.le_of_ble_eq_true rfl) rfl ?_
  show GW E fr 4 741 (lvL E b j) [.int r, .int r] σ2
  exact gw_ic_eq_t cx rfl dL_law_741 (by decide) (kk σ2 hI2)
theorem la_refuse {E : Ev} {fr : Fr} {σ : Sg} {b L j : Nat} {xs : Nat → Int32} (cx : Cx E mlaw 12 fr) (S : Scr E fr b L xs) (hL : L ≤ 3072) (hj : j < 512) (h6 : 6 * j + 6 ≤ L) (hI : Inv j σ) (kk : ∀ σ2, Inv (j + 1) σ2 → GW E fr 4 1396 (lvL E b j) [] σ2) : GW E fr 4 746 (lvL E b j) [] σ := by
  obtain ⟨r, σ1, σ2, h1, h2, hI2⟩ := op_refuse (hn := hj) hI (xs (6 * j + 1)) (xs (6 * j + 2)) (xs (6 * j + 3))
  refine gw_aload_n cx 2 rfl rfl dL_law_746 rfl ?_
  refine gw_arg (pc := 747) 1 cx S hL (by omega) (by decide) dL_law_747 dL_law_748 dL_law_749 dL_law_750 dL_law_751 ?_
  refine gw_arg (pc := 752) 2 cx S hL (by omega) (by decide) dL_law_752 dL_law_753 dL_law_754 dL_law_755 dL_law_756 ?_
  refine gw_arg (pc := 757) 3 cx S hL (by omega) (by decide) dL_law_757 dL_law_758 dL_law_759 dL_law_760 dL_law_761 ?_
  refine gw_cV (rest := []) (av := [.int (xs (6 * j + 1)), .int (xs (6 * j + 2)), .int (xs (6 * j + 3))]) (kc := 0) cx (k_X4_refuse E h1) at0 (by decide) lk_L_89 dL_law_762 rfl (Nat.le_of_ble_eq_true rfl) rfl ?_
  show GW E fr 4 765 (lvL E b j) [.int r] σ1
  refine gw_aload_n cx 1 rfl rfl dL_law_765 rfl ?_
  refine gw_arg (pc := 766) 1 cx S hL (by omega) (by decide) dL_law_766 dL_law_767 dL_law_768 dL_law_769 dL_law_770 ?_
  refine gw_arg (pc := 771) 2 cx S hL (by omega) (by decide) dL_law_771 dL_law_772 dL_law_773 dL_law_774 dL_law_775 ?_
  refine gw_arg (pc := 776) 3 cx S hL (by omega) (by decide) dL_law_776 dL_law_777 dL_law_778 dL_law_779 dL_law_780 ?_
  refine gw_cV (rest := [.int r]) (av := [.int (xs (6 * j + 1)), .int (xs (6 * j + 2)), .int (xs (6 * j + 3))]) (kc := 49) cx (k_X5_refuse E h2) at49 (by decide) lk_L_92 dL_law_781 rfl (Nat.le_of_ble_eq_true rfl) rfl ?_
  show GW E fr 4 784 (lvL E b j) [.int r, .int r] σ2
  exact gw_ic_eq_t cx rfl dL_law_784 (by decide) (kk σ2 hI2)
theorem la_swapFor {E : Ev} {fr : Fr} {σ : Sg} {b L j : Nat} {xs : Nat → Int32} (cx : Cx E mlaw 12 fr) (S : Scr E fr b L xs) (hL : L ≤ 3072) (hj : j < 512) (h6 : 6 * j + 6 ≤ L) (hI : Inv j σ) (kk : ∀ σ2, Inv (j + 1) σ2 → GW E fr 4 1396 (lvL E b j) [] σ2) : GW E fr 4 789 (lvL E b j) [] σ := by
  obtain ⟨r, σ1, σ2, h1, h2, hI2⟩ := op_swapFor (hn := hj) hI (xs (6 * j + 1))
  refine gw_aload_n cx 2 rfl rfl dL_law_789 rfl ?_
  refine gw_arg (pc := 790) 1 cx S hL (by omega) (by decide) dL_law_790 dL_law_791 dL_law_792 dL_law_793 dL_law_794 ?_
  refine gw_cV (rest := []) (av := [.int (xs (6 * j + 1))]) (kc := 0) cx (k_X4_swapFor E h1) at0 (by decide) lk_L_93 dL_law_795 rfl (Nat.le_of_ble_eq_true rfl) rfl ?_
  show GW E fr 4 798 (lvL E b j) [.int r] σ1
  refine gw_aload_n cx 1 rfl rfl dL_law_798 rfl ?_
  refine gw_arg (pc := 799) 1 cx S hL (by omega) (by decide) dL_law_799 dL_law_800 dL_law_801 dL_law_802 dL_law_803 ?_
  refine gw_cV (rest := [.int r]) (av := [.int (xs (6 * j + 1))]) (kc := 49) cx (k_X5_swapFor E h2) at49 (by decide) lk_L_96 dL_law_804 rfl (Nat.le_of_ble_eq_true rfl) rfl ?_
  show GW E fr 4 807 (lvL E b j) [.int r, .int r] σ2
  exact gw_ic_eq_t cx rfl dL_law_807 (by decide) (kk σ2 hI2)
theorem la_fits {E : Ev} {fr : Fr} {σ : Sg} {b L j : Nat} {xs : Nat → Int32} (cx : Cx E mlaw 12 fr) (S : Scr E fr b L xs) (hL : L ≤ 3072) (hj : j < 512) (h6 : 6 * j + 6 ≤ L) (hI : Inv j σ) (kk : ∀ σ2, Inv (j + 1) σ2 → GW E fr 4 1396 (lvL E b j) [] σ2) : GW E fr 4 812 (lvL E b j) [] σ := by
  obtain ⟨r, σ1, σ2, h1, h2, hI2⟩ := op_fits (hn := hj) hI (xs (6 * j + 1)) (xs (6 * j + 2))
  refine gw_aload_n cx 2 rfl rfl dL_law_812 rfl ?_
  refine gw_arg (pc := 813) 1 cx S hL (by omega) (by decide) dL_law_813 dL_law_814 dL_law_815 dL_law_816 dL_law_817 ?_
  refine gw_arg (pc := 818) 2 cx S hL (by omega) (by decide) dL_law_818 dL_law_819 dL_law_820 dL_law_821 dL_law_822 ?_
  refine gw_cV (rest := []) (av := [.int (xs (6 * j + 1)), .int (xs (6 * j + 2))]) (kc := 0) cx (k_X4_fits E h1) at0 (by decide) lk_L_97 dL_law_823 rfl (Nat.le_of_ble_eq_true rfl) rfl ?_
  show GW E fr 4 826 (lvL E b j) [.int r] σ1
  refine gw_aload_n cx 1 rfl rfl dL_law_826 rfl ?_
  refine gw_arg (pc := 827) 1 cx S hL (by omega) (by decide) dL_law_827 dL_law_828 dL_law_829 dL_law_830 dL_law_831 ?_
  refine gw_arg (pc := 832) 2 cx S hL (by omega) (by decide) dL_law_832 dL_law_833 dL_law_834 dL_law_835 dL_law_836 ?_
  refine gw_cV (rest := [.int r]) (av := [.int (xs (6 * j + 1)), .int (xs (6 * j + 2))]) (kc := 49) cx (k_X5_fits E h2) at49 (by decide) lk_L_100 dL_law_837 rfl (Nat.le_of_ble_eq_true rfl) rfl ?_
  show GW E fr 4 840 (lvL E b j) [.int r, .int r] σ2
  exact gw_ic_eq_t cx rfl dL_law_840 (by decide) (kk σ2 hI2)
theorem la_weighed {E : Ev} {fr : Fr} {σ : Sg} {b L j : Nat} {xs : Nat → Int32} (cx : Cx E mlaw 12 fr) (S : Scr E fr b L xs) (hL : L ≤ 3072) (hj : j < 512) (h6 : 6 * j + 6 ≤ L) (hI : Inv j σ) (kk : ∀ σ2, Inv (j + 1) σ2 → GW E fr 4 1396 (lvL E b j) [] σ2) : GW E fr 4 845 (lvL E b j) [] σ := by
  obtain ⟨r, σ1, σ2, h1, h2, hI2⟩ := op_weighed (hn := hj) hI (xs (6 * j + 1)) (xs (6 * j + 2))
  refine gw_aload_n cx 2 rfl rfl dL_law_845 rfl ?_
  refine gw_arg (pc := 846) 1 cx S hL (by omega) (by decide) dL_law_846 dL_law_847 dL_law_848 dL_law_849 dL_law_850 ?_
  refine gw_arg (pc := 851) 2 cx S hL (by omega) (by decide) dL_law_851 dL_law_852 dL_law_853 dL_law_854 dL_law_855 ?_
  refine gw_cV (rest := []) (av := [.int (xs (6 * j + 1)), .int (xs (6 * j + 2))]) (kc := 0) cx (k_X4_weighed E h1) at0 (by decide) lk_L_101 dL_law_856 rfl (Nat.le_of_ble_eq_true rfl) rfl ?_
  show GW E fr 4 859 (lvL E b j) [.int r] σ1
  refine gw_aload_n cx 1 rfl rfl dL_law_859 rfl ?_
  refine gw_arg (pc := 860) 1 cx S hL (by omega) (by decide) dL_law_860 dL_law_861 dL_law_862 dL_law_863 dL_law_864 ?_
  refine gw_arg (pc := 865) 2 cx S hL (by omega) (by decide) dL_law_865 dL_law_866 dL_law_867 dL_law_868 dL_law_869 ?_
  refine gw_cV (rest := [.int r]) (av := [.int (xs (6 * j + 1)), .int (xs (6 * j + 2))]) (kc := 49) cx (k_X5_weighed E h2) at49 (by decide) lk_L_104 dL_law_870 rfl (Nat.le_of_ble_eq_true rfl) rfl ?_
  show GW E fr 4 873 (lvL E b j) [.int r, .int r] σ2
  exact gw_ic_eq_t cx rfl dL_law_873 (by decide) (kk σ2 hI2)
theorem la_kinds {E : Ev} {fr : Fr} {σ : Sg} {b L j : Nat} {xs : Nat → Int32} (cx : Cx E mlaw 12 fr) (S : Scr E fr b L xs) (hL : L ≤ 3072) (hj : j < 512) (h6 : 6 * j + 6 ≤ L) (hI : Inv j σ) (kk : ∀ σ2, Inv (j + 1) σ2 → GW E fr 4 1396 (lvL E b j) [] σ2) : GW E fr 4 878 (lvL E b j) [] σ := by
  obtain ⟨r, σ1, σ2, h1, h2, hI2⟩ := op_kinds (hn := hj) hI (xs (6 * j + 1)) (xs (6 * j + 2))
  refine gw_aload_n cx 2 rfl rfl dL_law_878 rfl ?_
  refine gw_arg (pc := 879) 1 cx S hL (by omega) (by decide) dL_law_879 dL_law_880 dL_law_881 dL_law_882 dL_law_883 ?_
  refine gw_arg (pc := 884) 2 cx S hL (by omega) (by decide) dL_law_884 dL_law_885 dL_law_886 dL_law_887 dL_law_888 ?_
  refine gw_cV (rest := []) (av := [.int (xs (6 * j + 1)), .int (xs (6 * j + 2))]) (kc := 0) cx (k_X4_kinds E h1) at0 (by decide) lk_L_105 dL_law_889 rfl (Nat.le_of_ble_eq_true rfl) rfl ?_
  show GW E fr 4 892 (lvL E b j) [.int r] σ1
  refine gw_aload_n cx 1 rfl rfl dL_law_892 rfl ?_
  refine gw_arg (pc := 893) 1 cx S hL (by omega) (by decide) dL_law_893 dL_law_894 dL_law_895 dL_law_896 dL_law_897 ?_
  refine gw_arg (pc := 898) 2 cx S hL (by omega) (by decide) dL_law_898 dL_law_899 dL_law_900 dL_law_901 dL_law_902 ?_
  refine gw_cV (rest := [.int r]) (av := [.int (xs (6 * j + 1)), .int (xs (6 * j + 2))]) (kc := 49) cx (k_X5_kinds E h2) at49 (by decide) lk_L_108 dL_law_903 rfl (Nat.le_of_ble_eq_true rfl) rfl ?_
  show GW E fr 4 906 (lvL E b j) [.int r, .int r] σ2
  exact gw_ic_eq_t cx rfl dL_law_906 (by decide) (kk σ2 hI2)
theorem la_gossip {E : Ev} {fr : Fr} {σ : Sg} {b L j : Nat} {xs : Nat → Int32} (cx : Cx E mlaw 12 fr) (S : Scr E fr b L xs) (hL : L ≤ 3072) (hj : j < 512) (h6 : 6 * j + 6 ≤ L) (hI : Inv j σ) (kk : ∀ σ2, Inv (j + 1) σ2 → GW E fr 4 1396 (lvL E b j) [] σ2) : GW E fr 4 911 (lvL E b j) [] σ := by
  obtain ⟨r, σ1, σ2, h1, h2, hI2⟩ := op_gossip (hn := hj) hI (xs (6 * j + 1))
  refine gw_aload_n cx 2 rfl rfl dL_law_911 rfl ?_
  refine gw_arg (pc := 912) 1 cx S hL (by omega) (by decide) dL_law_912 dL_law_913 dL_law_914 dL_law_915 dL_law_916 ?_
  refine gw_cV (rest := []) (av := [.int (xs (6 * j + 1))]) (kc := 0) cx (k_X4_gossip E h1) at0 (by decide) lk_L_109 dL_law_917 rfl (Nat.le_of_ble_eq_true rfl) rfl ?_
  show GW E fr 4 920 (lvL E b j) [.int r] σ1
  refine gw_aload_n cx 1 rfl rfl dL_law_920 rfl ?_
  refine gw_arg (pc := 921) 1 cx S hL (by omega) (by decide) dL_law_921 dL_law_922 dL_law_923 dL_law_924 dL_law_925 ?_
  refine gw_cV (rest := [.int r]) (av := [.int (xs (6 * j + 1))]) (kc := 49) cx (k_X5_gossip E h2) at49 (by decide) lk_L_112 dL_law_926 rfl (Nat.le_of_ble_eq_true rfl) rfl ?_
  show GW E fr 4 929 (lvL E b j) [.int r, .int r] σ2
  exact gw_ic_eq_t cx rfl dL_law_929 (by decide) (kk σ2 hI2)
theorem la_odds {E : Ev} {fr : Fr} {σ : Sg} {b L j : Nat} {xs : Nat → Int32} (cx : Cx E mlaw 12 fr) (S : Scr E fr b L xs) (hL : L ≤ 3072) (hj : j < 512) (h6 : 6 * j + 6 ≤ L) (hI : Inv j σ) (kk : ∀ σ2, Inv (j + 1) σ2 → GW E fr 4 1396 (lvL E b j) [] σ2) : GW E fr 4 934 (lvL E b j) [] σ := by
  obtain ⟨r, σ1, σ2, h1, h2, hI2⟩ := op_odds hI (xs (6 * j + 1)) (xs (6 * j + 2))
  refine gw_aload_n cx 2 rfl rfl dL_law_934 rfl ?_
  refine gw_arg (pc := 935) 1 cx S hL (by omega) (by decide) dL_law_935 dL_law_936 dL_law_937 dL_law_938 dL_law_939 ?_
  refine gw_arg (pc := 940) 2 cx S hL (by omega) (by decide) dL_law_940 dL_law_941 dL_law_942 dL_law_943 dL_law_944 ?_
  refine gw_cV (rest := []) (av := [.int (xs (6 * j + 1)), .int (xs (6 * j + 2))]) (kc := 0) cx (k_X4_odds E h1) at0 (by decide) lk_L_113 dL_law_945 rfl (Nat.le_of_ble_eq_true rfl) rfl ?_
  show GW E fr 4 948 (lvL E b j) [.long r] σ1
  refine gw_aload_n cx 1 rfl rfl dL_law_948 rfl ?_
  refine gw_arg (pc := 949) 1 cx S hL (by omega) (by decide) dL_law_949 dL_law_950 dL_law_951 dL_law_952 dL_law_953 ?_
  refine gw_arg (pc := 954) 2 cx S hL (by omega) (by decide) dL_law_954 dL_law_955 dL_law_956 dL_law_957 dL_law_958 ?_
  refine gw_cV (rest := [.long r]) (av := [.int (xs (6 * j + 1)), .int (xs (6 * j + 2))]) (kc := 49) cx (k_X5_odds E h2) at49 (by decide) lk_L_117 dL_law_959 rfl (Nat.le_of_ble_eq_true rfl) rfl ?_
  show GW E fr 4 962 (lvL E b j) [.long r, .long r] σ2
  refine gw_lcmp cx dL_law_962 rfl ?_
  exact gw_if_eq_t cx (lg_rf r) dL_law_963 (by decide) (kk σ2 hI2)
theorem la_seed {E : Ev} {fr : Fr} {σ : Sg} {b L j : Nat} {xs : Nat → Int32} (cx : Cx E mlaw 12 fr) (S : Scr E fr b L xs) (hL : L ≤ 3072) (hj : j < 512) (h6 : 6 * j + 6 ≤ L) (hI : Inv j σ) (kk : ∀ σ2, Inv (j + 1) σ2 → GW E fr 4 1396 (lvL E b j) [] σ2) : GW E fr 4 968 (lvL E b j) [] σ := by
  obtain ⟨r, σ1, σ2, h1, h2, hI2⟩ := op_seed hI (xs (6 * j + 1))
  refine gw_aload_n cx 2 rfl rfl dL_law_968 rfl ?_
  refine gw_arg (pc := 969) 1 cx S hL (by omega) (by decide) dL_law_969 dL_law_970 dL_law_971 dL_law_972 dL_law_973 ?_
  refine gw_cV (rest := []) (av := [.int (xs (6 * j + 1))]) (kc := 0) cx (k_X4_seed E h1) at0 (by decide) lk_L_118 dL_law_974 rfl (Nat.le_of_ble_eq_true rfl) rfl ?_
  show GW E fr 4 977 (lvL E b j) [.int r] σ1
  refine gw_aload_n cx 1 rfl rfl dL_law_977 rfl ?_
  refine gw_arg (pc := 978) 1 cx S hL (by omega) (by decide) dL_law_978 dL_law_979 dL_law_980 dL_law_981 dL_law_982 ?_
  refine gw_cV (rest := [.int r]) (av := [.int (xs (6 * j + 1))]) (kc := 49) cx (k_X5_seed E h2) at49 (by decide) lk_L_121 dL_law_983 rfl (Nat.le_of_ble_eq_true rfl) rfl ?_
  show GW E fr 4 986 (lvL E b j) [.int r, .int r] σ2
  exact gw_ic_eq_t cx rfl dL_law_986 (by decide) (kk σ2 hI2)
theorem la_feed {E : Ev} {fr : Fr} {σ : Sg} {b L j : Nat} {xs : Nat → Int32} (cx : Cx E mlaw 12 fr) (S : Scr E fr b L xs) (hL : L ≤ 3072) (hj : j < 512) (h6 : 6 * j + 6 ≤ L) (hI : Inv j σ) (kk : ∀ σ2, Inv (j + 1) σ2 → GW E fr 4 1396 (lvL E b j) [] σ2) : GW E fr 4 991 (lvL E b j) [] σ := by
  obtain ⟨r, σ1, σ2, h1, h2, hI2⟩ := op_feed hI (xs (6 * j + 1)) (xs (6 * j + 2))
  refine gw_aload_n cx 2 rfl rfl dL_law_991 rfl ?_
  refine gw_arg (pc := 992) 1 cx S hL (by omega) (by decide) dL_law_992 dL_law_993 dL_law_994 dL_law_995 dL_law_996 ?_
  refine gw_arg (pc := 997) 2 cx S hL (by omega) (by decide) dL_law_997 dL_law_998 dL_law_999 dL_law_1000 dL_law_1001 ?_
  refine gw_cV (rest := []) (av := [.int (xs (6 * j + 1)), .int (xs (6 * j + 2))]) (kc := 0) cx (k_X4_feed E h1) at0 (by decide) lk_L_122 dL_law_1002 rfl (Nat.le_of_ble_eq_true rfl) rfl ?_
  show GW E fr 4 1005 (lvL E b j) [.int r] σ1
  refine gw_aload_n cx 1 rfl rfl dL_law_1005 rfl ?_
  refine gw_arg (pc := 1006) 1 cx S hL (by omega) (by decide) dL_law_1006 dL_law_1007 dL_law_1008 dL_law_1009 dL_law_1010 ?_
  refine gw_arg (pc := 1011) 2 cx S hL (by omega) (by decide) dL_law_1011 dL_law_1012 dL_law_1013 dL_law_1014 dL_law_1015 ?_
  refine gw_cV (rest := [.int r]) (av := [.int (xs (6 * j + 1)), .int (xs (6 * j + 2))]) (kc := 49) cx (k_X5_feed E h2) at49 (by decide) lk_L_125 dL_law_1016 rfl (Nat.le_of_ble_eq_true rfl) rfl ?_
  show GW E fr 4 1019 (lvL E b j) [.int r, .int r] σ2
  exact gw_ic_eq_t cx rfl dL_law_1019 (by decide) (kk σ2 hI2)
theorem la_wipe {E : Ev} {fr : Fr} {σ : Sg} {b L j : Nat} {xs : Nat → Int32} (cx : Cx E mlaw 12 fr) (S : Scr E fr b L xs) (hL : L ≤ 3072) (hj : j < 512) (h6 : 6 * j + 6 ≤ L) (hI : Inv j σ) (kk : ∀ σ2, Inv (j + 1) σ2 → GW E fr 4 1396 (lvL E b j) [] σ2) : GW E fr 4 1024 (lvL E b j) [] σ := by
  obtain ⟨r, σ1, σ2, h1, h2, hI2⟩ := op_wipe hI
  refine gw_aload_n cx 2 rfl rfl dL_law_1024 rfl ?_
  refine gw_cV (rest := []) (av := []) (kc := 0) cx (k_X4_wipe E h1) at0 (by decide) lk_L_126 dL_law_1025 rfl (Nat.le_of_ble_eq_true rfl) rfl ?_
  show GW E fr 4 1028 (lvL E b j) [.int r] σ1
  refine gw_aload_n cx 1 rfl rfl dL_law_1028 rfl ?_
  refine gw_cV (rest := [.int r]) (av := []) (kc := 49) cx (k_X5_wipe E h2) at49 (by decide) lk_L_129 dL_law_1029 rfl (Nat.le_of_ble_eq_true rfl) rfl ?_
  show GW E fr 4 1032 (lvL E b j) [.int r, .int r] σ2
  exact gw_ic_eq_t cx rfl dL_law_1032 (by decide) (kk σ2 hI2)
theorem la_text {E : Ev} {fr : Fr} {σ : Sg} {b L j : Nat} {xs : Nat → Int32} (cx : Cx E mlaw 12 fr) (S : Scr E fr b L xs) (hL : L ≤ 3072) (hj : j < 512) (h6 : 6 * j + 6 ≤ L) (hI : Inv j σ) (kk : ∀ σ2, Inv (j + 1) σ2 → GW E fr 4 1396 (lvL E b j) [] σ2) : GW E fr 4 1037 (lvL E b j) [] σ := by
  obtain ⟨r, σ1, σ2, h1, h2, hI2⟩ := op_text hI
  refine gw_aload_n cx 2 rfl rfl dL_law_1037 rfl ?_
  refine gw_cV (rest := []) (av := []) (kc := 0) cx (k_X4_text E h1) at0 (by decide) lk_L_130 dL_law_1038 rfl (Nat.le_of_ble_eq_true rfl) rfl ?_
  show GW E fr 4 1041 (lvL E b j) [.int r] σ1
  refine gw_aload_n cx 1 rfl rfl dL_law_1041 rfl ?_
  refine gw_cV (rest := [.int r]) (av := []) (kc := 49) cx (k_X5_text E h2) at49 (by decide) lk_L_133 dL_law_1042 rfl (Nat.le_of_ble_eq_true rfl) rfl ?_
  show GW E fr 4 1045 (lvL E b j) [.int r, .int r] σ2
  exact gw_ic_eq_t cx rfl dL_law_1045 (by decide) (kk σ2 hI2)
theorem la_hold {E : Ev} {fr : Fr} {σ : Sg} {b L j : Nat} {xs : Nat → Int32} (cx : Cx E mlaw 12 fr) (S : Scr E fr b L xs) (hL : L ≤ 3072) (hj : j < 512) (h6 : 6 * j + 6 ≤ L) (hI : Inv j σ) (kk : ∀ σ2, Inv (j + 1) σ2 → GW E fr 4 1396 (lvL E b j) [] σ2) : GW E fr 4 1050 (lvL E b j) [] σ := by
  obtain ⟨r, σ1, σ2, h1, h2, hI2⟩ := op_hold hI (xs (6 * j + 1)) (xs (6 * j + 2))
  refine gw_aload_n cx 2 rfl rfl dL_law_1050 rfl ?_
  refine gw_arg (pc := 1051) 1 cx S hL (by omega) (by decide) dL_law_1051 dL_law_1052 dL_law_1053 dL_law_1054 dL_law_1055 ?_
  refine gw_arg (pc := 1056) 2 cx S hL (by omega) (by decide) dL_law_1056 dL_law_1057 dL_law_1058 dL_law_1059 dL_law_1060 ?_
  refine gw_cV (rest := []) (av := [.int (xs (6 * j + 1)), .int (xs (6 * j + 2))]) (kc := 0) cx (k_X4_hold E h1) at0 (by decide) lk_L_134 dL_law_1061 rfl (Nat.le_of_ble_eq_true rfl) rfl ?_
  show GW E fr 4 1064 (lvL E b j) [.int r] σ1
  refine gw_aload_n cx 1 rfl rfl dL_law_1064 rfl ?_
  refine gw_arg (pc := 1065) 1 cx S hL (by omega) (by decide) dL_law_1065 dL_law_1066 dL_law_1067 dL_law_1068 dL_law_1069 ?_
  refine gw_arg (pc := 1070) 2 cx S hL (by omega) (by decide) dL_law_1070 dL_law_1071 dL_law_1072 dL_law_1073 dL_law_1074 ?_
  refine gw_cV (rest := [.int r]) (av := [.int (xs (6 * j + 1)), .int (xs (6 * j + 2))]) (kc := 49) cx (k_X5_hold E h2) at49 (by decide) lk_L_137 dL_law_1075 rfl (Nat.le_of_ble_eq_true rfl) rfl ?_
  show GW E fr 4 1078 (lvL E b j) [.int r, .int r] σ2
  exact gw_ic_eq_t cx rfl dL_law_1078 (by decide) (kk σ2 hI2)
theorem la_as {E : Ev} {fr : Fr} {σ : Sg} {b L j : Nat} {xs : Nat → Int32} (cx : Cx E mlaw 12 fr) (S : Scr E fr b L xs) (hL : L ≤ 3072) (hj : j < 512) (h6 : 6 * j + 6 ≤ L) (hI : Inv j σ) (kk : ∀ σ2, Inv (j + 1) σ2 → GW E fr 4 1396 (lvL E b j) [] σ2) : GW E fr 4 1083 (lvL E b j) [] σ := by
  obtain ⟨r, σ1, σ2, h1, h2, hI2⟩ := op_as hI (xs (6 * j + 1)) (xs (6 * j + 2))
  refine gw_aload_n cx 2 rfl rfl dL_law_1083 rfl ?_
  refine gw_arg (pc := 1084) 1 cx S hL (by omega) (by decide) dL_law_1084 dL_law_1085 dL_law_1086 dL_law_1087 dL_law_1088 ?_
  refine gw_arg (pc := 1089) 2 cx S hL (by omega) (by decide) dL_law_1089 dL_law_1090 dL_law_1091 dL_law_1092 dL_law_1093 ?_
  refine gw_cV (rest := []) (av := [.int (xs (6 * j + 1)), .int (xs (6 * j + 2))]) (kc := 0) cx (k_X4_as E h1) at0 (by decide) lk_L_138 dL_law_1094 rfl (Nat.le_of_ble_eq_true rfl) rfl ?_
  show GW E fr 4 1097 (lvL E b j) [.int r] σ1
  refine gw_aload_n cx 1 rfl rfl dL_law_1097 rfl ?_
  refine gw_arg (pc := 1098) 1 cx S hL (by omega) (by decide) dL_law_1098 dL_law_1099 dL_law_1100 dL_law_1101 dL_law_1102 ?_
  refine gw_arg (pc := 1103) 2 cx S hL (by omega) (by decide) dL_law_1103 dL_law_1104 dL_law_1105 dL_law_1106 dL_law_1107 ?_
  refine gw_cV (rest := [.int r]) (av := [.int (xs (6 * j + 1)), .int (xs (6 * j + 2))]) (kc := 49) cx (k_X5_as E h2) at49 (by decide) lk_L_141 dL_law_1108 rfl (Nat.le_of_ble_eq_true rfl) rfl ?_
  show GW E fr 4 1111 (lvL E b j) [.int r, .int r] σ2
  exact gw_ic_eq_t cx rfl dL_law_1111 (by decide) (kk σ2 hI2)
theorem la_sheet {E : Ev} {fr : Fr} {σ : Sg} {b L j : Nat} {xs : Nat → Int32} (cx : Cx E mlaw 12 fr) (S : Scr E fr b L xs) (hL : L ≤ 3072) (hj : j < 512) (h6 : 6 * j + 6 ≤ L) (hI : Inv j σ) (kk : ∀ σ2, Inv (j + 1) σ2 → GW E fr 4 1396 (lvL E b j) [] σ2) : GW E fr 4 1116 (lvL E b j) [] σ := by
  obtain ⟨r, σ1, σ2, h1, h2, hI2⟩ := op_sheet hI (xs (6 * j + 1)) (xs (6 * j + 2)) (xs (6 * j + 3))
  refine gw_aload_n cx 2 rfl rfl dL_law_1116 rfl ?_
  refine gw_arg (pc := 1117) 1 cx S hL (by omega) (by decide) dL_law_1117 dL_law_1118 dL_law_1119 dL_law_1120 dL_law_1121 ?_
  refine gw_arg (pc := 1122) 2 cx S hL (by omega) (by decide) dL_law_1122 dL_law_1123 dL_law_1124 dL_law_1125 dL_law_1126 ?_
  refine gw_arg (pc := 1127) 3 cx S hL (by omega) (by decide) dL_law_1127 dL_law_1128 dL_law_1129 dL_law_1130 dL_law_1131 ?_
  refine gw_cV (rest := []) (av := [.int (xs (6 * j + 1)), .int (xs (6 * j + 2)), .int (xs (6 * j + 3))]) (kc := 0) cx (k_X4_sheet E h1) at0 (by decide) lk_L_142 dL_law_1132 rfl (Nat.le_of_ble_eq_true rfl) rfl ?_
  show GW E fr 4 1135 (lvL E b j) [.int r] σ1
  refine gw_aload_n cx 1 rfl rfl dL_law_1135 rfl ?_
  refine gw_arg (pc := 1136) 1 cx S hL (by omega) (by decide) dL_law_1136 dL_law_1137 dL_law_1138 dL_law_1139 dL_law_1140 ?_
  refine gw_arg (pc := 1141) 2 cx S hL (by omega) (by decide) dL_law_1141 dL_law_1142 dL_law_1143 dL_law_1144 dL_law_1145 ?_
  refine gw_arg (pc := 1146) 3 cx S hL (by omega) (by decide) dL_law_1146 dL_law_1147 dL_law_1148 dL_law_1149 dL_law_1150 ?_
  refine gw_cV (rest := [.int r]) (av := [.int (xs (6 * j + 1)), .int (xs (6 * j + 2)), .int (xs (6 * j + 3))]) (kc := 49) cx (k_X5_sheet E h2) at49 (by decide) lk_L_145 dL_law_1151 rfl (Nat.le_of_ble_eq_true rfl) rfl ?_
  show GW E fr 4 1154 (lvL E b j) [.int r, .int r] σ2
  exact gw_ic_eq_t cx rfl dL_law_1154 (by decide) (kk σ2 hI2)
theorem la_write {E : Ev} {fr : Fr} {σ : Sg} {b L j : Nat} {xs : Nat → Int32} (cx : Cx E mlaw 12 fr) (S : Scr E fr b L xs) (hL : L ≤ 3072) (hj : j < 512) (h6 : 6 * j + 6 ≤ L) (hI : Inv j σ) (kk : ∀ σ2, Inv (j + 1) σ2 → GW E fr 4 1396 (lvL E b j) [] σ2) : GW E fr 4 1159 (lvL E b j) [] σ := by
  obtain ⟨r, σ1, σ2, h1, h2, hI2⟩ := op_write hI (xs (6 * j + 1)) (xs (6 * j + 2)) (xs (6 * j + 3))
  refine gw_aload_n cx 2 rfl rfl dL_law_1159 rfl ?_
  refine gw_arg (pc := 1160) 1 cx S hL (by omega) (by decide) dL_law_1160 dL_law_1161 dL_law_1162 dL_law_1163 dL_law_1164 ?_
  refine gw_arg (pc := 1165) 2 cx S hL (by omega) (by decide) dL_law_1165 dL_law_1166 dL_law_1167 dL_law_1168 dL_law_1169 ?_
  refine gw_arg (pc := 1170) 3 cx S hL (by omega) (by decide) dL_law_1170 dL_law_1171 dL_law_1172 dL_law_1173 dL_law_1174 ?_
  refine gw_cV (rest := []) (av := [.int (xs (6 * j + 1)), .int (xs (6 * j + 2)), .int (xs (6 * j + 3))]) (kc := 0) cx (k_X4_write E h1) at0 (by decide) lk_L_146 dL_law_1175 rfl (Nat.le_of_ble_eq_true rfl) rfl ?_
  show GW E fr 4 1178 (lvL E b j) [.int r] σ1
  refine gw_aload_n cx 1 rfl rfl dL_law_1178 rfl ?_
  refine gw_arg (pc := 1179) 1 cx S hL (by omega) (by decide) dL_law_1179 dL_law_1180 dL_law_1181 dL_law_1182 dL_law_1183 ?_
  refine gw_arg (pc := 1184) 2 cx S hL (by omega) (by decide) dL_law_1184 dL_law_1185 dL_law_1186 dL_law_1187 dL_law_1188 ?_
  refine gw_arg (pc := 1189) 3 cx S hL (by omega) (by decide) dL_law_1189 dL_law_1190 dL_law_1191 dL_law_1192 dL_law_1193 ?_
  refine gw_cV (rest := [.int r]) (av := [.int (xs (6 * j + 1)), .int (xs (6 * j + 2)), .int (xs (6 * j + 3))]) (kc := 49) cx (k_X5_write E h2) at49 (by decide) lk_L_149 dL_law_1194 rfl (Nat.le_of_ble_eq_true rfl) rfl ?_
  show GW E fr 4 1197 (lvL E b j) [.int r, .int r] σ2
  exact gw_ic_eq_t cx rfl dL_law_1197 (by decide) (kk σ2 hI2)
theorem la_copy {E : Ev} {fr : Fr} {σ : Sg} {b L j : Nat} {xs : Nat → Int32} (cx : Cx E mlaw 12 fr) (S : Scr E fr b L xs) (hL : L ≤ 3072) (hj : j < 512) (h6 : 6 * j + 6 ≤ L) (hI : Inv j σ) (kk : ∀ σ2, Inv (j + 1) σ2 → GW E fr 4 1396 (lvL E b j) [] σ2) : GW E fr 4 1202 (lvL E b j) [] σ := by
  obtain ⟨r, σ1, σ2, h1, h2, hI2⟩ := op_copy hI (xs (6 * j + 1)) (xs (6 * j + 2)) (xs (6 * j + 3)) (xs (6 * j + 4)) (xs (6 * j + 5))
  refine gw_aload_n cx 2 rfl rfl dL_law_1202 rfl ?_
  refine gw_arg (pc := 1203) 1 cx S hL (by omega) (by decide) dL_law_1203 dL_law_1204 dL_law_1205 dL_law_1206 dL_law_1207 ?_
  refine gw_arg (pc := 1208) 2 cx S hL (by omega) (by decide) dL_law_1208 dL_law_1209 dL_law_1210 dL_law_1211 dL_law_1212 ?_
  refine gw_arg (pc := 1213) 3 cx S hL (by omega) (by decide) dL_law_1213 dL_law_1214 dL_law_1215 dL_law_1216 dL_law_1217 ?_
  refine gw_arg (pc := 1218) 4 cx S hL (by omega) (by decide) dL_law_1218 dL_law_1219 dL_law_1220 dL_law_1221 dL_law_1222 ?_
  refine gw_arg (pc := 1223) 5 cx S hL (by omega) (by decide) dL_law_1223 dL_law_1224 dL_law_1225 dL_law_1226 dL_law_1227 ?_
  refine gw_cV (rest := []) (av := [.int (xs (6 * j + 1)), .int (xs (6 * j + 2)), .int (xs (6 * j + 3)), .int (xs (6 * j + 4)), .int (xs (6 * j + 5))]) (kc := 0) cx (k_X4_copy E h1) at0 (by decide) lk_L_150 dL_law_1228 rfl (Nat.le_of_ble_eq_true rfl) rfl ?_
  show GW E fr 4 1231 (lvL E b j) [.int r] σ1
  refine gw_aload_n cx 1 rfl rfl dL_law_1231 rfl ?_
  refine gw_arg (pc := 1232) 1 cx S hL (by omega) (by decide) dL_law_1232 dL_law_1233 dL_law_1234 dL_law_1235 dL_law_1236 ?_
  refine gw_arg (pc := 1237) 2 cx S hL (by omega) (by decide) dL_law_1237 dL_law_1238 dL_law_1239 dL_law_1240 dL_law_1241 ?_
  refine gw_arg (pc := 1242) 3 cx S hL (by omega) (by decide) dL_law_1242 dL_law_1243 dL_law_1244 dL_law_1245 dL_law_1246 ?_
  refine gw_arg (pc := 1247) 4 cx S hL (by omega) (by decide) dL_law_1247 dL_law_1248 dL_law_1249 dL_law_1250 dL_law_1251 ?_
  refine gw_arg (pc := 1252) 5 cx S hL (by omega) (by decide) dL_law_1252 dL_law_1253 dL_law_1254 dL_law_1255 dL_law_1256 ?_
  refine gw_cV (rest := [.int r]) (av := [.int (xs (6 * j + 1)), .int (xs (6 * j + 2)), .int (xs (6 * j + 3)), .int (xs (6 * j + 4)), .int (xs (6 * j + 5))]) (kc := 49) cx (k_X5_copy E h2) at49 (by decide) lk_L_154 dL_law_1257 rfl (Nat.le_of_ble_eq_true rfl) rfl ?_
  show GW E fr 4 1260 (lvL E b j) [.int r, .int r] σ2
  exact gw_ic_eq_t cx rfl dL_law_1260 (by decide) (kk σ2 hI2)
theorem la_load {E : Ev} {fr : Fr} {σ : Sg} {b L j : Nat} {xs : Nat → Int32} (cx : Cx E mlaw 12 fr) (S : Scr E fr b L xs) (hL : L ≤ 3072) (hj : j < 512) (h6 : 6 * j + 6 ≤ L) (hI : Inv j σ) (kk : ∀ σ2, Inv (j + 1) σ2 → GW E fr 4 1396 (lvL E b j) [] σ2) : GW E fr 4 1265 (lvL E b j) [] σ := by
  obtain ⟨r, σ1, σ2, h1, h2, hI2⟩ := op_load hI (xs (6 * j + 1))
  refine gw_aload_n cx 2 rfl rfl dL_law_1265 rfl ?_
  refine gw_arg (pc := 1266) 1 cx S hL (by omega) (by decide) dL_law_1266 dL_law_1267 dL_law_1268 dL_law_1269 dL_law_1270 ?_
  refine gw_cV (rest := []) (av := [.int (xs (6 * j + 1))]) (kc := 0) cx (k_X4_load E h1) at0 (by decide) lk_L_155 dL_law_1271 rfl (Nat.le_of_ble_eq_true rfl) rfl ?_
  show GW E fr 4 1274 (lvL E b j) [.int r] σ1
  refine gw_aload_n cx 1 rfl rfl dL_law_1274 rfl ?_
  refine gw_arg (pc := 1275) 1 cx S hL (by omega) (by decide) dL_law_1275 dL_law_1276 dL_law_1277 dL_law_1278 dL_law_1279 ?_
  refine gw_cV (rest := [.int r]) (av := [.int (xs (6 * j + 1))]) (kc := 49) cx (k_X5_load E h2) at49 (by decide) lk_L_158 dL_law_1280 rfl (Nat.le_of_ble_eq_true rfl) rfl ?_
  show GW E fr 4 1283 (lvL E b j) [.int r, .int r] σ2
  exact gw_ic_eq_t cx rfl dL_law_1283 (by decide) (kk σ2 hI2)
theorem la_judge {E : Ev} {fr : Fr} {σ : Sg} {b L j : Nat} {xs : Nat → Int32} (cx : Cx E mlaw 12 fr) (S : Scr E fr b L xs) (hL : L ≤ 3072) (hj : j < 512) (h6 : 6 * j + 6 ≤ L) (hI : Inv j σ) (kk : ∀ σ2, Inv (j + 1) σ2 → GW E fr 4 1396 (lvL E b j) [] σ2) : GW E fr 4 1288 (lvL E b j) [] σ := by
  obtain ⟨r, σ1, σ2, h1, h2, hI2⟩ := op_judge hI (xs (6 * j + 1))
  refine gw_aload_n cx 2 rfl rfl dL_law_1288 rfl ?_
  refine gw_arg (pc := 1289) 1 cx S hL (by omega) (by decide) dL_law_1289 dL_law_1290 dL_law_1291 dL_law_1292 dL_law_1293 ?_
  refine gw_cV (rest := []) (av := [.int (xs (6 * j + 1))]) (kc := 0) cx (k_X4_judge E h1) at0 (by decide) lk_L_159 dL_law_1294 rfl (Nat.le_of_ble_eq_true rfl) rfl ?_
  show GW E fr 4 1297 (lvL E b j) [.int r] σ1
  refine gw_aload_n cx 1 rfl rfl dL_law_1297 rfl ?_
  refine gw_arg (pc := 1298) 1 cx S hL (by omega) (by decide) dL_law_1298 dL_law_1299 dL_law_1300 dL_law_1301 dL_law_1302 ?_
  refine gw_cV (rest := [.int r]) (av := [.int (xs (6 * j + 1))]) (kc := 49) cx (k_X5_judge E h2) at49 (by decide) lk_L_162 dL_law_1303 rfl (Nat.le_of_ble_eq_true rfl) rfl ?_
  show GW E fr 4 1306 (lvL E b j) [.int r, .int r] σ2
  exact gw_ic_eq_t cx rfl dL_law_1306 (by decide) (kk σ2 hI2)
theorem la_image {E : Ev} {fr : Fr} {σ : Sg} {b L j : Nat} {xs : Nat → Int32} (cx : Cx E mlaw 12 fr) (S : Scr E fr b L xs) (hL : L ≤ 3072) (hj : j < 512) (h6 : 6 * j + 6 ≤ L) (hI : Inv j σ) (kk : ∀ σ2, Inv (j + 1) σ2 → GW E fr 4 1396 (lvL E b j) [] σ2) : GW E fr 4 1311 (lvL E b j) [] σ := by
  obtain ⟨r, σ1, σ2, h1, h2, hI2⟩ := op_image hI
  refine gw_aload_n cx 2 rfl rfl dL_law_1311 rfl ?_
  refine gw_cV (rest := []) (av := []) (kc := 0) cx (k_X4_image E h1) at0 (by decide) lk_L_163 dL_law_1312 rfl (Nat.le_of_ble_eq_true rfl) rfl ?_
  show GW E fr 4 1315 (lvL E b j) [.int r] σ1
  refine gw_aload_n cx 1 rfl rfl dL_law_1315 rfl ?_
  refine gw_cV (rest := [.int r]) (av := []) (kc := 49) cx (k_X5_image E h2) at49 (by decide) lk_L_166 dL_law_1316 rfl (Nat.le_of_ble_eq_true rfl) rfl ?_
  show GW E fr 4 1319 (lvL E b j) [.int r, .int r] σ2
  exact gw_ic_eq_t cx rfl dL_law_1319 (by decide) (kk σ2 hI2)
theorem la_undo {E : Ev} {fr : Fr} {σ : Sg} {b L j : Nat} {xs : Nat → Int32} (cx : Cx E mlaw 12 fr) (S : Scr E fr b L xs) (hL : L ≤ 3072) (hj : j < 512) (h6 : 6 * j + 6 ≤ L) (hI : Inv j σ) (kk : ∀ σ2, Inv (j + 1) σ2 → GW E fr 4 1396 (lvL E b j) [] σ2) : GW E fr 4 1324 (lvL E b j) [] σ := by
  obtain ⟨r, σ1, σ2, h1, h2, hI2⟩ := op_undo hI
  refine gw_aload_n cx 2 rfl rfl dL_law_1324 rfl ?_
  refine gw_cV (rest := []) (av := []) (kc := 0) cx (k_X4_undo E h1) at0 (by decide) lk_L_167 dL_law_1325 rfl (Nat.le_of_ble_eq_true rfl) rfl ?_
  show GW E fr 4 1328 (lvL E b j) [.int r] σ1
  refine gw_aload_n cx 1 rfl rfl dL_law_1328 rfl ?_
  refine gw_cV (rest := [.int r]) (av := []) (kc := 49) cx (k_X5_undo E h2) at49 (by decide) lk_L_170 dL_law_1329 rfl (Nat.le_of_ble_eq_true rfl) rfl ?_
  show GW E fr 4 1332 (lvL E b j) [.int r, .int r] σ2
  exact gw_ic_eq_t cx rfl dL_law_1332 (by decide) (kk σ2 hI2)
theorem la_tear {E : Ev} {fr : Fr} {σ : Sg} {b L j : Nat} {xs : Nat → Int32} (cx : Cx E mlaw 12 fr) (S : Scr E fr b L xs) (hL : L ≤ 3072) (hj : j < 512) (h6 : 6 * j + 6 ≤ L) (hI : Inv j σ) (kk : ∀ σ2, Inv (j + 1) σ2 → GW E fr 4 1396 (lvL E b j) [] σ2) : GW E fr 4 1337 (lvL E b j) [] σ := by
  obtain ⟨r, σ1, σ2, h1, h2, hI2⟩ := op_tear hI
  refine gw_aload_n cx 2 rfl rfl dL_law_1337 rfl ?_
  refine gw_cV (rest := []) (av := []) (kc := 0) cx (k_X4_tear E h1) at0 (by decide) lk_L_171 dL_law_1338 rfl (Nat.le_of_ble_eq_true rfl) rfl ?_
  show GW E fr 4 1341 (lvL E b j) [.int r] σ1
  refine gw_aload_n cx 1 rfl rfl dL_law_1341 rfl ?_
  refine gw_cV (rest := [.int r]) (av := []) (kc := 49) cx (k_X5_tear E h2) at49 (by decide) lk_L_174 dL_law_1342 rfl (Nat.le_of_ble_eq_true rfl) rfl ?_
  show GW E fr 4 1345 (lvL E b j) [.int r, .int r] σ2
  exact gw_ic_eq_t cx rfl dL_law_1345 (by decide) (kk σ2 hI2)
theorem la_count {E : Ev} {fr : Fr} {σ : Sg} {b L j : Nat} {xs : Nat → Int32} (cx : Cx E mlaw 12 fr) (S : Scr E fr b L xs) (hL : L ≤ 3072) (hj : j < 512) (h6 : 6 * j + 6 ≤ L) (hI : Inv j σ) (kk : ∀ σ2, Inv (j + 1) σ2 → GW E fr 4 1396 (lvL E b j) [] σ2) : GW E fr 4 1350 (lvL E b j) [] σ := by
  obtain ⟨r, σ1, σ2, h1, h2, hI2⟩ := op_count hI (xs (6 * j + 1))
  refine gw_aload_n cx 2 rfl rfl dL_law_1350 rfl ?_
  refine gw_arg (pc := 1351) 1 cx S hL (by omega) (by decide) dL_law_1351 dL_law_1352 dL_law_1353 dL_law_1354 dL_law_1355 ?_
  refine gw_cV (rest := []) (av := [.int (xs (6 * j + 1))]) (kc := 0) cx (k_X4_count E h1) at0 (by decide) lk_L_175 dL_law_1356 rfl (Nat.le_of_ble_eq_true rfl) rfl ?_
  show GW E fr 4 1359 (lvL E b j) [.int r] σ1
  refine gw_aload_n cx 1 rfl rfl dL_law_1359 rfl ?_
  refine gw_arg (pc := 1360) 1 cx S hL (by omega) (by decide) dL_law_1360 dL_law_1361 dL_law_1362 dL_law_1363 dL_law_1364 ?_
  refine gw_cV (rest := [.int r]) (av := [.int (xs (6 * j + 1))]) (kc := 49) cx (k_X5_count E h2) at49 (by decide) lk_L_178 dL_law_1365 rfl (Nat.le_of_ble_eq_true rfl) rfl ?_
  show GW E fr 4 1368 (lvL E b j) [.int r, .int r] σ2
  exact gw_ic_eq_t cx rfl dL_law_1368 (by decide) (kk σ2 hI2)
theorem la_status {E : Ev} {fr : Fr} {σ : Sg} {b L j : Nat} {xs : Nat → Int32} (cx : Cx E mlaw 12 fr) (S : Scr E fr b L xs) (hL : L ≤ 3072) (hj : j < 512) (h6 : 6 * j + 6 ≤ L) (hI : Inv j σ) (kk : ∀ σ2, Inv (j + 1) σ2 → GW E fr 4 1396 (lvL E b j) [] σ2) : GW E fr 4 1373 (lvL E b j) [] σ := by
  obtain ⟨r, σ1, σ2, h1, h2, hI2⟩ := op_status hI (xs (6 * j + 1))
  refine gw_aload_n cx 2 rfl rfl dL_law_1373 rfl ?_
  refine gw_arg (pc := 1374) 1 cx S hL (by omega) (by decide) dL_law_1374 dL_law_1375 dL_law_1376 dL_law_1377 dL_law_1378 ?_
  refine gw_cV (rest := []) (av := [.int (xs (6 * j + 1))]) (kc := 0) cx (k_X4_status E h1) at0 (by decide) lk_L_179 dL_law_1379 rfl (Nat.le_of_ble_eq_true rfl) rfl ?_
  show GW E fr 4 1382 (lvL E b j) [.int r] σ1
  refine gw_aload_n cx 1 rfl rfl dL_law_1382 rfl ?_
  refine gw_arg (pc := 1383) 1 cx S hL (by omega) (by decide) dL_law_1383 dL_law_1384 dL_law_1385 dL_law_1386 dL_law_1387 ?_
  refine gw_cV (rest := [.int r]) (av := [.int (xs (6 * j + 1))]) (kc := 49) cx (k_X5_status E h2) at49 (by decide) lk_L_182 dL_law_1388 rfl (Nat.le_of_ble_eq_true rfl) rfl ?_
  show GW E fr 4 1391 (lvL E b j) [.int r, .int r] σ2
  exact gw_ic_eq_t cx rfl dL_law_1391 (by decide) (kk σ2 hI2)
theorem law_sw {E : Ev} {fr : Fr} {σ : Sg} {b L j : Nat} {xs : Nat → Int32} (cx : Cx E mlaw 12 fr) (S : Scr E fr b L xs) (hL : L ≤ 3072) (hj : j < 512) (h6 : 6 * j + 6 ≤ L) (hI : Inv j σ) (x : Int32) (kk : ∀ σ2, Inv (j + 1) σ2 → GW E fr 4 1396 (lvL E b j) [] σ2) : GW E fr 4 33 (lvL E b j) [.int (x &&& 63)] σ := by
  obtain ⟨v, hv, e⟩ := pk_andE x (m := 63) 6 (by decide)
  rw [e]
  by_cases h41 : 41 ≤ v
  · exact gw_tout (pc' := 1396) cx dL_law_33 (Or.inr (by rw [nI_toInt (by omega)]; omega)) (by decide) (kk σ (hI.mono (by omega)))
  · have c : v = 0 ∨ v = 1 ∨ v = 2 ∨ v = 3 ∨ v = 4 ∨ v = 5 ∨ v = 6 ∨ v = 7 ∨ v = 8 ∨ v = 9 ∨ v = 10 ∨ v = 11 ∨ v = 12 ∨ v = 13 ∨ v = 14 ∨ v = 15 ∨ v = 16 ∨ v = 17 ∨ v = 18 ∨ v = 19 ∨ v = 20 ∨ v = 21 ∨ v = 22 ∨ v = 23 ∨ v = 24 ∨ v = 25 ∨ v = 26 ∨ v = 27 ∨ v = 28 ∨ v = 29 ∨ v = 30 ∨ v = 31 ∨ v = 32 ∨ v = 33 ∨ v = 34 ∨ v = 35 ∨ v = 36 ∨ v = 37 ∨ v = 38 ∨ v = 39 ∨ v = 40 := by omega
    rcases c with rfl | rfl | rfl | rfl | rfl | rfl | rfl | rfl | rfl | rfl | rfl | rfl | rfl | rfl | rfl | rfl | rfl | rfl | rfl | rfl | rfl | rfl | rfl | rfl | rfl | rfl | rfl | rfl | rfl | rfl | rfl | rfl | rfl | rfl | rfl | rfl | rfl | rfl | rfl | rfl | rfl
    · exact gw_tin (pc' := 212) (off := 179) 0 cx rfl dL_law_33 (by decide) (by decide) (la_say cx S hL hj h6 hI kk)
    · exact gw_tin (pc' := 255) (off := 222) 1 cx rfl dL_law_33 (by decide) (by decide) (la_said cx S hL hj h6 hI kk)
    · exact gw_tin (pc' := 278) (off := 245) 2 cx rfl dL_law_33 (by decide) (by decide) (la_person cx S hL hj h6 hI kk)
    · exact gw_tin (pc' := 311) (off := 278) 3 cx rfl dL_law_33 (by decide) (by decide) (la_of cx S hL hj h6 hI kk)
    · exact gw_tin (pc' := 344) (off := 311) 4 cx rfl dL_law_33 (by decide) (by decide) (la_change cx S hL hj h6 hI kk)
    · exact gw_tin (pc' := 387) (off := 354) 5 cx rfl dL_law_33 (by decide) (by decide) (la_feels cx S hL hj h6 hI kk)
    · exact gw_tin (pc' := 420) (off := 387) 6 cx rfl dL_law_33 (by decide) (by decide) (la_bearer cx S hL hj h6 hI kk)
    · exact gw_tin (pc' := 453) (off := 420) 7 cx rfl dL_law_33 (by decide) (by decide) (la_go cx S hL hj h6 hI kk)
    · exact gw_tin (pc' := 476) (off := 443) 8 cx rfl dL_law_33 (by decide) (by decide) (la_now cx S hL hj h6 hI kk)
    · exact gw_tin (pc' := 499) (off := 466) 9 cx rfl dL_law_33 (by decide) (by decide) (la_ahead cx S hL hj h6 hI kk)
    · exact gw_tin (pc' := 542) (off := 509) 10 cx rfl dL_law_33 (by decide) (by decide) (la_hints cx S hL hj h6 hI kk)
    · exact gw_tin (pc' := 565) (off := 532) 11 cx rfl dL_law_33 (by decide) (by decide) (la_even cx S hL hj h6 hI kk)
    · exact gw_tin (pc' := 578) (off := 545) 12 cx rfl dL_law_33 (by decide) (by decide) (la_when cx S hL hj h6 hI kk)
    · exact gw_tin (pc' := 611) (off := 578) 13 cx rfl dL_law_33 (by decide) (by decide) (la_clean cx S hL hj h6 hI kk)
    · exact gw_tin (pc' := 634) (off := 601) 14 cx rfl dL_law_33 (by decide) (by decide) (la_whom cx S hL hj h6 hI kk)
    · exact gw_tin (pc' := 657) (off := 624) 15 cx rfl dL_law_33 (by decide) (by decide) (la_weightFor cx S hL hj h6 hI kk)
    · exact gw_tin (pc' := 680) (off := 647) 16 cx rfl dL_law_33 (by decide) (by decide) (la_buildFor cx S hL hj h6 hI kk)
    · exact gw_tin (pc' := 713) (off := 680) 17 cx rfl dL_law_33 (by decide) (by decide) (la_kindFor cx S hL hj h6 hI kk)
    · exact gw_tin (pc' := 746) (off := 713) 18 cx rfl dL_law_33 (by decide) (by decide) (la_refuse cx S hL hj h6 hI kk)
    · exact gw_tin (pc' := 789) (off := 756) 19 cx rfl dL_law_33 (by decide) (by decide) (la_swapFor cx S hL hj h6 hI kk)
    · exact gw_tin (pc' := 812) (off := 779) 20 cx rfl dL_law_33 (by decide) (by decide) (la_fits cx S hL hj h6 hI kk)
    · exact gw_tin (pc' := 845) (off := 812) 21 cx rfl dL_law_33 (by decide) (by decide) (la_weighed cx S hL hj h6 hI kk)
    · exact gw_tin (pc' := 878) (off := 845) 22 cx rfl dL_law_33 (by decide) (by decide) (la_kinds cx S hL hj h6 hI kk)
    · exact gw_tin (pc' := 911) (off := 878) 23 cx rfl dL_law_33 (by decide) (by decide) (la_gossip cx S hL hj h6 hI kk)
    · exact gw_tin (pc' := 934) (off := 901) 24 cx rfl dL_law_33 (by decide) (by decide) (la_odds cx S hL hj h6 hI kk)
    · exact gw_tin (pc' := 968) (off := 935) 25 cx rfl dL_law_33 (by decide) (by decide) (la_seed cx S hL hj h6 hI kk)
    · exact gw_tin (pc' := 991) (off := 958) 26 cx rfl dL_law_33 (by decide) (by decide) (la_feed cx S hL hj h6 hI kk)
    · exact gw_tin (pc' := 1024) (off := 991) 27 cx rfl dL_law_33 (by decide) (by decide) (la_wipe cx S hL hj h6 hI kk)
    · exact gw_tin (pc' := 1037) (off := 1004) 28 cx rfl dL_law_33 (by decide) (by decide) (la_text cx S hL hj h6 hI kk)
    · exact gw_tin (pc' := 1050) (off := 1017) 29 cx rfl dL_law_33 (by decide) (by decide) (la_hold cx S hL hj h6 hI kk)
    · exact gw_tin (pc' := 1083) (off := 1050) 30 cx rfl dL_law_33 (by decide) (by decide) (la_as cx S hL hj h6 hI kk)
    · exact gw_tin (pc' := 1116) (off := 1083) 31 cx rfl dL_law_33 (by decide) (by decide) (la_sheet cx S hL hj h6 hI kk)
    · exact gw_tin (pc' := 1159) (off := 1126) 32 cx rfl dL_law_33 (by decide) (by decide) (la_write cx S hL hj h6 hI kk)
    · exact gw_tin (pc' := 1202) (off := 1169) 33 cx rfl dL_law_33 (by decide) (by decide) (la_copy cx S hL hj h6 hI kk)
    · exact gw_tin (pc' := 1265) (off := 1232) 34 cx rfl dL_law_33 (by decide) (by decide) (la_load cx S hL hj h6 hI kk)
    · exact gw_tin (pc' := 1288) (off := 1255) 35 cx rfl dL_law_33 (by decide) (by decide) (la_judge cx S hL hj h6 hI kk)
    · exact gw_tin (pc' := 1311) (off := 1278) 36 cx rfl dL_law_33 (by decide) (by decide) (la_image cx S hL hj h6 hI kk)
    · exact gw_tin (pc' := 1324) (off := 1291) 37 cx rfl dL_law_33 (by decide) (by decide) (la_undo cx S hL hj h6 hI kk)
    · exact gw_tin (pc' := 1337) (off := 1304) 38 cx rfl dL_law_33 (by decide) (by decide) (la_tear cx S hL hj h6 hI kk)
    · exact gw_tin (pc' := 1350) (off := 1317) 39 cx rfl dL_law_33 (by decide) (by decide) (la_count cx S hL hj h6 hI kk)
    · exact gw_tin (pc' := 1373) (off := 1340) 40 cx rfl dL_law_33 (by decide) (by decide) (la_status cx S hL hj h6 hI kk)
theorem law_loop {E : Ev} {fr : Fr} {b L : Nat} {xs : Nat → Int32} (cx : Cx E mlaw 12 fr) (S : Scr E fr b L xs) (hL : L ≤ 3072) (kend : ∀ (j : Nat) (σ : Sg), GW E fr 4 1402 (lvL E b j) [] σ) : ∀ (n j : Nat) (σ : Sg), L < 6 * (j + n) + 6 → 6 * j ≤ L → Inv j σ → GW E fr 4 18 (lvL E b j) [] σ := by
  intro n
  induction n with
  | zero =>
    intro j σ h1 h2 hI
    refine gw_iload_n cx 0 rfl rfl dL_law_18 rfl ?_
    refine gw_aload_n cx 3 rfl rfl dL_law_19 rfl ?_
    refine gw_slen cx S dL_law_20 rfl ?_
    refine gw_bipush (v := nI 6) cx (by decide) dL_law_21 rfl ?_
    refine gw_isub cx dL_law_23 rfl ?_
    exact gw_ic_gt_t cx (by rw [Int32.lt_iff_toInt_lt, pk_sub_toInt (by omega) (by omega), nI_toInt (by omega)]; omega) dL_law_24 (by decide) (kend j σ)
  | succ n ih =>
    intro j σ h1 h2 hI
    refine gw_iload_n cx 0 rfl rfl dL_law_18 rfl ?_
    refine gw_aload_n cx 3 rfl rfl dL_law_19 rfl ?_
    refine gw_slen cx S dL_law_20 rfl ?_
    refine gw_bipush (v := nI 6) cx (by decide) dL_law_21 rfl ?_
    refine gw_isub cx dL_law_23 rfl ?_
    by_cases h6 : 6 * j + 6 ≤ L
    · refine gw_ic_gt_f cx (by rw [Int32.lt_iff_toInt_lt, pk_sub_toInt (by omega) (by omega), nI_toInt (by omega)]; omega) dL_law_24 ⟨1402, by decide⟩ rfl ?_
      refine gw_aload_n cx 3 rfl rfl dL_law_27 rfl ?_
      refine gw_iload_n cx 0 rfl rfl dL_law_28 rfl ?_
      refine gw_sld cx S (vp_nI (show 6 * j < L by omega) (by omega)) (cl_nI (by omega)) dL_law_29 rfl ?_
      refine gw_bipush (v := 63) cx (by decide) dL_law_30 rfl ?_
      refine gw_iand cx dL_law_32 rfl ?_
      refine law_sw cx S hL (by omega) h6 hI _ (fun σ2 hI2 => ?_)
      refine gw_iinc (v := nI (6 * (j + 1))) (lv' := lvL E b (j + 1)) cx 0 rfl (by rw [show Int32.ofInt 6 = nI 6 from rfl, nI_add]; rfl) rfl (by decide) dL_law_1396 rfl ?_
      exact gw_goto cx dL_law_1399 (by decide) (ih (j + 1) σ2 (by omega) (by omega) hI2)
    · exact gw_ic_gt_t cx (by rw [Int32.lt_iff_toInt_lt, pk_sub_toInt (by omega) (by omega), nI_toInt (by omega)]; omega) dL_law_24 (by decide) (kend j σ)
