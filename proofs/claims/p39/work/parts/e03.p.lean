/-! the law's cases -/
section
variable {B : Prop} {x : gz_X} {pf : Nat → Bool} {l : Launch} {b L i k : Nat} {xs : Nat → Int32} {M : gz_M}
theorem gq_sRhM (M N : gz_M) : ∀ r, gz_sR (gq_hM M N r) = gz_sR M
  | none => gz_sRpC M N
  | some v => by
    have e : gz_sR (gz_wl (gz_pC M N) 2 v) = gz_sR (gz_pC M N) := Prod.ext rfl (funext fun i => by
      show (if 3 * i + 1 = 2 then v else (gz_pC M N).2 (3 * i + 1)) = (gz_pC M N).2 (3 * i + 1)
      rw [if_neg (by omega)])
    exact e.trans (gz_sRpC M N)
theorem gq_sChM (M N : gz_M) : ∀ r, gz_sC (gq_hM M N r) = N
  | none => gz_sCpC M N
  | some v => by
    have e : gz_sC (gz_wl (gz_pC M N) 2 v) = gz_sC (gz_pC M N) := Prod.ext rfl (funext fun i => by
      show (if 3 * i = 2 then v else (gz_pC M N).2 (3 * i)) = (gz_pC M N).2 (3 * i)
      rw [if_neg (by omega)])
    exact e.trans (gz_sCpC M N)
theorem gq_case_0 (hl9 : l.stackTraces = false) (F : gq_LF x pf l b L xs) (hL : L ≤ 3072) (hi : i + 6 ≤ L) (hu : gz_UL x (k + 1)) (hR : gp_R B pf (gz_sC M) (gz_sR M)) (kk : gq_K B x l b L xs i k) : gz_At x 216 (gq_lv x b i) [] M := by
  obtain ⟨cu, tx, bk, us, ks, o, h⟩ := hR
  have hc := hu.c
  obtain ⟨v, Mc, Mr, e1, e2, hRR⟩ := gp_a2 h (xs (i + 1))
  refine gr_aload_n F.1 dL_law_216 1 rfl rfl ?_
  refine gq_arg F hL (q := 1) rfl (by omega) 0 4 rfl rfl dL_law_217 dL_law_218 dL_law_220 dL_law_221 dL_law_222 ?_
  refine gr_callI (kb := 0) [.int (xs (i + 1))] F.1 (gz_liftCI (asF := fun ad => [.ref (ad 0), .int (xs (i + 1))]) (c11_sign e1)) rfl wm_RL_30 rfl (F.1.kd gk_L0).1 ((F.1.kd gk_L0).2 _ _ _ _) rfl (by decide) (by decide) rfl (Nat.le_of_ble_eq_true rfl) hc dL_law_223 ?_
  refine gr_pop F.1 dL_law_226 rfl ?_
  refine gr_aload_n F.1 dL_law_227 2 rfl rfl ?_
  refine gq_arg F hL (q := 1) rfl (by omega) 0 4 rfl rfl dL_law_228 dL_law_229 dL_law_231 dL_law_232 dL_law_233 ?_
  have e2b : f12_sign (xs (i + 1)) (gz_sR (gz_pC M Mc)) = some (v, Mr) := by rw [gz_sRpC]; exact e2
  refine gr_callI (kb := 1) [.int (xs (i + 1))] F.1 (gz_liftRI (asF := fun ad => [.ref (ad 0), .int (xs (i + 1))]) (c12_sign e2b)) rfl wm_RL_33 rfl (F.1.kd gk_L1).1 ((F.1.kd gk_L1).2 _ _ _ _) rfl (by decide) (by decide) rfl (Nat.le_of_ble_eq_true rfl) hc dL_law_234 ?_
  refine gr_pop F.1 dL_law_237 rfl ?_
  refine gr_goto 1348 F.1 dL_law_238 (by decide) ?_
  exact kk x pf _ gz_StL.rf F (hu.le (by omega)) (by rw [gz_sCpR, gz_sCpC, gz_sRpR]; exact hRR)
theorem gq_case_1 (hl9 : l.stackTraces = false) (F : gq_LF x pf l b L xs) (hL : L ≤ 3072) (hi : i + 6 ≤ L) (hu : gz_UL x (k + 1)) (hR : gp_R B pf (gz_sC M) (gz_sR M)) (kk : gq_K B x l b L xs i k) : gz_At x 241 (gq_lv x b i) [] M := by
  obtain ⟨cu, tx, bk, us, ks, o, h⟩ := hR
  have hc := hu.c
  obtain ⟨v, Mc, Mr, e1, e2, hRR⟩ := gp_a3 h (xs (i + 1))
  refine gr_aload_n F.1 dL_law_241 1 rfl rfl ?_
  refine gq_arg F hL (q := 1) rfl (by omega) 0 4 rfl rfl dL_law_242 dL_law_243 dL_law_245 dL_law_246 dL_law_247 ?_
  refine gr_callI (kb := 0) [.int (xs (i + 1))] F.1 (gz_liftCI (asF := fun ad => [.ref (ad 0), .int (xs (i + 1))]) (c11_end e1)) rfl wm_RL_34 rfl (F.1.kd gk_L0).1 ((F.1.kd gk_L0).2 _ _ _ _) rfl (by decide) (by decide) rfl (Nat.le_of_ble_eq_true rfl) hc dL_law_248 ?_
  refine gr_pop F.1 dL_law_251 rfl ?_
  refine gr_aload_n F.1 dL_law_252 2 rfl rfl ?_
  refine gq_arg F hL (q := 1) rfl (by omega) 0 4 rfl rfl dL_law_253 dL_law_254 dL_law_256 dL_law_257 dL_law_258 ?_
  have e2b : f12_end (xs (i + 1)) (gz_sR (gz_pC M Mc)) = some (v, Mr) := by rw [gz_sRpC]; exact e2
  refine gr_callI (kb := 1) [.int (xs (i + 1))] F.1 (gz_liftRI (asF := fun ad => [.ref (ad 0), .int (xs (i + 1))]) (c12_end e2b)) rfl wm_RL_38 rfl (F.1.kd gk_L1).1 ((F.1.kd gk_L1).2 _ _ _ _) rfl (by decide) (by decide) rfl (Nat.le_of_ble_eq_true rfl) hc dL_law_259 ?_
  refine gr_pop F.1 dL_law_262 rfl ?_
  refine gr_goto 1348 F.1 dL_law_263 (by decide) ?_
  exact kk x pf _ gz_StL.rf F (hu.le (by omega)) (by rw [gz_sCpR, gz_sCpC, gz_sRpR]; exact hRR)
theorem gq_case_2 (hl9 : l.stackTraces = false) (F : gq_LF x pf l b L xs) (hL : L ≤ 3072) (hi : i + 6 ≤ L) (hu : gz_UL x (k + 1)) (hR : gp_R B pf (gz_sC M) (gz_sR M)) (kk : gq_K B x l b L xs i k) : gz_At x 266 (gq_lv x b i) [] M := by
  obtain ⟨cu, tx, bk, us, ks, o, h⟩ := hR
  have hc := hu.c
  obtain ⟨v, Mc, pf1, Mr, e1, e2, hRR⟩ := gp_a4 h 
  refine gr_aload_n F.1 dL_law_266 1 rfl rfl ?_
  refine gr_callAIL (kb := 0) (k := k) [] F.1 F.2.2.2.1 hu (gz_liftA (asF := fun ad => [.ref (ad 0)]) (ce11_rules e1)) rfl wm_RL_39 rfl (F.1.kd gk_L0).1 ((F.1.kd gk_L0).2 _ _ _ _) rfl (by decide) (by decide) rfl (Nat.le_of_ble_eq_true rfl) dL_law_267 (fun x1 hS X1 hu1 => ?_)
  have F1 := F.of hS X1
  have hc1 := hu1.c
  rw [gq_lv_st hS]
  refine gr_pop X1 dL_law_270 rfl ?_
  refine gr_aload_n X1 dL_law_271 2 rfl rfl ?_
  have e2b : f12_rules  (gz_sR (gz_pC M Mc)) = some (v, Mr) := by rw [gz_sRpC]; exact e2
  refine gr_callI (kb := 1) [] X1 (gz_liftRI (asF := fun ad => [.ref (ad 0)]) (c12_rules e2b)) rfl wm_RL_43 rfl (X1.kd gk_L1).1 ((X1.kd gk_L1).2 _ _ _ _) rfl (by decide) (by decide) rfl (Nat.le_of_ble_eq_true rfl) hc1 dL_law_272 ?_
  refine gr_pop X1 dL_law_275 rfl ?_
  refine gr_goto 1348 X1 dL_law_276 (by decide) ?_
  exact kk x1 pf1 _ hS F1 hu1 (by rw [gz_sCpR, gz_sCpC, gz_sRpR]; exact hRR)
theorem gq_case_3 (hl9 : l.stackTraces = false) (F : gq_LF x pf l b L xs) (hL : L ≤ 3072) (hi : i + 6 ≤ L) (hu : gz_UL x (k + 1)) (hR : gp_R B pf (gz_sC M) (gz_sR M)) (kk : gq_K B x l b L xs i k) : gz_At x 279 (gq_lv x b i) [] M := by
  obtain ⟨cu, tx, bk, us, ks, o, h⟩ := hR
  have hc := hu.c
  obtain ⟨v, Mc, pf1, Mr, e1, e2, hRR⟩ := gp_a5 h 
  refine gr_aload_n F.1 dL_law_279 1 rfl rfl ?_
  refine gr_callAIL (kb := 0) (k := k) [] F.1 F.2.2.2.1 hu (gz_liftA (asF := fun ad => [.ref (ad 0)]) (ce11_line e1)) rfl wm_RL_44 rfl (F.1.kd gk_L0).1 ((F.1.kd gk_L0).2 _ _ _ _) rfl (by decide) (by decide) rfl (Nat.le_of_ble_eq_true rfl) dL_law_280 (fun x1 hS X1 hu1 => ?_)
  have F1 := F.of hS X1
  have hc1 := hu1.c
  rw [gq_lv_st hS]
  refine gr_pop X1 dL_law_283 rfl ?_
  refine gr_aload_n X1 dL_law_284 2 rfl rfl ?_
  have e2b : f12_line  (gz_sR (gz_pC M Mc)) = some (v, Mr) := by rw [gz_sRpC]; exact e2
  refine gr_callI (kb := 1) [] X1 (gz_liftRI (asF := fun ad => [.ref (ad 0)]) (c12_line e2b)) rfl wm_RL_47 rfl (X1.kd gk_L1).1 ((X1.kd gk_L1).2 _ _ _ _) rfl (by decide) (by decide) rfl (Nat.le_of_ble_eq_true rfl) hc1 dL_law_285 ?_
  refine gr_pop X1 dL_law_288 rfl ?_
  refine gr_goto 1348 X1 dL_law_289 (by decide) ?_
  exact kk x1 pf1 _ hS F1 hu1 (by rw [gz_sCpR, gz_sCpC, gz_sRpR]; exact hRR)
theorem gq_case_4 (hl9 : l.stackTraces = false) (F : gq_LF x pf l b L xs) (hL : L ≤ 3072) (hi : i + 6 ≤ L) (hu : gz_UL x (k + 1)) (hR : gp_R B pf (gz_sC M) (gz_sR M)) (kk : gq_K B x l b L xs i k) : gz_At x 292 (gq_lv x b i) [] M := by
  obtain ⟨cu, tx, bk, us, ks, o, h⟩ := hR
  have hc := hu.c
  obtain ⟨r, v, Mc, Mr, e1, e2, e3, q1, q2, q3⟩ := gp_a6 h.1 (xs (i + 1)) (xs (i + 2))
  have hRR : gp_R B pf Mc Mr := ⟨cu, tx, bk, us, ks, o, h.ans q1 q2 q3⟩
  have hS1 : gz_StL x (gz_set x (gx_ad x) (gx_pf x) (gx_cells x + 1) (gx_slots x + 6)) := ⟨⟨_, _, _, _, rfl⟩, fun _ h => ⟨h, rfl⟩⟩
  have X1 := gq_Xs F.1 (gx_cells x + 1) (gx_slots x + 6)
  have F1 := F.of hS1 X1
  have hu1 : gz_UL (gz_set x (gx_ad x) (gx_pf x) (gx_cells x + 1) (gx_slots x + 6)) k := ⟨by show gx_cells x + 1 + 4 * k ≤ (gx_R x).cells; have := hu.1; omega, by show gx_slots x + 6 + 109 * k ≤ (gx_R x).slots; have := hu.2; omega⟩
  have hc1 := hu1.c
  refine gr_aload_n F.1 dL_law_292 1 rfl rfl ?_
  refine gq_arg F hL (q := 1) rfl (by omega) 0 4 rfl rfl dL_law_293 dL_law_294 dL_law_296 dL_law_297 dL_law_298 ?_
  refine gq_arg F hL (q := 2) rfl (by omega) 0 4 rfl rfl dL_law_299 dL_law_300 dL_law_302 dL_law_303 dL_law_304 ?_
  refine gr_aload_n F.1 dL_law_305 3 rfl rfl ?_
  refine gr_callH (st := []) (n := 4) (asF := fun ad => [.ref (ad 0), .int (xs (i + 1)), .int (xs (i + 2)), .ref (ad 2)]) [.ref (gx_ad x 0), .int (xs (i + 1)), .int (xs (i + 2)), .ref (gx_ad x 2)] F ⟨by have := hu.1; omega, by have := hu.2; omega⟩ (cL_rule_ok hl9 e1) rfl (gz_in 1062 (by decide +kernel) rfl) (gz_in 1063 (by decide +kernel) rfl) (gz_in 84 (by decide +kernel) rfl) (gz_in 1064 (by decide +kernel) rfl) (by decide +kernel) rfl (by decide) (by decide) rfl (Nat.le_of_ble_eq_true rfl) dL_law_306 ?_
  refine gr_istore ((5, .int (gq_hv (r.map Int32.toInt64))) :: gq_lv x b i) X1 dL_law_309 rfl (by decide) rfl ?_
  refine gr_aload_n X1 dL_law_311 3 rfl rfl ?_
  refine gq_arg F1 hL (q := 1) rfl (by omega) 1 5 rfl rfl dL_law_312 dL_law_313 dL_law_315 dL_law_316 dL_law_317 ?_
  refine gq_arg F1 hL (q := 2) rfl (by omega) 1 5 rfl rfl dL_law_318 dL_law_319 dL_law_321 dL_law_322 dL_law_323 ?_
  have e2b : f12_rule (xs (i + 1)) (xs (i + 2)) (gz_sR (gq_hM M Mc (r.map Int32.toInt64))) = some (v, Mr) := by rw [gq_sRhM]; exact e2
  refine gr_callI (kb := 1) [.int (xs (i + 1)), .int (xs (i + 2))] X1 (gz_liftRI (asF := fun ad => [.ref (ad 0), .int (xs (i + 1)), .int (xs (i + 2))]) (c12_rule e2b)) rfl wm_RL_53 rfl (X1.kd gk_L1).1 ((X1.kd gk_L1).2 _ _ _ _) rfl (by decide) (by decide) rfl (Nat.le_of_ble_eq_true rfl) hc1 dL_law_324 ?_
  refine gr_istore ((6, .int v) :: (5, .int (gq_hv (r.map Int32.toInt64))) :: gq_lv x b i) X1 dL_law_327 rfl (by decide) rfl ?_
  refine gr_goto 1348 X1 dL_law_329 (by decide) ?_
  refine gr_sub (lv' := gq_lv x b i) [2, 3, 4, 5, 6] rfl ?_
  exact kk _ pf _ hS1 F1 hu1 (by rw [gz_sCpR, gq_sChM, gz_sRpR]; exact hRR)
theorem gq_case_5 (hl9 : l.stackTraces = false) (F : gq_LF x pf l b L xs) (hL : L ≤ 3072) (hi : i + 6 ≤ L) (hu : gz_UL x (k + 1)) (hR : gp_R B pf (gz_sC M) (gz_sR M)) (kk : gq_K B x l b L xs i k) : gz_At x 332 (gq_lv x b i) [] M := by
  obtain ⟨cu, tx, bk, us, ks, o, h⟩ := hR
  have hc := hu.c
  obtain ⟨r, v, Mc, Mr, e1, e2, e3, q1, q2, q3⟩ := gp_a7 h.1 (xs (i + 1))
  have hRR : gp_R B pf Mc Mr := ⟨cu, tx, bk, us, ks, o, h.ans q1 q2 q3⟩
  have hS1 : gz_StL x (gz_set x (gx_ad x) (gx_pf x) (gx_cells x + 1) (gx_slots x + 6)) := ⟨⟨_, _, _, _, rfl⟩, fun _ h => ⟨h, rfl⟩⟩
  have X1 := gq_Xs F.1 (gx_cells x + 1) (gx_slots x + 6)
  have F1 := F.of hS1 X1
  have hu1 : gz_UL (gz_set x (gx_ad x) (gx_pf x) (gx_cells x + 1) (gx_slots x + 6)) k := ⟨by show gx_cells x + 1 + 4 * k ≤ (gx_R x).cells; have := hu.1; omega, by show gx_slots x + 6 + 109 * k ≤ (gx_R x).slots; have := hu.2; omega⟩
  have hc1 := hu1.c
  refine gr_aload_n F.1 dL_law_332 1 rfl rfl ?_
  refine gq_arg F hL (q := 1) rfl (by omega) 0 4 rfl rfl dL_law_333 dL_law_334 dL_law_336 dL_law_337 dL_law_338 ?_
  refine gr_aload_n F.1 dL_law_339 3 rfl rfl ?_
  refine gr_callH (st := []) (n := 3) (asF := fun ad => [.ref (ad 0), .int (xs (i + 1)), .ref (ad 2)]) [.ref (gx_ad x 0), .int (xs (i + 1)), .ref (gx_ad x 2)] F ⟨by have := hu.1; omega, by have := hu.2; omega⟩ (cL_at_ok hl9 e1) rfl (gz_in 1131 (by decide +kernel) rfl) (gz_in 1132 (by decide +kernel) rfl) (gz_in 84 (by decide +kernel) rfl) (gz_in 1133 (by decide +kernel) rfl) (by decide +kernel) rfl (by decide) (by decide) rfl (Nat.le_of_ble_eq_true rfl) dL_law_340 ?_
  refine gr_istore ((5, .int (gq_hv (r.map Int32.toInt64))) :: gq_lv x b i) X1 dL_law_343 rfl (by decide) rfl ?_
  refine gr_aload_n X1 dL_law_345 3 rfl rfl ?_
  refine gq_arg F1 hL (q := 1) rfl (by omega) 1 5 rfl rfl dL_law_346 dL_law_347 dL_law_349 dL_law_350 dL_law_351 ?_
  have e2b : f12_at (xs (i + 1)) (gz_sR (gq_hM M Mc (r.map Int32.toInt64))) = some (v, Mr) := by rw [gq_sRhM]; exact e2
  refine gr_callI (kb := 1) [.int (xs (i + 1))] X1 (gz_liftRI (asF := fun ad => [.ref (ad 0), .int (xs (i + 1))]) (c12_at e2b)) rfl wm_RL_57 rfl (X1.kd gk_L1).1 ((X1.kd gk_L1).2 _ _ _ _) rfl (by decide) (by decide) rfl (Nat.le_of_ble_eq_true rfl) hc1 dL_law_352 ?_
  refine gr_istore ((6, .int v) :: (5, .int (gq_hv (r.map Int32.toInt64))) :: gq_lv x b i) X1 dL_law_355 rfl (by decide) rfl ?_
  refine gr_goto 1348 X1 dL_law_357 (by decide) ?_
  refine gr_sub (lv' := gq_lv x b i) [2, 3, 4, 5, 6] rfl ?_
  exact kk _ pf _ hS1 F1 hu1 (by rw [gz_sCpR, gq_sChM, gz_sRpR]; exact hRR)
theorem gq_case_6 (hl9 : l.stackTraces = false) (F : gq_LF x pf l b L xs) (hL : L ≤ 3072) (hi : i + 6 ≤ L) (hu : gz_UL x (k + 1)) (hR : gp_R B pf (gz_sC M) (gz_sR M)) (kk : gq_K B x l b L xs i k) : gz_At x 360 (gq_lv x b i) [] M := by
  obtain ⟨cu, tx, bk, us, ks, o, h⟩ := hR
  have hc := hu.c
  obtain ⟨v, Mc, Mr, e1, e2, hRR⟩ := gp_a8 h (xs (i + 1)) (xs (i + 2)) (xs (i + 3)) (xs (i + 4))
  refine gr_aload_n F.1 dL_law_360 1 rfl rfl ?_
  refine gq_arg F hL (q := 1) rfl (by omega) 0 4 rfl rfl dL_law_361 dL_law_362 dL_law_364 dL_law_365 dL_law_366 ?_
  refine gq_arg F hL (q := 2) rfl (by omega) 0 4 rfl rfl dL_law_367 dL_law_368 dL_law_370 dL_law_371 dL_law_372 ?_
  refine gq_arg F hL (q := 3) rfl (by omega) 0 4 rfl rfl dL_law_373 dL_law_374 dL_law_376 dL_law_377 dL_law_378 ?_
  refine gq_arg F hL (q := 4) rfl (by omega) 0 4 rfl rfl dL_law_379 dL_law_380 dL_law_382 dL_law_383 dL_law_384 ?_
  refine gr_callI (kb := 0) [.int (xs (i + 1)), .int (xs (i + 2)), .int (xs (i + 3)), .int (xs (i + 4))] F.1 (gz_liftCI (asF := fun ad => [.ref (ad 0), .int (xs (i + 1)), .int (xs (i + 2)), .int (xs (i + 3)), .int (xs (i + 4))]) (c11_sheet e1)) rfl wm_RL_58 rfl (F.1.kd gk_L0).1 ((F.1.kd gk_L0).2 _ _ _ _) rfl (by decide) (by decide) rfl (Nat.le_of_ble_eq_true rfl) hc dL_law_385 ?_
  refine gr_pop F.1 dL_law_388 rfl ?_
  refine gr_aload_n F.1 dL_law_389 2 rfl rfl ?_
  refine gq_arg F hL (q := 1) rfl (by omega) 0 4 rfl rfl dL_law_390 dL_law_391 dL_law_393 dL_law_394 dL_law_395 ?_
  refine gq_arg F hL (q := 2) rfl (by omega) 0 4 rfl rfl dL_law_396 dL_law_397 dL_law_399 dL_law_400 dL_law_401 ?_
  refine gq_arg F hL (q := 3) rfl (by omega) 0 4 rfl rfl dL_law_402 dL_law_403 dL_law_405 dL_law_406 dL_law_407 ?_
  refine gq_arg F hL (q := 4) rfl (by omega) 0 4 rfl rfl dL_law_408 dL_law_409 dL_law_411 dL_law_412 dL_law_413 ?_
  have e2b : f12_sheet (xs (i + 1)) (xs (i + 2)) (xs (i + 3)) (xs (i + 4)) (gz_sR (gz_pC M Mc)) = some (v, Mr) := by rw [gz_sRpC]; exact e2
  refine gr_callI (kb := 1) [.int (xs (i + 1)), .int (xs (i + 2)), .int (xs (i + 3)), .int (xs (i + 4))] F.1 (gz_liftRI (asF := fun ad => [.ref (ad 0), .int (xs (i + 1)), .int (xs (i + 2)), .int (xs (i + 3)), .int (xs (i + 4))]) (c12_sheet e2b)) rfl wm_RL_62 rfl (F.1.kd gk_L1).1 ((F.1.kd gk_L1).2 _ _ _ _) rfl (by decide) (by decide) rfl (Nat.le_of_ble_eq_true rfl) hc dL_law_414 ?_
  refine gr_pop F.1 dL_law_417 rfl ?_
  refine gr_goto 1348 F.1 dL_law_418 (by decide) ?_
  exact kk x pf _ gz_StL.rf F (hu.le (by omega)) (by rw [gz_sCpR, gz_sCpC, gz_sRpR]; exact hRR)
theorem gq_case_7 (hl9 : l.stackTraces = false) (F : gq_LF x pf l b L xs) (hL : L ≤ 3072) (hi : i + 6 ≤ L) (hu : gz_UL x (k + 1)) (hR : gp_R B pf (gz_sC M) (gz_sR M)) (kk : gq_K B x l b L xs i k) : gz_At x 421 (gq_lv x b i) [] M := by
  obtain ⟨cu, tx, bk, us, ks, o, h⟩ := hR
  have hc := hu.c
  obtain ⟨v, Mc, Mr, e1, e2, hRR⟩ := h.q (gp_a9 h.1 )
  refine gr_aload_n F.1 dL_law_421 1 rfl rfl ?_
  refine gr_callI (kb := 0) [] F.1 (gz_liftCI (asF := fun ad => [.ref (ad 0)]) (c11_cut e1)) rfl wm_RL_63 rfl (F.1.kd gk_L0).1 ((F.1.kd gk_L0).2 _ _ _ _) rfl (by decide) (by decide) rfl (Nat.le_of_ble_eq_true rfl) hc dL_law_422 ?_
  refine gr_pop F.1 dL_law_425 rfl ?_
  refine gr_aload_n F.1 dL_law_426 2 rfl rfl ?_
  have e2b : f12_cut  (gz_sR (gz_pC M Mc)) = some (v, Mr) := by rw [gz_sRpC]; exact e2
  refine gr_callI (kb := 1) [] F.1 (gz_liftRI (asF := fun ad => [.ref (ad 0)]) (c12_cut e2b)) rfl wm_RL_66 rfl (F.1.kd gk_L1).1 ((F.1.kd gk_L1).2 _ _ _ _) rfl (by decide) (by decide) rfl (Nat.le_of_ble_eq_true rfl) hc dL_law_427 ?_
  refine gr_pop F.1 dL_law_430 rfl ?_
  refine gr_goto 1348 F.1 dL_law_431 (by decide) ?_
  exact kk x pf _ gz_StL.rf F (hu.le (by omega)) (by rw [gz_sCpR, gz_sCpC, gz_sRpR]; exact hRR)
theorem gq_case_8 (hl9 : l.stackTraces = false) (F : gq_LF x pf l b L xs) (hL : L ≤ 3072) (hi : i + 6 ≤ L) (hu : gz_UL x (k + 1)) (hR : gp_R B pf (gz_sC M) (gz_sR M)) (kk : gq_K B x l b L xs i k) : gz_At x 434 (gq_lv x b i) [] M := by
  obtain ⟨cu, tx, bk, us, ks, o, h⟩ := hR
  have hc := hu.c
  obtain ⟨r, v, Mc, Mr, e1, e2, e3, q1, q2, q3⟩ := gp_a10 h.1 (xs (i + 1)) (xs (i + 2))
  have hRR : gp_R B pf Mc Mr := ⟨cu, tx, bk, us, ks, o, h.ans q1 q2 q3⟩
  have hS1 : gz_StL x (gz_set x (gx_ad x) (gx_pf x) (gx_cells x + 1) (gx_slots x + 6)) := ⟨⟨_, _, _, _, rfl⟩, fun _ h => ⟨h, rfl⟩⟩
  have X1 := gq_Xs F.1 (gx_cells x + 1) (gx_slots x + 6)
  have F1 := F.of hS1 X1
  have hu1 : gz_UL (gz_set x (gx_ad x) (gx_pf x) (gx_cells x + 1) (gx_slots x + 6)) k := ⟨by show gx_cells x + 1 + 4 * k ≤ (gx_R x).cells; have := hu.1; omega, by show gx_slots x + 6 + 109 * k ≤ (gx_R x).slots; have := hu.2; omega⟩
  have hc1 := hu1.c
  refine gr_aload_n F.1 dL_law_434 1 rfl rfl ?_
  refine gq_arg F hL (q := 1) rfl (by omega) 0 4 rfl rfl dL_law_435 dL_law_436 dL_law_438 dL_law_439 dL_law_440 ?_
  refine gq_arg F hL (q := 2) rfl (by omega) 0 4 rfl rfl dL_law_441 dL_law_442 dL_law_444 dL_law_445 dL_law_446 ?_
  refine gr_aload_n F.1 dL_law_447 3 rfl rfl ?_
  refine gr_callH (st := []) (n := 4) (asF := fun ad => [.ref (ad 0), .int (xs (i + 1)), .int (xs (i + 2)), .ref (ad 2)]) [.ref (gx_ad x 0), .int (xs (i + 1)), .int (xs (i + 2)), .ref (gx_ad x 2)] F ⟨by have := hu.1; omega, by have := hu.2; omega⟩ (cL_token_ok hl9 e1) rfl (gz_in 1139 (by decide +kernel) rfl) (gz_in 1140 (by decide +kernel) rfl) (gz_in 84 (by decide +kernel) rfl) (gz_in 1141 (by decide +kernel) rfl) (by decide +kernel) rfl (by decide) (by decide) rfl (Nat.le_of_ble_eq_true rfl) dL_law_448 ?_
  refine gr_istore ((5, .int (gq_hv (r.map Int32.toInt64))) :: gq_lv x b i) X1 dL_law_451 rfl (by decide) rfl ?_
  refine gr_aload_n X1 dL_law_453 3 rfl rfl ?_
  refine gq_arg F1 hL (q := 1) rfl (by omega) 1 5 rfl rfl dL_law_454 dL_law_455 dL_law_457 dL_law_458 dL_law_459 ?_
  refine gq_arg F1 hL (q := 2) rfl (by omega) 1 5 rfl rfl dL_law_460 dL_law_461 dL_law_463 dL_law_464 dL_law_465 ?_
  have e2b : f12_token (xs (i + 1)) (xs (i + 2)) (gz_sR (gq_hM M Mc (r.map Int32.toInt64))) = some (v, Mr) := by rw [gq_sRhM]; exact e2
  refine gr_callI (kb := 1) [.int (xs (i + 1)), .int (xs (i + 2))] X1 (gz_liftRI (asF := fun ad => [.ref (ad 0), .int (xs (i + 1)), .int (xs (i + 2))]) (c12_token e2b)) rfl wm_RL_69 rfl (X1.kd gk_L1).1 ((X1.kd gk_L1).2 _ _ _ _) rfl (by decide) (by decide) rfl (Nat.le_of_ble_eq_true rfl) hc1 dL_law_466 ?_
  refine gr_istore ((6, .int v) :: (5, .int (gq_hv (r.map Int32.toInt64))) :: gq_lv x b i) X1 dL_law_469 rfl (by decide) rfl ?_
  refine gr_goto 1348 X1 dL_law_471 (by decide) ?_
  refine gr_sub (lv' := gq_lv x b i) [2, 3, 4, 5, 6] rfl ?_
  exact kk _ pf _ hS1 F1 hu1 (by rw [gz_sCpR, gq_sChM, gz_sRpR]; exact hRR)
theorem gq_case_9 (hl9 : l.stackTraces = false) (F : gq_LF x pf l b L xs) (hL : L ≤ 3072) (hi : i + 6 ≤ L) (hu : gz_UL x (k + 1)) (hR : gp_R B pf (gz_sC M) (gz_sR M)) (kk : gq_K B x l b L xs i k) : gz_At x 474 (gq_lv x b i) [] M := by
  obtain ⟨cu, tx, bk, us, ks, o, h⟩ := hR
  have hc := hu.c
  obtain ⟨v, Mc, Mr, e1, e2, hRR⟩ := h.q (gp_a11 h.1 (xs (i + 1)))
  refine gr_aload_n F.1 dL_law_474 1 rfl rfl ?_
  refine gq_arg F hL (q := 1) rfl (by omega) 0 4 rfl rfl dL_law_475 dL_law_476 dL_law_478 dL_law_479 dL_law_480 ?_
  refine gr_callI (kb := 0) [.int (xs (i + 1))] F.1 (gz_liftCI (asF := fun ad => [.ref (ad 0), .int (xs (i + 1))]) (c11_modes e1)) rfl wm_RL_70 rfl (F.1.kd gk_L0).1 ((F.1.kd gk_L0).2 _ _ _ _) rfl (by decide) (by decide) rfl (Nat.le_of_ble_eq_true rfl) hc dL_law_481 ?_
  refine gr_pop F.1 dL_law_484 rfl ?_
  refine gr_aload_n F.1 dL_law_485 2 rfl rfl ?_
  refine gq_arg F hL (q := 1) rfl (by omega) 0 4 rfl rfl dL_law_486 dL_law_487 dL_law_489 dL_law_490 dL_law_491 ?_
  have e2b : f12_modes (xs (i + 1)) (gz_sR (gz_pC M Mc)) = some (v, Mr) := by rw [gz_sRpC]; exact e2
  refine gr_callI (kb := 1) [.int (xs (i + 1))] F.1 (gz_liftRI (asF := fun ad => [.ref (ad 0), .int (xs (i + 1))]) (c12_modes e2b)) rfl wm_RL_73 rfl (F.1.kd gk_L1).1 ((F.1.kd gk_L1).2 _ _ _ _) rfl (by decide) (by decide) rfl (Nat.le_of_ble_eq_true rfl) hc dL_law_492 ?_
  refine gr_pop F.1 dL_law_495 rfl ?_
  refine gr_goto 1348 F.1 dL_law_496 (by decide) ?_
  exact kk x pf _ gz_StL.rf F (hu.le (by omega)) (by rw [gz_sCpR, gz_sCpC, gz_sRpR]; exact hRR)
theorem gq_case_10 (hl9 : l.stackTraces = false) (F : gq_LF x pf l b L xs) (hL : L ≤ 3072) (hi : i + 6 ≤ L) (hu : gz_UL x (k + 1)) (hR : gp_R B pf (gz_sC M) (gz_sR M)) (kk : gq_K B x l b L xs i k) : gz_At x 499 (gq_lv x b i) [] M := by
  obtain ⟨cu, tx, bk, us, ks, o, h⟩ := hR
  have hc := hu.c
  obtain ⟨v, Mc, Mr, e1, e2, hRR⟩ := h.q (gp_a12 h.1 (xs (i + 1)))
  refine gr_aload_n F.1 dL_law_499 1 rfl rfl ?_
  refine gq_arg F hL (q := 1) rfl (by omega) 0 4 rfl rfl dL_law_500 dL_law_501 dL_law_503 dL_law_504 dL_law_505 ?_
  refine gr_callI (kb := 0) [.int (xs (i + 1))] F.1 (gz_liftCI (asF := fun ad => [.ref (ad 0), .int (xs (i + 1))]) (c11_holds e1)) rfl wm_RL_74 rfl (F.1.kd gk_L0).1 ((F.1.kd gk_L0).2 _ _ _ _) rfl (by decide) (by decide) rfl (Nat.le_of_ble_eq_true rfl) hc dL_law_506 ?_
  refine gr_pop F.1 dL_law_509 rfl ?_
  refine gr_aload_n F.1 dL_law_510 2 rfl rfl ?_
  refine gq_arg F hL (q := 1) rfl (by omega) 0 4 rfl rfl dL_law_511 dL_law_512 dL_law_514 dL_law_515 dL_law_516 ?_
  have e2b : f12_holds (xs (i + 1)) (gz_sR (gz_pC M Mc)) = some (v, Mr) := by rw [gz_sRpC]; exact e2
  refine gr_callI (kb := 1) [.int (xs (i + 1))] F.1 (gz_liftRI (asF := fun ad => [.ref (ad 0), .int (xs (i + 1))]) (c12_holds e2b)) rfl wm_RL_77 rfl (F.1.kd gk_L1).1 ((F.1.kd gk_L1).2 _ _ _ _) rfl (by decide) (by decide) rfl (Nat.le_of_ble_eq_true rfl) hc dL_law_517 ?_
  refine gr_pop F.1 dL_law_520 rfl ?_
  refine gr_goto 1348 F.1 dL_law_521 (by decide) ?_
  exact kk x pf _ gz_StL.rf F (hu.le (by omega)) (by rw [gz_sCpR, gz_sCpC, gz_sRpR]; exact hRR)
theorem gq_case_11 (hl9 : l.stackTraces = false) (F : gq_LF x pf l b L xs) (hL : L ≤ 3072) (hi : i + 6 ≤ L) (hu : gz_UL x (k + 1)) (hR : gp_R B pf (gz_sC M) (gz_sR M)) (kk : gq_K B x l b L xs i k) : gz_At x 524 (gq_lv x b i) [] M := by
  obtain ⟨cu, tx, bk, us, ks, o, h⟩ := hR
  have hc := hu.c
  obtain ⟨v, Mc, Mr, e1, e2, hRR⟩ := h.q (gp_a13 h.1 )
  refine gr_aload_n F.1 dL_law_524 1 rfl rfl ?_
  refine gr_callI (kb := 0) [] F.1 (gz_liftCI (asF := fun ad => [.ref (ad 0)]) (c11_stuck e1)) rfl wm_RL_78 rfl (F.1.kd gk_L0).1 ((F.1.kd gk_L0).2 _ _ _ _) rfl (by decide) (by decide) rfl (Nat.le_of_ble_eq_true rfl) hc dL_law_525 ?_
  refine gr_pop F.1 dL_law_528 rfl ?_
  refine gr_aload_n F.1 dL_law_529 2 rfl rfl ?_
  have e2b : f12_stuck  (gz_sR (gz_pC M Mc)) = some (v, Mr) := by rw [gz_sRpC]; exact e2
  refine gr_callI (kb := 1) [] F.1 (gz_liftRI (asF := fun ad => [.ref (ad 0)]) (c12_stuck e2b)) rfl wm_RL_81 rfl (F.1.kd gk_L1).1 ((F.1.kd gk_L1).2 _ _ _ _) rfl (by decide) (by decide) rfl (Nat.le_of_ble_eq_true rfl) hc dL_law_530 ?_
  refine gr_pop F.1 dL_law_533 rfl ?_
  refine gr_goto 1348 F.1 dL_law_534 (by decide) ?_
  exact kk x pf _ gz_StL.rf F (hu.le (by omega)) (by rw [gz_sCpR, gz_sCpC, gz_sRpR]; exact hRR)
theorem gq_case_12 (hl9 : l.stackTraces = false) (F : gq_LF x pf l b L xs) (hL : L ≤ 3072) (hi : i + 6 ≤ L) (hu : gz_UL x (k + 1)) (hR : gp_R B pf (gz_sC M) (gz_sR M)) (kk : gq_K B x l b L xs i k) : gz_At x 537 (gq_lv x b i) [] M := by
  obtain ⟨cu, tx, bk, us, ks, o, h⟩ := hR
  have hc := hu.c
  obtain ⟨v, Mc, Mr, e1, e2, hRR⟩ := h.q (gp_a14 h.1 (xs (i + 1)))
  refine gr_aload_n F.1 dL_law_537 1 rfl rfl ?_
  refine gq_arg F hL (q := 1) rfl (by omega) 0 4 rfl rfl dL_law_538 dL_law_539 dL_law_541 dL_law_542 dL_law_543 ?_
  refine gr_callI (kb := 0) [.int (xs (i + 1))] F.1 (gz_liftCI (asF := fun ad => [.ref (ad 0), .int (xs (i + 1))]) (c11_by e1)) rfl wm_RL_82 rfl (F.1.kd gk_L0).1 ((F.1.kd gk_L0).2 _ _ _ _) rfl (by decide) (by decide) rfl (Nat.le_of_ble_eq_true rfl) hc dL_law_544 ?_
  refine gr_pop F.1 dL_law_547 rfl ?_
  refine gr_aload_n F.1 dL_law_548 2 rfl rfl ?_
  refine gq_arg F hL (q := 1) rfl (by omega) 0 4 rfl rfl dL_law_549 dL_law_550 dL_law_552 dL_law_553 dL_law_554 ?_
  have e2b : f12_by (xs (i + 1)) (gz_sR (gz_pC M Mc)) = some (v, Mr) := by rw [gz_sRpC]; exact e2
  refine gr_callI (kb := 1) [.int (xs (i + 1))] F.1 (gz_liftRI (asF := fun ad => [.ref (ad 0), .int (xs (i + 1))]) (c12_by e2b)) rfl wm_RL_85 rfl (F.1.kd gk_L1).1 ((F.1.kd gk_L1).2 _ _ _ _) rfl (by decide) (by decide) rfl (Nat.le_of_ble_eq_true rfl) hc dL_law_555 ?_
  refine gr_pop F.1 dL_law_558 rfl ?_
  refine gr_goto 1348 F.1 dL_law_559 (by decide) ?_
  exact kk x pf _ gz_StL.rf F (hu.le (by omega)) (by rw [gz_sCpR, gz_sCpC, gz_sRpR]; exact hRR)
theorem gq_case_13 (hl9 : l.stackTraces = false) (F : gq_LF x pf l b L xs) (hL : L ≤ 3072) (hi : i + 6 ≤ L) (hu : gz_UL x (k + 1)) (hR : gp_R B pf (gz_sC M) (gz_sR M)) (kk : gq_K B x l b L xs i k) : gz_At x 562 (gq_lv x b i) [] M := by
  obtain ⟨cu, tx, bk, us, ks, o, h⟩ := hR
  have hc := hu.c
  obtain ⟨v, Mc, Mr, e1, e2, hRR⟩ := gp_a15 h (xs (i + 1))
  refine gr_aload_n F.1 dL_law_562 1 rfl rfl ?_
  refine gq_arg F hL (q := 1) rfl (by omega) 0 4 rfl rfl dL_law_563 dL_law_564 dL_law_566 dL_law_567 dL_law_568 ?_
  refine gr_callI (kb := 0) [.int (xs (i + 1))] F.1 (gz_liftCI (asF := fun ad => [.ref (ad 0), .int (xs (i + 1))]) (c11_like e1)) rfl wm_RL_86 rfl (F.1.kd gk_L0).1 ((F.1.kd gk_L0).2 _ _ _ _) rfl (by decide) (by decide) rfl (Nat.le_of_ble_eq_true rfl) hc dL_law_569 ?_
  refine gr_pop F.1 dL_law_572 rfl ?_
  refine gr_aload_n F.1 dL_law_573 2 rfl rfl ?_
  refine gq_arg F hL (q := 1) rfl (by omega) 0 4 rfl rfl dL_law_574 dL_law_575 dL_law_577 dL_law_578 dL_law_579 ?_
  have e2b : f12_like (xs (i + 1)) (gz_sR (gz_pC M Mc)) = some (v, Mr) := by rw [gz_sRpC]; exact e2
  refine gr_callI (kb := 1) [.int (xs (i + 1))] F.1 (gz_liftRI (asF := fun ad => [.ref (ad 0), .int (xs (i + 1))]) (c12_like e2b)) rfl wm_RL_89 rfl (F.1.kd gk_L1).1 ((F.1.kd gk_L1).2 _ _ _ _) rfl (by decide) (by decide) rfl (Nat.le_of_ble_eq_true rfl) hc dL_law_580 ?_
  refine gr_pop F.1 dL_law_583 rfl ?_
  refine gr_goto 1348 F.1 dL_law_584 (by decide) ?_
  exact kk x pf _ gz_StL.rf F (hu.le (by omega)) (by rw [gz_sCpR, gz_sCpC, gz_sRpR]; exact hRR)
end
