theorem lmL_13 : Cond.methodLink RL 13 yX7_feed ∈ gdL := gd_mem 334 (by decide +kernel) (by decide +kernel)
theorem lmL_17 : Cond.methodLink RL 17 yX8_feed ∈ gdL := gd_mem 990 (by decide +kernel) (by decide +kernel)
set_option maxRecDepth 100000 in
theorem lc_0 {X : mCx} {b L : Nat} {sc : Nat → Int32} {μ : mMem} {x3 : Int32} (hv1 : vp_in (x3 + 1) L) (hv2 : vp_in (x3 + 2) L) (hv3 : vp_in (x3 + 3) L) (hv4 : vp_in (x3 + 4) L) {Inv : mMem → Prop} (hp : (∀ (u0 : Int32), okI Inv (fX7_feed u0) (fX8_feed u0))) (hI : Inv μ) (hk : ∀ μ', Inv μ' → TL X b L sc 1391 [(0, .ref 118), (1, .ref 48), (2, .ref 81), (3, .int x3)] [] μ') : TL X b L sc 220 [(0, .ref 118), (1, .ref 48), (2, .ref 81), (3, .int x3)] [] μ := by
  obtain ⟨r, μ1, μ2, h1, h2, hI2⟩ := hp ((sc (x3 + (1 : Int32)).toNatClampNeg)) μ hI
  refine TL_aload_n 1 rfl rfl dL_law_220 ?_
  refine TL_aload_n 0 rfl rfl dL_law_221 ?_
  refine TL_iload_n 3 rfl rfl dL_law_222 ?_
  refine TL_iconst (1 : Int32) (by decide) dL_law_223 ?_
  refine TL_iadd dL_law_224 ?_
  refine TL_sld hv1 dL_law_225 ?_
  refine TL_call (v2 := some (.int r)) (c := 7) [.int (sc (x3 + (1 : Int32)).toNatClampNeg)] [] mkX7_feed lmL_13 kd_48 rfl rfl (by decide) (Nat.le_of_ble_eq_true rfl) dL_law_226 (by rw [← h1]; exact bsX7_feed _ (sc (x3 + (1 : Int32)).toNatClampNeg) μ) ?_
  refine TL_aload_n 2 rfl rfl dL_law_229 ?_
  refine TL_aload_n 0 rfl rfl dL_law_230 ?_
  refine TL_iload_n 3 rfl rfl dL_law_231 ?_
  refine TL_iconst (1 : Int32) (by decide) dL_law_232 ?_
  refine TL_iadd dL_law_233 ?_
  refine TL_sld hv1 dL_law_234 ?_
  refine TL_call (v2 := some (.int r)) (c := 8) [.int (sc (x3 + (1 : Int32)).toNatClampNeg)] [.int r] mkX8_feed lmL_17 kd_81 rfl rfl (by decide) (Nat.le_of_ble_eq_true rfl) dL_law_235 (by rw [← h2]; exact bsX8_feed _ (sc (x3 + (1 : Int32)).toNatClampNeg) μ1) ?_
  refine TL_eq (x := r) (st := []) 1391 dL_law_238 (by decide) ?_
  exact hk μ2 hI2
theorem lmL_18 : Cond.methodLink RL 18 yX7_end ∈ gdL := gd_mem 345 (by decide +kernel) (by decide +kernel)
theorem lmL_21 : Cond.methodLink RL 21 yX8_end ∈ gdL := gd_mem 998 (by decide +kernel) (by decide +kernel)
set_option maxRecDepth 100000 in
theorem lc_1 {X : mCx} {b L : Nat} {sc : Nat → Int32} {μ : mMem} {x3 : Int32} (hv1 : vp_in (x3 + 1) L) (hv2 : vp_in (x3 + 2) L) (hv3 : vp_in (x3 + 3) L) (hv4 : vp_in (x3 + 4) L) {Inv : mMem → Prop} (hp : (∀ (u0 : Int32), okI Inv (fX7_end u0) (fX8_end u0))) (hI : Inv μ) (hk : ∀ μ', Inv μ' → TL X b L sc 1391 [(0, .ref 118), (1, .ref 48), (2, .ref 81), (3, .int x3)] [] μ') : TL X b L sc 243 [(0, .ref 118), (1, .ref 48), (2, .ref 81), (3, .int x3)] [] μ := by
  obtain ⟨r, μ1, μ2, h1, h2, hI2⟩ := hp ((sc (x3 + (1 : Int32)).toNatClampNeg)) μ hI
  refine TL_aload_n 1 rfl rfl dL_law_243 ?_
  refine TL_aload_n 0 rfl rfl dL_law_244 ?_
  refine TL_iload_n 3 rfl rfl dL_law_245 ?_
  refine TL_iconst (1 : Int32) (by decide) dL_law_246 ?_
  refine TL_iadd dL_law_247 ?_
  refine TL_sld hv1 dL_law_248 ?_
  refine TL_call (v2 := some (.int r)) (c := 7) [.int (sc (x3 + (1 : Int32)).toNatClampNeg)] [] mkX7_end lmL_18 kd_48 rfl rfl (by decide) (Nat.le_of_ble_eq_true rfl) dL_law_249 (by rw [← h1]; exact bsX7_end _ (sc (x3 + (1 : Int32)).toNatClampNeg) μ) ?_
  refine TL_aload_n 2 rfl rfl dL_law_252 ?_
  refine TL_aload_n 0 rfl rfl dL_law_253 ?_
  refine TL_iload_n 3 rfl rfl dL_law_254 ?_
  refine TL_iconst (1 : Int32) (by decide) dL_law_255 ?_
  refine TL_iadd dL_law_256 ?_
  refine TL_sld hv1 dL_law_257 ?_
  refine TL_call (v2 := some (.int r)) (c := 8) [.int (sc (x3 + (1 : Int32)).toNatClampNeg)] [.int r] mkX8_end lmL_21 kd_81 rfl rfl (by decide) (Nat.le_of_ble_eq_true rfl) dL_law_258 (by rw [← h2]; exact bsX8_end _ (sc (x3 + (1 : Int32)).toNatClampNeg) μ1) ?_
  refine TL_eq (x := r) (st := []) 1391 dL_law_261 (by decide) ?_
  exact hk μ2 hI2
theorem lmL_22 : Cond.methodLink RL 22 yX7_text ∈ gdL := gd_mem 349 (by decide +kernel) (by decide +kernel)
theorem lmL_26 : Cond.methodLink RL 26 yX8_text ∈ gdL := gd_mem 1002 (by decide +kernel) (by decide +kernel)
set_option maxRecDepth 100000 in
theorem lc_2 {X : mCx} {b L : Nat} {sc : Nat → Int32} {μ : mMem} {x3 : Int32} (hv1 : vp_in (x3 + 1) L) (hv2 : vp_in (x3 + 2) L) (hv3 : vp_in (x3 + 3) L) (hv4 : vp_in (x3 + 4) L) {Inv : mMem → Prop} (hp : (okI Inv (fX7_text ) (fX8_text ))) (hI : Inv μ) (hk : ∀ μ', Inv μ' → TL X b L sc 1391 [(0, .ref 118), (1, .ref 48), (2, .ref 81), (3, .int x3)] [] μ') : TL X b L sc 266 [(0, .ref 118), (1, .ref 48), (2, .ref 81), (3, .int x3)] [] μ := by
  obtain ⟨r, μ1, μ2, h1, h2, hI2⟩ := hp  μ hI
  refine TL_aload_n 1 rfl rfl dL_law_266 ?_
  refine TL_call (v2 := some (.int r)) (c := 7) [] [] mkX7_text lmL_22 kd_48 rfl rfl (by decide) (Nat.le_of_ble_eq_true rfl) dL_law_267 (by rw [← h1]; exact bsX7_text _  μ) ?_
  refine TL_aload_n 2 rfl rfl dL_law_270 ?_
  refine TL_call (v2 := some (.int r)) (c := 8) [] [.int r] mkX8_text lmL_26 kd_81 rfl rfl (by decide) (Nat.le_of_ble_eq_true rfl) dL_law_271 (by rw [← h2]; exact bsX8_text _  μ1) ?_
  refine TL_eq (x := r) (st := []) 1391 dL_law_274 (by decide) ?_
  exact hk μ2 hI2
theorem lmL_27 : Cond.methodLink RL 27 yX7_fault ∈ gdL := gd_mem 486 (by decide +kernel) (by decide +kernel)
theorem lmL_30 : Cond.methodLink RL 30 yX8_fault ∈ gdL := gd_mem 1039 (by decide +kernel) (by decide +kernel)
set_option maxRecDepth 100000 in
theorem lc_3 {X : mCx} {b L : Nat} {sc : Nat → Int32} {μ : mMem} {x3 : Int32} (hv1 : vp_in (x3 + 1) L) (hv2 : vp_in (x3 + 2) L) (hv3 : vp_in (x3 + 3) L) (hv4 : vp_in (x3 + 4) L) {Inv : mMem → Prop} (hp : (okI Inv (fX7_fault ) (fX8_fault ))) (hI : Inv μ) (hk : ∀ μ', Inv μ' → TL X b L sc 1391 [(0, .ref 118), (1, .ref 48), (2, .ref 81), (3, .int x3)] [] μ') : TL X b L sc 279 [(0, .ref 118), (1, .ref 48), (2, .ref 81), (3, .int x3)] [] μ := by
  obtain ⟨r, μ1, μ2, h1, h2, hI2⟩ := hp  μ hI
  refine TL_aload_n 1 rfl rfl dL_law_279 ?_
  refine TL_call (v2 := some (.int r)) (c := 7) [] [] mkX7_fault lmL_27 kd_48 rfl rfl (by decide) (Nat.le_of_ble_eq_true rfl) dL_law_280 (by rw [← h1]; exact bsX7_fault _  μ) ?_
  refine TL_aload_n 2 rfl rfl dL_law_283 ?_
  refine TL_call (v2 := some (.int r)) (c := 8) [] [.int r] mkX8_fault lmL_30 kd_81 rfl rfl (by decide) (Nat.le_of_ble_eq_true rfl) dL_law_284 (by rw [← h2]; exact bsX8_fault _  μ1) ?_
  refine TL_eq (x := r) (st := []) 1391 dL_law_287 (by decide) ?_
  exact hk μ2 hI2
theorem lmL_31 : Cond.methodLink RL 31 yX7_rule ∈ gdL := gd_mem 490 (by decide +kernel) (by decide +kernel)
theorem lmL_34 : Cond.methodLink RL 34 yX8_rule ∈ gdL := gd_mem 1043 (by decide +kernel) (by decide +kernel)
set_option maxRecDepth 100000 in
theorem lc_4 {X : mCx} {b L : Nat} {sc : Nat → Int32} {μ : mMem} {x3 : Int32} (hv1 : vp_in (x3 + 1) L) (hv2 : vp_in (x3 + 2) L) (hv3 : vp_in (x3 + 3) L) (hv4 : vp_in (x3 + 4) L) {Inv : mMem → Prop} (hp : (∀ (u0 : Int32), okI Inv (fX7_rule u0) (fX8_rule u0))) (hI : Inv μ) (hk : ∀ μ', Inv μ' → TL X b L sc 1391 [(0, .ref 118), (1, .ref 48), (2, .ref 81), (3, .int x3)] [] μ') : TL X b L sc 292 [(0, .ref 118), (1, .ref 48), (2, .ref 81), (3, .int x3)] [] μ := by
  obtain ⟨r, μ1, μ2, h1, h2, hI2⟩ := hp ((sc (x3 + (1 : Int32)).toNatClampNeg)) μ hI
  refine TL_aload_n 1 rfl rfl dL_law_292 ?_
  refine TL_aload_n 0 rfl rfl dL_law_293 ?_
  refine TL_iload_n 3 rfl rfl dL_law_294 ?_
  refine TL_iconst (1 : Int32) (by decide) dL_law_295 ?_
  refine TL_iadd dL_law_296 ?_
  refine TL_sld hv1 dL_law_297 ?_
  refine TL_call (v2 := some (.int r)) (c := 7) [.int (sc (x3 + (1 : Int32)).toNatClampNeg)] [] mkX7_rule lmL_31 kd_48 rfl rfl (by decide) (Nat.le_of_ble_eq_true rfl) dL_law_298 (by rw [← h1]; exact bsX7_rule _ (sc (x3 + (1 : Int32)).toNatClampNeg) μ) ?_
  refine TL_aload_n 2 rfl rfl dL_law_301 ?_
  refine TL_aload_n 0 rfl rfl dL_law_302 ?_
  refine TL_iload_n 3 rfl rfl dL_law_303 ?_
  refine TL_iconst (1 : Int32) (by decide) dL_law_304 ?_
  refine TL_iadd dL_law_305 ?_
  refine TL_sld hv1 dL_law_306 ?_
  refine TL_call (v2 := some (.int r)) (c := 8) [.int (sc (x3 + (1 : Int32)).toNatClampNeg)] [.int r] mkX8_rule lmL_34 kd_81 rfl rfl (by decide) (Nat.le_of_ble_eq_true rfl) dL_law_307 (by rw [← h2]; exact bsX8_rule _ (sc (x3 + (1 : Int32)).toNatClampNeg) μ1) ?_
  refine TL_eq (x := r) (st := []) 1391 dL_law_310 (by decide) ?_
  exact hk μ2 hI2
theorem lmL_35 : Cond.methodLink RL 35 yX7_step ∈ gdL := gd_mem 494 (by decide +kernel) (by decide +kernel)
theorem lmL_39 : Cond.methodLink RL 39 yX8_step ∈ gdL := gd_mem 1051 (by decide +kernel) (by decide +kernel)
set_option maxRecDepth 100000 in
theorem lc_5 {X : mCx} {b L : Nat} {sc : Nat → Int32} {μ : mMem} {x3 : Int32} (hv1 : vp_in (x3 + 1) L) (hv2 : vp_in (x3 + 2) L) (hv3 : vp_in (x3 + 3) L) (hv4 : vp_in (x3 + 4) L) {Inv : mMem → Prop} (hp : (∀ (u0 : Int32) (u1 : Int32), okI Inv (fX7_step u0 u1) (fX8_step u0 u1))) (hI : Inv μ) (hk : ∀ μ', Inv μ' → TL X b L sc 1391 [(0, .ref 118), (1, .ref 48), (2, .ref 81), (3, .int x3)] [] μ') : TL X b L sc 315 [(0, .ref 118), (1, .ref 48), (2, .ref 81), (3, .int x3)] [] μ := by
  obtain ⟨r, μ1, μ2, h1, h2, hI2⟩ := hp ((sc (x3 + (1 : Int32)).toNatClampNeg)) ((sc (x3 + (2 : Int32)).toNatClampNeg)) μ hI
  refine TL_aload_n 1 rfl rfl dL_law_315 ?_
  refine TL_aload_n 0 rfl rfl dL_law_316 ?_
  refine TL_iload_n 3 rfl rfl dL_law_317 ?_
  refine TL_iconst (1 : Int32) (by decide) dL_law_318 ?_
  refine TL_iadd dL_law_319 ?_
  refine TL_sld hv1 dL_law_320 ?_
  refine TL_aload_n 0 rfl rfl dL_law_321 ?_
  refine TL_iload_n 3 rfl rfl dL_law_322 ?_
  refine TL_iconst (2 : Int32) (by decide) dL_law_323 ?_
  refine TL_iadd dL_law_324 ?_
  refine TL_sld hv2 dL_law_325 ?_
  refine TL_call (v2 := some (.int r)) (c := 7) [.int (sc (x3 + (1 : Int32)).toNatClampNeg), .int (sc (x3 + (2 : Int32)).toNatClampNeg)] [] mkX7_step lmL_35 kd_48 rfl rfl (by decide) (Nat.le_of_ble_eq_true rfl) dL_law_326 (by rw [← h1]; exact bsX7_step _ (sc (x3 + (1 : Int32)).toNatClampNeg) (sc (x3 + (2 : Int32)).toNatClampNeg) μ) ?_
  refine TL_aload_n 2 rfl rfl dL_law_329 ?_
  refine TL_aload_n 0 rfl rfl dL_law_330 ?_
  refine TL_iload_n 3 rfl rfl dL_law_331 ?_
  refine TL_iconst (1 : Int32) (by decide) dL_law_332 ?_
  refine TL_iadd dL_law_333 ?_
  refine TL_sld hv1 dL_law_334 ?_
  refine TL_aload_n 0 rfl rfl dL_law_335 ?_
  refine TL_iload_n 3 rfl rfl dL_law_336 ?_
  refine TL_iconst (2 : Int32) (by decide) dL_law_337 ?_
  refine TL_iadd dL_law_338 ?_
  refine TL_sld hv2 dL_law_339 ?_
  refine TL_call (v2 := some (.int r)) (c := 8) [.int (sc (x3 + (1 : Int32)).toNatClampNeg), .int (sc (x3 + (2 : Int32)).toNatClampNeg)] [.int r] mkX8_step lmL_39 kd_81 rfl rfl (by decide) (Nat.le_of_ble_eq_true rfl) dL_law_340 (by rw [← h2]; exact bsX8_step _ (sc (x3 + (1 : Int32)).toNatClampNeg) (sc (x3 + (2 : Int32)).toNatClampNeg) μ1) ?_
  refine TL_eq (x := r) (st := []) 1391 dL_law_343 (by decide) ?_
  exact hk μ2 hI2
theorem lmL_40 : Cond.methodLink RL 40 yX7_lodger ∈ gdL := gd_mem 513 (by decide +kernel) (by decide +kernel)
theorem lmL_43 : Cond.methodLink RL 43 yX8_lodger ∈ gdL := gd_mem 1067 (by decide +kernel) (by decide +kernel)
set_option maxRecDepth 100000 in
theorem lc_6 {X : mCx} {b L : Nat} {sc : Nat → Int32} {μ : mMem} {x3 : Int32} (hv1 : vp_in (x3 + 1) L) (hv2 : vp_in (x3 + 2) L) (hv3 : vp_in (x3 + 3) L) (hv4 : vp_in (x3 + 4) L) {Inv : mMem → Prop} (hp : (∀ (u0 : Int32) (u1 : Int32), okI Inv (fX7_lodger u0 u1) (fX8_lodger u0 u1))) (hI : Inv μ) (hk : ∀ μ', Inv μ' → TL X b L sc 1391 [(0, .ref 118), (1, .ref 48), (2, .ref 81), (3, .int x3)] [] μ') : TL X b L sc 348 [(0, .ref 118), (1, .ref 48), (2, .ref 81), (3, .int x3)] [] μ := by
  obtain ⟨r, μ1, μ2, h1, h2, hI2⟩ := hp ((sc (x3 + (1 : Int32)).toNatClampNeg)) ((sc (x3 + (2 : Int32)).toNatClampNeg)) μ hI
  refine TL_aload_n 1 rfl rfl dL_law_348 ?_
  refine TL_aload_n 0 rfl rfl dL_law_349 ?_
  refine TL_iload_n 3 rfl rfl dL_law_350 ?_
  refine TL_iconst (1 : Int32) (by decide) dL_law_351 ?_
  refine TL_iadd dL_law_352 ?_
  refine TL_sld hv1 dL_law_353 ?_
  refine TL_aload_n 0 rfl rfl dL_law_354 ?_
  refine TL_iload_n 3 rfl rfl dL_law_355 ?_
  refine TL_iconst (2 : Int32) (by decide) dL_law_356 ?_
  refine TL_iadd dL_law_357 ?_
  refine TL_sld hv2 dL_law_358 ?_
  refine TL_call (v2 := some (.int r)) (c := 7) [.int (sc (x3 + (1 : Int32)).toNatClampNeg), .int (sc (x3 + (2 : Int32)).toNatClampNeg)] [] mkX7_lodger lmL_40 kd_48 rfl rfl (by decide) (Nat.le_of_ble_eq_true rfl) dL_law_359 (by rw [← h1]; exact bsX7_lodger _ (sc (x3 + (1 : Int32)).toNatClampNeg) (sc (x3 + (2 : Int32)).toNatClampNeg) μ) ?_
  refine TL_aload_n 2 rfl rfl dL_law_362 ?_
  refine TL_aload_n 0 rfl rfl dL_law_363 ?_
  refine TL_iload_n 3 rfl rfl dL_law_364 ?_
  refine TL_iconst (1 : Int32) (by decide) dL_law_365 ?_
  refine TL_iadd dL_law_366 ?_
  refine TL_sld hv1 dL_law_367 ?_
  refine TL_aload_n 0 rfl rfl dL_law_368 ?_
  refine TL_iload_n 3 rfl rfl dL_law_369 ?_
  refine TL_iconst (2 : Int32) (by decide) dL_law_370 ?_
  refine TL_iadd dL_law_371 ?_
  refine TL_sld hv2 dL_law_372 ?_
  refine TL_call (v2 := some (.int r)) (c := 8) [.int (sc (x3 + (1 : Int32)).toNatClampNeg), .int (sc (x3 + (2 : Int32)).toNatClampNeg)] [.int r] mkX8_lodger lmL_43 kd_81 rfl rfl (by decide) (Nat.le_of_ble_eq_true rfl) dL_law_373 (by rw [← h2]; exact bsX8_lodger _ (sc (x3 + (1 : Int32)).toNatClampNeg) (sc (x3 + (2 : Int32)).toNatClampNeg) μ1) ?_
  refine TL_eq (x := r) (st := []) 1391 dL_law_376 (by decide) ?_
  exact hk μ2 hI2
theorem lmL_44 : Cond.methodLink RL 44 yX7_age ∈ gdL := gd_mem 545 (by decide +kernel) (by decide +kernel)
theorem lmL_47 : Cond.methodLink RL 47 yX8_age ∈ gdL := gd_mem 1091 (by decide +kernel) (by decide +kernel)
set_option maxRecDepth 100000 in
theorem lc_7 {X : mCx} {b L : Nat} {sc : Nat → Int32} {μ : mMem} {x3 : Int32} (hv1 : vp_in (x3 + 1) L) (hv2 : vp_in (x3 + 2) L) (hv3 : vp_in (x3 + 3) L) (hv4 : vp_in (x3 + 4) L) {Inv : mMem → Prop} (hp : (∀ (u0 : Int32) (u1 : Int32), okI Inv (fX7_age u0 u1) (fX8_age u0 u1))) (hI : Inv μ) (hk : ∀ μ', Inv μ' → TL X b L sc 1391 [(0, .ref 118), (1, .ref 48), (2, .ref 81), (3, .int x3)] [] μ') : TL X b L sc 381 [(0, .ref 118), (1, .ref 48), (2, .ref 81), (3, .int x3)] [] μ := by
  obtain ⟨r, μ1, μ2, h1, h2, hI2⟩ := hp ((sc (x3 + (1 : Int32)).toNatClampNeg)) ((sc (x3 + (2 : Int32)).toNatClampNeg)) μ hI
  refine TL_aload_n 1 rfl rfl dL_law_381 ?_
  refine TL_aload_n 0 rfl rfl dL_law_382 ?_
  refine TL_iload_n 3 rfl rfl dL_law_383 ?_
  refine TL_iconst (1 : Int32) (by decide) dL_law_384 ?_
  refine TL_iadd dL_law_385 ?_
  refine TL_sld hv1 dL_law_386 ?_
  refine TL_aload_n 0 rfl rfl dL_law_387 ?_
  refine TL_iload_n 3 rfl rfl dL_law_388 ?_
  refine TL_iconst (2 : Int32) (by decide) dL_law_389 ?_
  refine TL_iadd dL_law_390 ?_
  refine TL_sld hv2 dL_law_391 ?_
  refine TL_call (v2 := some (.int r)) (c := 7) [.int (sc (x3 + (1 : Int32)).toNatClampNeg), .int (sc (x3 + (2 : Int32)).toNatClampNeg)] [] mkX7_age lmL_44 kd_48 rfl rfl (by decide) (Nat.le_of_ble_eq_true rfl) dL_law_392 (by rw [← h1]; exact bsX7_age _ (sc (x3 + (1 : Int32)).toNatClampNeg) (sc (x3 + (2 : Int32)).toNatClampNeg) μ) ?_
  refine TL_aload_n 2 rfl rfl dL_law_395 ?_
  refine TL_aload_n 0 rfl rfl dL_law_396 ?_
  refine TL_iload_n 3 rfl rfl dL_law_397 ?_
  refine TL_iconst (1 : Int32) (by decide) dL_law_398 ?_
  refine TL_iadd dL_law_399 ?_
  refine TL_sld hv1 dL_law_400 ?_
  refine TL_aload_n 0 rfl rfl dL_law_401 ?_
  refine TL_iload_n 3 rfl rfl dL_law_402 ?_
  refine TL_iconst (2 : Int32) (by decide) dL_law_403 ?_
  refine TL_iadd dL_law_404 ?_
  refine TL_sld hv2 dL_law_405 ?_
  refine TL_call (v2 := some (.int r)) (c := 8) [.int (sc (x3 + (1 : Int32)).toNatClampNeg), .int (sc (x3 + (2 : Int32)).toNatClampNeg)] [.int r] mkX8_age lmL_47 kd_81 rfl rfl (by decide) (Nat.le_of_ble_eq_true rfl) dL_law_406 (by rw [← h2]; exact bsX8_age _ (sc (x3 + (1 : Int32)).toNatClampNeg) (sc (x3 + (2 : Int32)).toNatClampNeg) μ1) ?_
  refine TL_eq (x := r) (st := []) 1391 dL_law_409 (by decide) ?_
  exact hk μ2 hI2
theorem lmL_48 : Cond.methodLink RL 48 yX7_wear ∈ gdL := gd_mem 552 (by decide +kernel) (by decide +kernel)
theorem lmL_51 : Cond.methodLink RL 51 yX8_wear ∈ gdL := gd_mem 1100 (by decide +kernel) (by decide +kernel)
set_option maxRecDepth 100000 in
theorem lc_8 {X : mCx} {b L : Nat} {sc : Nat → Int32} {μ : mMem} {x3 : Int32} (hv1 : vp_in (x3 + 1) L) (hv2 : vp_in (x3 + 2) L) (hv3 : vp_in (x3 + 3) L) (hv4 : vp_in (x3 + 4) L) {Inv : mMem → Prop} (hp : (∀ (u0 : Int32) (u1 : Int32), okI Inv (fX7_wear u0 u1) (fX8_wear u0 u1))) (hI : Inv μ) (hk : ∀ μ', Inv μ' → TL X b L sc 1391 [(0, .ref 118), (1, .ref 48), (2, .ref 81), (3, .int x3)] [] μ') : TL X b L sc 414 [(0, .ref 118), (1, .ref 48), (2, .ref 81), (3, .int x3)] [] μ := by
  obtain ⟨r, μ1, μ2, h1, h2, hI2⟩ := hp ((sc (x3 + (1 : Int32)).toNatClampNeg)) ((sc (x3 + (2 : Int32)).toNatClampNeg)) μ hI
  refine TL_aload_n 1 rfl rfl dL_law_414 ?_
  refine TL_aload_n 0 rfl rfl dL_law_415 ?_
  refine TL_iload_n 3 rfl rfl dL_law_416 ?_
  refine TL_iconst (1 : Int32) (by decide) dL_law_417 ?_
  refine TL_iadd dL_law_418 ?_
  refine TL_sld hv1 dL_law_419 ?_
  refine TL_aload_n 0 rfl rfl dL_law_420 ?_
  refine TL_iload_n 3 rfl rfl dL_law_421 ?_
  refine TL_iconst (2 : Int32) (by decide) dL_law_422 ?_
  refine TL_iadd dL_law_423 ?_
  refine TL_sld hv2 dL_law_424 ?_
  refine TL_call (v2 := some (.int r)) (c := 7) [.int (sc (x3 + (1 : Int32)).toNatClampNeg), .int (sc (x3 + (2 : Int32)).toNatClampNeg)] [] mkX7_wear lmL_48 kd_48 rfl rfl (by decide) (Nat.le_of_ble_eq_true rfl) dL_law_425 (by rw [← h1]; exact bsX7_wear _ (sc (x3 + (1 : Int32)).toNatClampNeg) (sc (x3 + (2 : Int32)).toNatClampNeg) μ) ?_
  refine TL_aload_n 2 rfl rfl dL_law_428 ?_
  refine TL_aload_n 0 rfl rfl dL_law_429 ?_
  refine TL_iload_n 3 rfl rfl dL_law_430 ?_
  refine TL_iconst (1 : Int32) (by decide) dL_law_431 ?_
  refine TL_iadd dL_law_432 ?_
  refine TL_sld hv1 dL_law_433 ?_
  refine TL_aload_n 0 rfl rfl dL_law_434 ?_
  refine TL_iload_n 3 rfl rfl dL_law_435 ?_
  refine TL_iconst (2 : Int32) (by decide) dL_law_436 ?_
  refine TL_iadd dL_law_437 ?_
  refine TL_sld hv2 dL_law_438 ?_
  refine TL_call (v2 := some (.int r)) (c := 8) [.int (sc (x3 + (1 : Int32)).toNatClampNeg), .int (sc (x3 + (2 : Int32)).toNatClampNeg)] [.int r] mkX8_wear lmL_51 kd_81 rfl rfl (by decide) (Nat.le_of_ble_eq_true rfl) dL_law_439 (by rw [← h2]; exact bsX8_wear _ (sc (x3 + (1 : Int32)).toNatClampNeg) (sc (x3 + (2 : Int32)).toNatClampNeg) μ1) ?_
  refine TL_eq (x := r) (st := []) 1391 dL_law_442 (by decide) ?_
  exact hk μ2 hI2
theorem lmL_52 : Cond.methodLink RL 52 yX7_mend ∈ gdL := gd_mem 556 (by decide +kernel) (by decide +kernel)
theorem lmL_55 : Cond.methodLink RL 55 yX8_mend ∈ gdL := gd_mem 1105 (by decide +kernel) (by decide +kernel)
set_option maxRecDepth 100000 in
theorem lc_9 {X : mCx} {b L : Nat} {sc : Nat → Int32} {μ : mMem} {x3 : Int32} (hv1 : vp_in (x3 + 1) L) (hv2 : vp_in (x3 + 2) L) (hv3 : vp_in (x3 + 3) L) (hv4 : vp_in (x3 + 4) L) {Inv : mMem → Prop} (hp : (∀ (u0 : Int32), okI Inv (fX7_mend u0) (fX8_mend u0))) (hI : Inv μ) (hk : ∀ μ', Inv μ' → TL X b L sc 1391 [(0, .ref 118), (1, .ref 48), (2, .ref 81), (3, .int x3)] [] μ') : TL X b L sc 447 [(0, .ref 118), (1, .ref 48), (2, .ref 81), (3, .int x3)] [] μ := by
  obtain ⟨r, μ1, μ2, h1, h2, hI2⟩ := hp ((sc (x3 + (1 : Int32)).toNatClampNeg)) μ hI
  refine TL_aload_n 1 rfl rfl dL_law_447 ?_
  refine TL_aload_n 0 rfl rfl dL_law_448 ?_
  refine TL_iload_n 3 rfl rfl dL_law_449 ?_
  refine TL_iconst (1 : Int32) (by decide) dL_law_450 ?_
  refine TL_iadd dL_law_451 ?_
  refine TL_sld hv1 dL_law_452 ?_
  refine TL_call (v2 := some (.int r)) (c := 7) [.int (sc (x3 + (1 : Int32)).toNatClampNeg)] [] mkX7_mend lmL_52 kd_48 rfl rfl (by decide) (Nat.le_of_ble_eq_true rfl) dL_law_453 (by rw [← h1]; exact bsX7_mend _ (sc (x3 + (1 : Int32)).toNatClampNeg) μ) ?_
  refine TL_aload_n 2 rfl rfl dL_law_456 ?_
  refine TL_aload_n 0 rfl rfl dL_law_457 ?_
  refine TL_iload_n 3 rfl rfl dL_law_458 ?_
  refine TL_iconst (1 : Int32) (by decide) dL_law_459 ?_
  refine TL_iadd dL_law_460 ?_
  refine TL_sld hv1 dL_law_461 ?_
  refine TL_call (v2 := some (.int r)) (c := 8) [.int (sc (x3 + (1 : Int32)).toNatClampNeg)] [.int r] mkX8_mend lmL_55 kd_81 rfl rfl (by decide) (Nat.le_of_ble_eq_true rfl) dL_law_462 (by rw [← h2]; exact bsX8_mend _ (sc (x3 + (1 : Int32)).toNatClampNeg) μ1) ?_
  refine TL_eq (x := r) (st := []) 1391 dL_law_465 (by decide) ?_
  exact hk μ2 hI2
theorem lmL_56 : Cond.methodLink RL 56 yX7_rank ∈ gdL := gd_mem 564 (by decide +kernel) (by decide +kernel)
theorem lmL_59 : Cond.methodLink RL 59 yX8_rank ∈ gdL := gd_mem 1109 (by decide +kernel) (by decide +kernel)
set_option maxRecDepth 100000 in
theorem lc_10 {X : mCx} {b L : Nat} {sc : Nat → Int32} {μ : mMem} {x3 : Int32} (hv1 : vp_in (x3 + 1) L) (hv2 : vp_in (x3 + 2) L) (hv3 : vp_in (x3 + 3) L) (hv4 : vp_in (x3 + 4) L) {Inv : mMem → Prop} (hp : (∀ (u0 : Int32) (u1 : Int32), okI Inv (fX7_rank u0 u1) (fX8_rank u0 u1))) (hI : Inv μ) (hk : ∀ μ', Inv μ' → TL X b L sc 1391 [(0, .ref 118), (1, .ref 48), (2, .ref 81), (3, .int x3)] [] μ') : TL X b L sc 470 [(0, .ref 118), (1, .ref 48), (2, .ref 81), (3, .int x3)] [] μ := by
  obtain ⟨r, μ1, μ2, h1, h2, hI2⟩ := hp ((sc (x3 + (1 : Int32)).toNatClampNeg)) ((sc (x3 + (2 : Int32)).toNatClampNeg)) μ hI
  refine TL_aload_n 1 rfl rfl dL_law_470 ?_
  refine TL_aload_n 0 rfl rfl dL_law_471 ?_
  refine TL_iload_n 3 rfl rfl dL_law_472 ?_
  refine TL_iconst (1 : Int32) (by decide) dL_law_473 ?_
  refine TL_iadd dL_law_474 ?_
  refine TL_sld hv1 dL_law_475 ?_
  refine TL_aload_n 0 rfl rfl dL_law_476 ?_
  refine TL_iload_n 3 rfl rfl dL_law_477 ?_
  refine TL_iconst (2 : Int32) (by decide) dL_law_478 ?_
  refine TL_iadd dL_law_479 ?_
  refine TL_sld hv2 dL_law_480 ?_
  refine TL_call (v2 := some (.int r)) (c := 7) [.int (sc (x3 + (1 : Int32)).toNatClampNeg), .int (sc (x3 + (2 : Int32)).toNatClampNeg)] [] mkX7_rank lmL_56 kd_48 rfl rfl (by decide) (Nat.le_of_ble_eq_true rfl) dL_law_481 (by rw [← h1]; exact bsX7_rank _ (sc (x3 + (1 : Int32)).toNatClampNeg) (sc (x3 + (2 : Int32)).toNatClampNeg) μ) ?_
  refine TL_aload_n 2 rfl rfl dL_law_484 ?_
  refine TL_aload_n 0 rfl rfl dL_law_485 ?_
  refine TL_iload_n 3 rfl rfl dL_law_486 ?_
  refine TL_iconst (1 : Int32) (by decide) dL_law_487 ?_
  refine TL_iadd dL_law_488 ?_
  refine TL_sld hv1 dL_law_489 ?_
  refine TL_aload_n 0 rfl rfl dL_law_490 ?_
  refine TL_iload_n 3 rfl rfl dL_law_491 ?_
  refine TL_iconst (2 : Int32) (by decide) dL_law_492 ?_
  refine TL_iadd dL_law_493 ?_
  refine TL_sld hv2 dL_law_494 ?_
  refine TL_call (v2 := some (.int r)) (c := 8) [.int (sc (x3 + (1 : Int32)).toNatClampNeg), .int (sc (x3 + (2 : Int32)).toNatClampNeg)] [.int r] mkX8_rank lmL_59 kd_81 rfl rfl (by decide) (Nat.le_of_ble_eq_true rfl) dL_law_495 (by rw [← h2]; exact bsX8_rank _ (sc (x3 + (1 : Int32)).toNatClampNeg) (sc (x3 + (2 : Int32)).toNatClampNeg) μ1) ?_
  refine TL_eq (x := r) (st := []) 1391 dL_law_498 (by decide) ?_
  exact hk μ2 hI2
theorem lmL_60 : Cond.methodLink RL 60 yX7_load ∈ gdL := gd_mem 568 (by decide +kernel) (by decide +kernel)
theorem lmL_63 : Cond.methodLink RL 63 yX8_load ∈ gdL := gd_mem 1114 (by decide +kernel) (by decide +kernel)
set_option maxRecDepth 100000 in
theorem lc_11 {X : mCx} {b L : Nat} {sc : Nat → Int32} {μ : mMem} {x3 : Int32} (hv1 : vp_in (x3 + 1) L) (hv2 : vp_in (x3 + 2) L) (hv3 : vp_in (x3 + 3) L) (hv4 : vp_in (x3 + 4) L) {Inv : mMem → Prop} (hp : (∀ (u0 : Int32) (u1 : Int32), okI Inv (fX7_load u0 u1) (fX8_load u0 u1))) (hI : Inv μ) (hk : ∀ μ', Inv μ' → TL X b L sc 1391 [(0, .ref 118), (1, .ref 48), (2, .ref 81), (3, .int x3)] [] μ') : TL X b L sc 503 [(0, .ref 118), (1, .ref 48), (2, .ref 81), (3, .int x3)] [] μ := by
  obtain ⟨r, μ1, μ2, h1, h2, hI2⟩ := hp ((sc (x3 + (1 : Int32)).toNatClampNeg)) ((sc (x3 + (2 : Int32)).toNatClampNeg)) μ hI
  refine TL_aload_n 1 rfl rfl dL_law_503 ?_
  refine TL_aload_n 0 rfl rfl dL_law_504 ?_
  refine TL_iload_n 3 rfl rfl dL_law_505 ?_
  refine TL_iconst (1 : Int32) (by decide) dL_law_506 ?_
  refine TL_iadd dL_law_507 ?_
  refine TL_sld hv1 dL_law_508 ?_
  refine TL_aload_n 0 rfl rfl dL_law_509 ?_
  refine TL_iload_n 3 rfl rfl dL_law_510 ?_
  refine TL_iconst (2 : Int32) (by decide) dL_law_511 ?_
  refine TL_iadd dL_law_512 ?_
  refine TL_sld hv2 dL_law_513 ?_
  refine TL_call (v2 := some (.int r)) (c := 7) [.int (sc (x3 + (1 : Int32)).toNatClampNeg), .int (sc (x3 + (2 : Int32)).toNatClampNeg)] [] mkX7_load lmL_60 kd_48 rfl rfl (by decide) (Nat.le_of_ble_eq_true rfl) dL_law_514 (by rw [← h1]; exact bsX7_load _ (sc (x3 + (1 : Int32)).toNatClampNeg) (sc (x3 + (2 : Int32)).toNatClampNeg) μ) ?_
  refine TL_aload_n 2 rfl rfl dL_law_517 ?_
  refine TL_aload_n 0 rfl rfl dL_law_518 ?_
  refine TL_iload_n 3 rfl rfl dL_law_519 ?_
  refine TL_iconst (1 : Int32) (by decide) dL_law_520 ?_
  refine TL_iadd dL_law_521 ?_
  refine TL_sld hv1 dL_law_522 ?_
  refine TL_aload_n 0 rfl rfl dL_law_523 ?_
  refine TL_iload_n 3 rfl rfl dL_law_524 ?_
  refine TL_iconst (2 : Int32) (by decide) dL_law_525 ?_
  refine TL_iadd dL_law_526 ?_
  refine TL_sld hv2 dL_law_527 ?_
  refine TL_call (v2 := some (.int r)) (c := 8) [.int (sc (x3 + (1 : Int32)).toNatClampNeg), .int (sc (x3 + (2 : Int32)).toNatClampNeg)] [.int r] mkX8_load lmL_63 kd_81 rfl rfl (by decide) (Nat.le_of_ble_eq_true rfl) dL_law_528 (by rw [← h2]; exact bsX8_load _ (sc (x3 + (1 : Int32)).toNatClampNeg) (sc (x3 + (2 : Int32)).toNatClampNeg) μ1) ?_
  refine TL_eq (x := r) (st := []) 1391 dL_law_531 (by decide) ?_
  exact hk μ2 hI2
theorem lmL_64 : Cond.methodLink RL 64 yX7_move ∈ gdL := gd_mem 572 (by decide +kernel) (by decide +kernel)
theorem lmL_67 : Cond.methodLink RL 67 yX8_move ∈ gdL := gd_mem 1119 (by decide +kernel) (by decide +kernel)
set_option maxRecDepth 100000 in
theorem lc_12 {X : mCx} {b L : Nat} {sc : Nat → Int32} {μ : mMem} {x3 : Int32} (hv1 : vp_in (x3 + 1) L) (hv2 : vp_in (x3 + 2) L) (hv3 : vp_in (x3 + 3) L) (hv4 : vp_in (x3 + 4) L) {Inv : mMem → Prop} (hp : (∀ (u0 : Int32) (u1 : Int32), okI Inv (fX7_move u0 u1) (fX8_move u0 u1))) (hI : Inv μ) (hk : ∀ μ', Inv μ' → TL X b L sc 1391 [(0, .ref 118), (1, .ref 48), (2, .ref 81), (3, .int x3)] [] μ') : TL X b L sc 536 [(0, .ref 118), (1, .ref 48), (2, .ref 81), (3, .int x3)] [] μ := by
  obtain ⟨r, μ1, μ2, h1, h2, hI2⟩ := hp ((sc (x3 + (1 : Int32)).toNatClampNeg)) ((sc (x3 + (2 : Int32)).toNatClampNeg)) μ hI
  refine TL_aload_n 1 rfl rfl dL_law_536 ?_
  refine TL_aload_n 0 rfl rfl dL_law_537 ?_
  refine TL_iload_n 3 rfl rfl dL_law_538 ?_
  refine TL_iconst (1 : Int32) (by decide) dL_law_539 ?_
  refine TL_iadd dL_law_540 ?_
  refine TL_sld hv1 dL_law_541 ?_
  refine TL_aload_n 0 rfl rfl dL_law_542 ?_
  refine TL_iload_n 3 rfl rfl dL_law_543 ?_
  refine TL_iconst (2 : Int32) (by decide) dL_law_544 ?_
  refine TL_iadd dL_law_545 ?_
  refine TL_sld hv2 dL_law_546 ?_
  refine TL_call (v2 := some (.int r)) (c := 7) [.int (sc (x3 + (1 : Int32)).toNatClampNeg), .int (sc (x3 + (2 : Int32)).toNatClampNeg)] [] mkX7_move lmL_64 kd_48 rfl rfl (by decide) (Nat.le_of_ble_eq_true rfl) dL_law_547 (by rw [← h1]; exact bsX7_move _ (sc (x3 + (1 : Int32)).toNatClampNeg) (sc (x3 + (2 : Int32)).toNatClampNeg) μ) ?_
  refine TL_aload_n 2 rfl rfl dL_law_550 ?_
  refine TL_aload_n 0 rfl rfl dL_law_551 ?_
  refine TL_iload_n 3 rfl rfl dL_law_552 ?_
  refine TL_iconst (1 : Int32) (by decide) dL_law_553 ?_
  refine TL_iadd dL_law_554 ?_
  refine TL_sld hv1 dL_law_555 ?_
  refine TL_aload_n 0 rfl rfl dL_law_556 ?_
  refine TL_iload_n 3 rfl rfl dL_law_557 ?_
  refine TL_iconst (2 : Int32) (by decide) dL_law_558 ?_
  refine TL_iadd dL_law_559 ?_
  refine TL_sld hv2 dL_law_560 ?_
  refine TL_call (v2 := some (.int r)) (c := 8) [.int (sc (x3 + (1 : Int32)).toNatClampNeg), .int (sc (x3 + (2 : Int32)).toNatClampNeg)] [.int r] mkX8_move lmL_67 kd_81 rfl rfl (by decide) (Nat.le_of_ble_eq_true rfl) dL_law_561 (by rw [← h2]; exact bsX8_move _ (sc (x3 + (1 : Int32)).toNatClampNeg) (sc (x3 + (2 : Int32)).toNatClampNeg) μ1) ?_
  refine TL_eq (x := r) (st := []) 1391 dL_law_564 (by decide) ?_
  exact hk μ2 hI2
theorem lmL_68 : Cond.methodLink RL 68 yX7_law ∈ gdL := gd_mem 576 (by decide +kernel) (by decide +kernel)
theorem lmL_71 : Cond.methodLink RL 71 yX8_law ∈ gdL := gd_mem 1123 (by decide +kernel) (by decide +kernel)
set_option maxRecDepth 100000 in
theorem lc_13 {X : mCx} {b L : Nat} {sc : Nat → Int32} {μ : mMem} {x3 : Int32} (hv1 : vp_in (x3 + 1) L) (hv2 : vp_in (x3 + 2) L) (hv3 : vp_in (x3 + 3) L) (hv4 : vp_in (x3 + 4) L) {Inv : mMem → Prop} (hp : (∀ (u0 : Int32) (u1 : Int32), okI Inv (fX7_law u0 u1) (fX8_law u0 u1))) (hI : Inv μ) (hk : ∀ μ', Inv μ' → TL X b L sc 1391 [(0, .ref 118), (1, .ref 48), (2, .ref 81), (3, .int x3)] [] μ') : TL X b L sc 569 [(0, .ref 118), (1, .ref 48), (2, .ref 81), (3, .int x3)] [] μ := by
  obtain ⟨r, μ1, μ2, h1, h2, hI2⟩ := hp ((sc (x3 + (1 : Int32)).toNatClampNeg)) ((sc (x3 + (2 : Int32)).toNatClampNeg)) μ hI
  refine TL_aload_n 1 rfl rfl dL_law_569 ?_
  refine TL_aload_n 0 rfl rfl dL_law_570 ?_
  refine TL_iload_n 3 rfl rfl dL_law_571 ?_
  refine TL_iconst (1 : Int32) (by decide) dL_law_572 ?_
  refine TL_iadd dL_law_573 ?_
  refine TL_sld hv1 dL_law_574 ?_
  refine TL_aload_n 0 rfl rfl dL_law_575 ?_
  refine TL_iload_n 3 rfl rfl dL_law_576 ?_
  refine TL_iconst (2 : Int32) (by decide) dL_law_577 ?_
  refine TL_iadd dL_law_578 ?_
  refine TL_sld hv2 dL_law_579 ?_
  refine TL_call (v2 := some (.int r)) (c := 7) [.int (sc (x3 + (1 : Int32)).toNatClampNeg), .int (sc (x3 + (2 : Int32)).toNatClampNeg)] [] mkX7_law lmL_68 kd_48 rfl rfl (by decide) (Nat.le_of_ble_eq_true rfl) dL_law_580 (by rw [← h1]; exact bsX7_law _ (sc (x3 + (1 : Int32)).toNatClampNeg) (sc (x3 + (2 : Int32)).toNatClampNeg) μ) ?_
  refine TL_aload_n 2 rfl rfl dL_law_583 ?_
  refine TL_aload_n 0 rfl rfl dL_law_584 ?_
  refine TL_iload_n 3 rfl rfl dL_law_585 ?_
  refine TL_iconst (1 : Int32) (by decide) dL_law_586 ?_
  refine TL_iadd dL_law_587 ?_
  refine TL_sld hv1 dL_law_588 ?_
  refine TL_aload_n 0 rfl rfl dL_law_589 ?_
  refine TL_iload_n 3 rfl rfl dL_law_590 ?_
  refine TL_iconst (2 : Int32) (by decide) dL_law_591 ?_
  refine TL_iadd dL_law_592 ?_
  refine TL_sld hv2 dL_law_593 ?_
  refine TL_call (v2 := some (.int r)) (c := 8) [.int (sc (x3 + (1 : Int32)).toNatClampNeg), .int (sc (x3 + (2 : Int32)).toNatClampNeg)] [.int r] mkX8_law lmL_71 kd_81 rfl rfl (by decide) (Nat.le_of_ble_eq_true rfl) dL_law_594 (by rw [← h2]; exact bsX8_law _ (sc (x3 + (1 : Int32)).toNatClampNeg) (sc (x3 + (2 : Int32)).toNatClampNeg) μ1) ?_
  refine TL_eq (x := r) (st := []) 1391 dL_law_597 (by decide) ?_
  exact hk μ2 hI2
theorem lmL_72 : Cond.methodLink RL 72 yX7_year ∈ gdL := gd_mem 580 (by decide +kernel) (by decide +kernel)
theorem lmL_75 : Cond.methodLink RL 75 yX8_year ∈ gdL := gd_mem 1127 (by decide +kernel) (by decide +kernel)
set_option maxRecDepth 100000 in
theorem lc_14 {X : mCx} {b L : Nat} {sc : Nat → Int32} {μ : mMem} {x3 : Int32} (hv1 : vp_in (x3 + 1) L) (hv2 : vp_in (x3 + 2) L) (hv3 : vp_in (x3 + 3) L) (hv4 : vp_in (x3 + 4) L) {Inv : mMem → Prop} (hp : (okI Inv (fX7_year ) (fX8_year ))) (hI : Inv μ) (hk : ∀ μ', Inv μ' → TL X b L sc 1391 [(0, .ref 118), (1, .ref 48), (2, .ref 81), (3, .int x3)] [] μ') : TL X b L sc 602 [(0, .ref 118), (1, .ref 48), (2, .ref 81), (3, .int x3)] [] μ := by
  obtain ⟨r, μ1, μ2, h1, h2, hI2⟩ := hp  μ hI
  refine TL_aload_n 1 rfl rfl dL_law_602 ?_
  refine TL_call (v2 := some (.int r)) (c := 7) [] [] mkX7_year lmL_72 kd_48 rfl rfl (by decide) (Nat.le_of_ble_eq_true rfl) dL_law_603 (by rw [← h1]; exact bsX7_year _  μ) ?_
  refine TL_aload_n 2 rfl rfl dL_law_606 ?_
  refine TL_call (v2 := some (.int r)) (c := 8) [] [.int r] mkX8_year lmL_75 kd_81 rfl rfl (by decide) (Nat.le_of_ble_eq_true rfl) dL_law_607 (by rw [← h2]; exact bsX8_year _  μ1) ?_
  refine TL_eq (x := r) (st := []) 1391 dL_law_610 (by decide) ?_
  exact hk μ2 hI2
theorem lmL_76 : Cond.methodLink RL 76 yX7_climb ∈ gdL := gd_mem 585 (by decide +kernel) (by decide +kernel)
theorem lmL_79 : Cond.methodLink RL 79 yX8_climb ∈ gdL := gd_mem 1131 (by decide +kernel) (by decide +kernel)
set_option maxRecDepth 100000 in
theorem lc_15 {X : mCx} {b L : Nat} {sc : Nat → Int32} {μ : mMem} {x3 : Int32} (hv1 : vp_in (x3 + 1) L) (hv2 : vp_in (x3 + 2) L) (hv3 : vp_in (x3 + 3) L) (hv4 : vp_in (x3 + 4) L) {Inv : mMem → Prop} (hp : (∀ (u0 : Int32) (u1 : Int32), okI Inv (fX7_climb u0 u1) (fX8_climb u0 u1))) (hI : Inv μ) (hk : ∀ μ', Inv μ' → TL X b L sc 1391 [(0, .ref 118), (1, .ref 48), (2, .ref 81), (3, .int x3)] [] μ') : TL X b L sc 615 [(0, .ref 118), (1, .ref 48), (2, .ref 81), (3, .int x3)] [] μ := by
  obtain ⟨r, μ1, μ2, h1, h2, hI2⟩ := hp ((sc (x3 + (1 : Int32)).toNatClampNeg)) ((sc (x3 + (2 : Int32)).toNatClampNeg)) μ hI
  refine TL_aload_n 1 rfl rfl dL_law_615 ?_
  refine TL_aload_n 0 rfl rfl dL_law_616 ?_
  refine TL_iload_n 3 rfl rfl dL_law_617 ?_
  refine TL_iconst (1 : Int32) (by decide) dL_law_618 ?_
  refine TL_iadd dL_law_619 ?_
  refine TL_sld hv1 dL_law_620 ?_
  refine TL_aload_n 0 rfl rfl dL_law_621 ?_
  refine TL_iload_n 3 rfl rfl dL_law_622 ?_
  refine TL_iconst (2 : Int32) (by decide) dL_law_623 ?_
  refine TL_iadd dL_law_624 ?_
  refine TL_sld hv2 dL_law_625 ?_
  refine TL_call (v2 := some (.int r)) (c := 7) [.int (sc (x3 + (1 : Int32)).toNatClampNeg), .int (sc (x3 + (2 : Int32)).toNatClampNeg)] [] mkX7_climb lmL_76 kd_48 rfl rfl (by decide) (Nat.le_of_ble_eq_true rfl) dL_law_626 (by rw [← h1]; exact bsX7_climb _ (sc (x3 + (1 : Int32)).toNatClampNeg) (sc (x3 + (2 : Int32)).toNatClampNeg) μ) ?_
  refine TL_aload_n 2 rfl rfl dL_law_629 ?_
  refine TL_aload_n 0 rfl rfl dL_law_630 ?_
  refine TL_iload_n 3 rfl rfl dL_law_631 ?_
  refine TL_iconst (1 : Int32) (by decide) dL_law_632 ?_
  refine TL_iadd dL_law_633 ?_
  refine TL_sld hv1 dL_law_634 ?_
  refine TL_aload_n 0 rfl rfl dL_law_635 ?_
  refine TL_iload_n 3 rfl rfl dL_law_636 ?_
  refine TL_iconst (2 : Int32) (by decide) dL_law_637 ?_
  refine TL_iadd dL_law_638 ?_
  refine TL_sld hv2 dL_law_639 ?_
  refine TL_call (v2 := some (.int r)) (c := 8) [.int (sc (x3 + (1 : Int32)).toNatClampNeg), .int (sc (x3 + (2 : Int32)).toNatClampNeg)] [.int r] mkX8_climb lmL_79 kd_81 rfl rfl (by decide) (Nat.le_of_ble_eq_true rfl) dL_law_640 (by rw [← h2]; exact bsX8_climb _ (sc (x3 + (1 : Int32)).toNatClampNeg) (sc (x3 + (2 : Int32)).toNatClampNeg) μ1) ?_
  refine TL_eq (x := r) (st := []) 1391 dL_law_643 (by decide) ?_
  exact hk μ2 hI2
theorem lmL_80 : Cond.methodLink RL 80 yX7_ways ∈ gdL := gd_mem 618 (by decide +kernel) (by decide +kernel)
theorem lmL_83 : Cond.methodLink RL 83 yX8_ways ∈ gdL := gd_mem 1145 (by decide +kernel) (by decide +kernel)
set_option maxRecDepth 100000 in
theorem lc_16 {X : mCx} {b L : Nat} {sc : Nat → Int32} {μ : mMem} {x3 : Int32} (hv1 : vp_in (x3 + 1) L) (hv2 : vp_in (x3 + 2) L) (hv3 : vp_in (x3 + 3) L) (hv4 : vp_in (x3 + 4) L) {Inv : mMem → Prop} (hp : (∀ (u0 : Int32), okI Inv (fX7_ways u0) (fX8_ways u0))) (hI : Inv μ) (hk : ∀ μ', Inv μ' → TL X b L sc 1391 [(0, .ref 118), (1, .ref 48), (2, .ref 81), (3, .int x3)] [] μ') : TL X b L sc 648 [(0, .ref 118), (1, .ref 48), (2, .ref 81), (3, .int x3)] [] μ := by
  obtain ⟨r, μ1, μ2, h1, h2, hI2⟩ := hp ((sc (x3 + (1 : Int32)).toNatClampNeg)) μ hI
  refine TL_aload_n 1 rfl rfl dL_law_648 ?_
  refine TL_aload_n 0 rfl rfl dL_law_649 ?_
  refine TL_iload_n 3 rfl rfl dL_law_650 ?_
  refine TL_iconst (1 : Int32) (by decide) dL_law_651 ?_
  refine TL_iadd dL_law_652 ?_
  refine TL_sld hv1 dL_law_653 ?_
  refine TL_call (v2 := some (.int r)) (c := 7) [.int (sc (x3 + (1 : Int32)).toNatClampNeg)] [] mkX7_ways lmL_80 kd_48 rfl rfl (by decide) (Nat.le_of_ble_eq_true rfl) dL_law_654 (by rw [← h1]; exact bsX7_ways _ (sc (x3 + (1 : Int32)).toNatClampNeg) μ) ?_
  refine TL_aload_n 2 rfl rfl dL_law_657 ?_
  refine TL_aload_n 0 rfl rfl dL_law_658 ?_
  refine TL_iload_n 3 rfl rfl dL_law_659 ?_
  refine TL_iconst (1 : Int32) (by decide) dL_law_660 ?_
  refine TL_iadd dL_law_661 ?_
  refine TL_sld hv1 dL_law_662 ?_
  refine TL_call (v2 := some (.int r)) (c := 8) [.int (sc (x3 + (1 : Int32)).toNatClampNeg)] [.int r] mkX8_ways lmL_83 kd_81 rfl rfl (by decide) (Nat.le_of_ble_eq_true rfl) dL_law_663 (by rw [← h2]; exact bsX8_ways _ (sc (x3 + (1 : Int32)).toNatClampNeg) μ1) ?_
  refine TL_eq (x := r) (st := []) 1391 dL_law_666 (by decide) ?_
  exact hk μ2 hI2
theorem lmL_84 : Cond.methodLink RL 84 yX7_smooth ∈ gdL := gd_mem 627 (by decide +kernel) (by decide +kernel)
theorem lmL_87 : Cond.methodLink RL 87 yX8_smooth ∈ gdL := gd_mem 1149 (by decide +kernel) (by decide +kernel)
set_option maxRecDepth 100000 in
theorem lc_17 {X : mCx} {b L : Nat} {sc : Nat → Int32} {μ : mMem} {x3 : Int32} (hv1 : vp_in (x3 + 1) L) (hv2 : vp_in (x3 + 2) L) (hv3 : vp_in (x3 + 3) L) (hv4 : vp_in (x3 + 4) L) {Inv : mMem → Prop} (hp : (∀ (u0 : Int32) (u1 : Int32), okI Inv (fX7_smooth u0 u1) (fX8_smooth u0 u1))) (hI : Inv μ) (hk : ∀ μ', Inv μ' → TL X b L sc 1391 [(0, .ref 118), (1, .ref 48), (2, .ref 81), (3, .int x3)] [] μ') : TL X b L sc 671 [(0, .ref 118), (1, .ref 48), (2, .ref 81), (3, .int x3)] [] μ := by
  obtain ⟨r, μ1, μ2, h1, h2, hI2⟩ := hp ((sc (x3 + (1 : Int32)).toNatClampNeg)) ((sc (x3 + (2 : Int32)).toNatClampNeg)) μ hI
  refine TL_aload_n 1 rfl rfl dL_law_671 ?_
  refine TL_aload_n 0 rfl rfl dL_law_672 ?_
  refine TL_iload_n 3 rfl rfl dL_law_673 ?_
  refine TL_iconst (1 : Int32) (by decide) dL_law_674 ?_
  refine TL_iadd dL_law_675 ?_
  refine TL_sld hv1 dL_law_676 ?_
  refine TL_aload_n 0 rfl rfl dL_law_677 ?_
  refine TL_iload_n 3 rfl rfl dL_law_678 ?_
  refine TL_iconst (2 : Int32) (by decide) dL_law_679 ?_
  refine TL_iadd dL_law_680 ?_
  refine TL_sld hv2 dL_law_681 ?_
  refine TL_call (v2 := some (.int r)) (c := 7) [.int (sc (x3 + (1 : Int32)).toNatClampNeg), .int (sc (x3 + (2 : Int32)).toNatClampNeg)] [] mkX7_smooth lmL_84 kd_48 rfl rfl (by decide) (Nat.le_of_ble_eq_true rfl) dL_law_682 (by rw [← h1]; exact bsX7_smooth _ (sc (x3 + (1 : Int32)).toNatClampNeg) (sc (x3 + (2 : Int32)).toNatClampNeg) μ) ?_
  refine TL_aload_n 2 rfl rfl dL_law_685 ?_
  refine TL_aload_n 0 rfl rfl dL_law_686 ?_
  refine TL_iload_n 3 rfl rfl dL_law_687 ?_
  refine TL_iconst (1 : Int32) (by decide) dL_law_688 ?_
  refine TL_iadd dL_law_689 ?_
  refine TL_sld hv1 dL_law_690 ?_
  refine TL_aload_n 0 rfl rfl dL_law_691 ?_
  refine TL_iload_n 3 rfl rfl dL_law_692 ?_
  refine TL_iconst (2 : Int32) (by decide) dL_law_693 ?_
  refine TL_iadd dL_law_694 ?_
  refine TL_sld hv2 dL_law_695 ?_
  refine TL_call (v2 := some (.int r)) (c := 8) [.int (sc (x3 + (1 : Int32)).toNatClampNeg), .int (sc (x3 + (2 : Int32)).toNatClampNeg)] [.int r] mkX8_smooth lmL_87 kd_81 rfl rfl (by decide) (Nat.le_of_ble_eq_true rfl) dL_law_696 (by rw [← h2]; exact bsX8_smooth _ (sc (x3 + (1 : Int32)).toNatClampNeg) (sc (x3 + (2 : Int32)).toNatClampNeg) μ1) ?_
  refine TL_eq (x := r) (st := []) 1391 dL_law_699 (by decide) ?_
  exact hk μ2 hI2
theorem lmL_88 : Cond.methodLink RL 88 yX7_homes ∈ gdL := gd_mem 650 (by decide +kernel) (by decide +kernel)
theorem lmL_91 : Cond.methodLink RL 91 yX8_homes ∈ gdL := gd_mem 1161 (by decide +kernel) (by decide +kernel)
set_option maxRecDepth 100000 in
theorem lc_18 {X : mCx} {b L : Nat} {sc : Nat → Int32} {μ : mMem} {x3 : Int32} (hv1 : vp_in (x3 + 1) L) (hv2 : vp_in (x3 + 2) L) (hv3 : vp_in (x3 + 3) L) (hv4 : vp_in (x3 + 4) L) {Inv : mMem → Prop} (hp : (okI Inv (fX7_homes ) (fX8_homes ))) (hI : Inv μ) (hk : ∀ μ', Inv μ' → TL X b L sc 1391 [(0, .ref 118), (1, .ref 48), (2, .ref 81), (3, .int x3)] [] μ') : TL X b L sc 704 [(0, .ref 118), (1, .ref 48), (2, .ref 81), (3, .int x3)] [] μ := by
  obtain ⟨r, μ1, μ2, h1, h2, hI2⟩ := hp  μ hI
  refine TL_aload_n 1 rfl rfl dL_law_704 ?_
  refine TL_call (v2 := some (.int r)) (c := 7) [] [] mkX7_homes lmL_88 kd_48 rfl rfl (by decide) (Nat.le_of_ble_eq_true rfl) dL_law_705 (by rw [← h1]; exact bsX7_homes _  μ) ?_
  refine TL_aload_n 2 rfl rfl dL_law_708 ?_
  refine TL_call (v2 := some (.int r)) (c := 8) [] [.int r] mkX8_homes lmL_91 kd_81 rfl rfl (by decide) (Nat.le_of_ble_eq_true rfl) dL_law_709 (by rw [← h2]; exact bsX8_homes _  μ1) ?_
  refine TL_eq (x := r) (st := []) 1391 dL_law_712 (by decide) ?_
  exact hk μ2 hI2
theorem lmL_92 : Cond.methodLink RL 92 yX7_must ∈ gdL := gd_mem 659 (by decide +kernel) (by decide +kernel)
theorem lmL_95 : Cond.methodLink RL 95 yX8_must ∈ gdL := gd_mem 1169 (by decide +kernel) (by decide +kernel)
set_option maxRecDepth 100000 in
theorem lc_19 {X : mCx} {b L : Nat} {sc : Nat → Int32} {μ : mMem} {x3 : Int32} (hv1 : vp_in (x3 + 1) L) (hv2 : vp_in (x3 + 2) L) (hv3 : vp_in (x3 + 3) L) (hv4 : vp_in (x3 + 4) L) {Inv : mMem → Prop} (hp : (∀ (u0 : Int32), okI Inv (fX7_must u0) (fX8_must u0))) (hI : Inv μ) (hk : ∀ μ', Inv μ' → TL X b L sc 1391 [(0, .ref 118), (1, .ref 48), (2, .ref 81), (3, .int x3)] [] μ') : TL X b L sc 717 [(0, .ref 118), (1, .ref 48), (2, .ref 81), (3, .int x3)] [] μ := by
  obtain ⟨r, μ1, μ2, h1, h2, hI2⟩ := hp ((sc (x3 + (1 : Int32)).toNatClampNeg)) μ hI
  refine TL_aload_n 1 rfl rfl dL_law_717 ?_
  refine TL_aload_n 0 rfl rfl dL_law_718 ?_
  refine TL_iload_n 3 rfl rfl dL_law_719 ?_
  refine TL_iconst (1 : Int32) (by decide) dL_law_720 ?_
  refine TL_iadd dL_law_721 ?_
  refine TL_sld hv1 dL_law_722 ?_
  refine TL_call (v2 := some (.int r)) (c := 7) [.int (sc (x3 + (1 : Int32)).toNatClampNeg)] [] mkX7_must lmL_92 kd_48 rfl rfl (by decide) (Nat.le_of_ble_eq_true rfl) dL_law_723 (by rw [← h1]; exact bsX7_must _ (sc (x3 + (1 : Int32)).toNatClampNeg) μ) ?_
  refine TL_aload_n 2 rfl rfl dL_law_726 ?_
  refine TL_aload_n 0 rfl rfl dL_law_727 ?_
  refine TL_iload_n 3 rfl rfl dL_law_728 ?_
  refine TL_iconst (1 : Int32) (by decide) dL_law_729 ?_
  refine TL_iadd dL_law_730 ?_
  refine TL_sld hv1 dL_law_731 ?_
  refine TL_call (v2 := some (.int r)) (c := 8) [.int (sc (x3 + (1 : Int32)).toNatClampNeg)] [.int r] mkX8_must lmL_95 kd_81 rfl rfl (by decide) (Nat.le_of_ble_eq_true rfl) dL_law_732 (by rw [← h2]; exact bsX8_must _ (sc (x3 + (1 : Int32)).toNatClampNeg) μ1) ?_
  refine TL_eq (x := r) (st := []) 1391 dL_law_735 (by decide) ?_
  exact hk μ2 hI2
theorem lmL_96 : Cond.methodLink RL 96 yX7_day ∈ gdL := gd_mem 664 (by decide +kernel) (by decide +kernel)
theorem lmL_99 : Cond.methodLink RL 99 yX8_day ∈ gdL := gd_mem 1173 (by decide +kernel) (by decide +kernel)
set_option maxRecDepth 100000 in
theorem lc_20 {X : mCx} {b L : Nat} {sc : Nat → Int32} {μ : mMem} {x3 : Int32} (hv1 : vp_in (x3 + 1) L) (hv2 : vp_in (x3 + 2) L) (hv3 : vp_in (x3 + 3) L) (hv4 : vp_in (x3 + 4) L) {Inv : mMem → Prop} (hp : (∀ (u0 : Int32), okI Inv (fX7_day u0) (fX8_day u0))) (hI : Inv μ) (hk : ∀ μ', Inv μ' → TL X b L sc 1391 [(0, .ref 118), (1, .ref 48), (2, .ref 81), (3, .int x3)] [] μ') : TL X b L sc 740 [(0, .ref 118), (1, .ref 48), (2, .ref 81), (3, .int x3)] [] μ := by
  obtain ⟨r, μ1, μ2, h1, h2, hI2⟩ := hp ((sc (x3 + (1 : Int32)).toNatClampNeg)) μ hI
  refine TL_aload_n 1 rfl rfl dL_law_740 ?_
  refine TL_aload_n 0 rfl rfl dL_law_741 ?_
  refine TL_iload_n 3 rfl rfl dL_law_742 ?_
  refine TL_iconst (1 : Int32) (by decide) dL_law_743 ?_
  refine TL_iadd dL_law_744 ?_
  refine TL_sld hv1 dL_law_745 ?_
  refine TL_call (v2 := some (.int r)) (c := 7) [.int (sc (x3 + (1 : Int32)).toNatClampNeg)] [] mkX7_day lmL_96 kd_48 rfl rfl (by decide) (Nat.le_of_ble_eq_true rfl) dL_law_746 (by rw [← h1]; exact bsX7_day _ (sc (x3 + (1 : Int32)).toNatClampNeg) μ) ?_
  refine TL_aload_n 2 rfl rfl dL_law_749 ?_
  refine TL_aload_n 0 rfl rfl dL_law_750 ?_
  refine TL_iload_n 3 rfl rfl dL_law_751 ?_
  refine TL_iconst (1 : Int32) (by decide) dL_law_752 ?_
  refine TL_iadd dL_law_753 ?_
  refine TL_sld hv1 dL_law_754 ?_
  refine TL_call (v2 := some (.int r)) (c := 8) [.int (sc (x3 + (1 : Int32)).toNatClampNeg)] [.int r] mkX8_day lmL_99 kd_81 rfl rfl (by decide) (Nat.le_of_ble_eq_true rfl) dL_law_755 (by rw [← h2]; exact bsX8_day _ (sc (x3 + (1 : Int32)).toNatClampNeg) μ1) ?_
  refine TL_eq (x := r) (st := []) 1391 dL_law_758 (by decide) ?_
  exact hk μ2 hI2
theorem lmL_100 : Cond.methodLink RL 100 yX7_ahead ∈ gdL := gd_mem 681 (by decide +kernel) (by decide +kernel)
theorem lmL_103 : Cond.methodLink RL 103 yX8_ahead ∈ gdL := gd_mem 1185 (by decide +kernel) (by decide +kernel)
set_option maxRecDepth 100000 in
theorem lc_21 {X : mCx} {b L : Nat} {sc : Nat → Int32} {μ : mMem} {x3 : Int32} (hv1 : vp_in (x3 + 1) L) (hv2 : vp_in (x3 + 2) L) (hv3 : vp_in (x3 + 3) L) (hv4 : vp_in (x3 + 4) L) {Inv : mMem → Prop} (hp : (∀ (u0 : Int32) (u1 : Int32), okI Inv (fX7_ahead u0 u1) (fX8_ahead u0 u1))) (hI : Inv μ) (hk : ∀ μ', Inv μ' → TL X b L sc 1391 [(0, .ref 118), (1, .ref 48), (2, .ref 81), (3, .int x3)] [] μ') : TL X b L sc 763 [(0, .ref 118), (1, .ref 48), (2, .ref 81), (3, .int x3)] [] μ := by
  obtain ⟨r, μ1, μ2, h1, h2, hI2⟩ := hp ((sc (x3 + (1 : Int32)).toNatClampNeg)) ((sc (x3 + (2 : Int32)).toNatClampNeg)) μ hI
  refine TL_aload_n 1 rfl rfl dL_law_763 ?_
  refine TL_aload_n 0 rfl rfl dL_law_764 ?_
  refine TL_iload_n 3 rfl rfl dL_law_765 ?_
  refine TL_iconst (1 : Int32) (by decide) dL_law_766 ?_
  refine TL_iadd dL_law_767 ?_
  refine TL_sld hv1 dL_law_768 ?_
  refine TL_aload_n 0 rfl rfl dL_law_769 ?_
  refine TL_iload_n 3 rfl rfl dL_law_770 ?_
  refine TL_iconst (2 : Int32) (by decide) dL_law_771 ?_
  refine TL_iadd dL_law_772 ?_
  refine TL_sld hv2 dL_law_773 ?_
  refine TL_call (v2 := some (.int r)) (c := 7) [.int (sc (x3 + (1 : Int32)).toNatClampNeg), .int (sc (x3 + (2 : Int32)).toNatClampNeg)] [] mkX7_ahead lmL_100 kd_48 rfl rfl (by decide) (Nat.le_of_ble_eq_true rfl) dL_law_774 (by rw [← h1]; exact bsX7_ahead _ (sc (x3 + (1 : Int32)).toNatClampNeg) (sc (x3 + (2 : Int32)).toNatClampNeg) μ) ?_
  refine TL_aload_n 2 rfl rfl dL_law_777 ?_
  refine TL_aload_n 0 rfl rfl dL_law_778 ?_
  refine TL_iload_n 3 rfl rfl dL_law_779 ?_
  refine TL_iconst (1 : Int32) (by decide) dL_law_780 ?_
  refine TL_iadd dL_law_781 ?_
  refine TL_sld hv1 dL_law_782 ?_
  refine TL_aload_n 0 rfl rfl dL_law_783 ?_
  refine TL_iload_n 3 rfl rfl dL_law_784 ?_
  refine TL_iconst (2 : Int32) (by decide) dL_law_785 ?_
  refine TL_iadd dL_law_786 ?_
  refine TL_sld hv2 dL_law_787 ?_
  refine TL_call (v2 := some (.int r)) (c := 8) [.int (sc (x3 + (1 : Int32)).toNatClampNeg), .int (sc (x3 + (2 : Int32)).toNatClampNeg)] [.int r] mkX8_ahead lmL_103 kd_81 rfl rfl (by decide) (Nat.le_of_ble_eq_true rfl) dL_law_788 (by rw [← h2]; exact bsX8_ahead _ (sc (x3 + (1 : Int32)).toNatClampNeg) (sc (x3 + (2 : Int32)).toNatClampNeg) μ1) ?_
  refine TL_eq (x := r) (st := []) 1391 dL_law_791 (by decide) ?_
  exact hk μ2 hI2
theorem lmL_104 : Cond.methodLink RL 104 yX7_breaks ∈ gdL := gd_mem 689 (by decide +kernel) (by decide +kernel)
theorem lmL_107 : Cond.methodLink RL 107 yX8_breaks ∈ gdL := gd_mem 1197 (by decide +kernel) (by decide +kernel)
set_option maxRecDepth 100000 in
theorem lc_22 {X : mCx} {b L : Nat} {sc : Nat → Int32} {μ : mMem} {x3 : Int32} (hv1 : vp_in (x3 + 1) L) (hv2 : vp_in (x3 + 2) L) (hv3 : vp_in (x3 + 3) L) (hv4 : vp_in (x3 + 4) L) {Inv : mMem → Prop} (hp : (∀ (u0 : Int32), okI Inv (fX7_breaks u0) (fX8_breaks u0))) (hI : Inv μ) (hk : ∀ μ', Inv μ' → TL X b L sc 1391 [(0, .ref 118), (1, .ref 48), (2, .ref 81), (3, .int x3)] [] μ') : TL X b L sc 796 [(0, .ref 118), (1, .ref 48), (2, .ref 81), (3, .int x3)] [] μ := by
  obtain ⟨r, μ1, μ2, h1, h2, hI2⟩ := hp ((sc (x3 + (1 : Int32)).toNatClampNeg)) μ hI
  refine TL_aload_n 1 rfl rfl dL_law_796 ?_
  refine TL_aload_n 0 rfl rfl dL_law_797 ?_
  refine TL_iload_n 3 rfl rfl dL_law_798 ?_
  refine TL_iconst (1 : Int32) (by decide) dL_law_799 ?_
  refine TL_iadd dL_law_800 ?_
  refine TL_sld hv1 dL_law_801 ?_
  refine TL_call (v2 := some (.int r)) (c := 7) [.int (sc (x3 + (1 : Int32)).toNatClampNeg)] [] mkX7_breaks lmL_104 kd_48 rfl rfl (by decide) (Nat.le_of_ble_eq_true rfl) dL_law_802 (by rw [← h1]; exact bsX7_breaks _ (sc (x3 + (1 : Int32)).toNatClampNeg) μ) ?_
  refine TL_aload_n 2 rfl rfl dL_law_805 ?_
  refine TL_aload_n 0 rfl rfl dL_law_806 ?_
  refine TL_iload_n 3 rfl rfl dL_law_807 ?_
  refine TL_iconst (1 : Int32) (by decide) dL_law_808 ?_
  refine TL_iadd dL_law_809 ?_
  refine TL_sld hv1 dL_law_810 ?_
  refine TL_call (v2 := some (.int r)) (c := 8) [.int (sc (x3 + (1 : Int32)).toNatClampNeg)] [.int r] mkX8_breaks lmL_107 kd_81 rfl rfl (by decide) (Nat.le_of_ble_eq_true rfl) dL_law_811 (by rw [← h2]; exact bsX8_breaks _ (sc (x3 + (1 : Int32)).toNatClampNeg) μ1) ?_
  refine TL_eq (x := r) (st := []) 1391 dL_law_814 (by decide) ?_
  exact hk μ2 hI2
theorem lmL_108 : Cond.methodLink RL 108 yX7_stuck ∈ gdL := gd_mem 693 (by decide +kernel) (by decide +kernel)
theorem lmL_111 : Cond.methodLink RL 111 yX8_stuck ∈ gdL := gd_mem 1201 (by decide +kernel) (by decide +kernel)
set_option maxRecDepth 100000 in
theorem lc_23 {X : mCx} {b L : Nat} {sc : Nat → Int32} {μ : mMem} {x3 : Int32} (hv1 : vp_in (x3 + 1) L) (hv2 : vp_in (x3 + 2) L) (hv3 : vp_in (x3 + 3) L) (hv4 : vp_in (x3 + 4) L) {Inv : mMem → Prop} (hp : (∀ (u0 : Int32), okI Inv (fX7_stuck u0) (fX8_stuck u0))) (hI : Inv μ) (hk : ∀ μ', Inv μ' → TL X b L sc 1391 [(0, .ref 118), (1, .ref 48), (2, .ref 81), (3, .int x3)] [] μ') : TL X b L sc 819 [(0, .ref 118), (1, .ref 48), (2, .ref 81), (3, .int x3)] [] μ := by
  obtain ⟨r, μ1, μ2, h1, h2, hI2⟩ := hp ((sc (x3 + (1 : Int32)).toNatClampNeg)) μ hI
  refine TL_aload_n 1 rfl rfl dL_law_819 ?_
  refine TL_aload_n 0 rfl rfl dL_law_820 ?_
  refine TL_iload_n 3 rfl rfl dL_law_821 ?_
  refine TL_iconst (1 : Int32) (by decide) dL_law_822 ?_
  refine TL_iadd dL_law_823 ?_
  refine TL_sld hv1 dL_law_824 ?_
  refine TL_call (v2 := some (.int r)) (c := 7) [.int (sc (x3 + (1 : Int32)).toNatClampNeg)] [] mkX7_stuck lmL_108 kd_48 rfl rfl (by decide) (Nat.le_of_ble_eq_true rfl) dL_law_825 (by rw [← h1]; exact bsX7_stuck _ (sc (x3 + (1 : Int32)).toNatClampNeg) μ) ?_
  refine TL_aload_n 2 rfl rfl dL_law_828 ?_
  refine TL_aload_n 0 rfl rfl dL_law_829 ?_
  refine TL_iload_n 3 rfl rfl dL_law_830 ?_
  refine TL_iconst (1 : Int32) (by decide) dL_law_831 ?_
  refine TL_iadd dL_law_832 ?_
  refine TL_sld hv1 dL_law_833 ?_
  refine TL_call (v2 := some (.int r)) (c := 8) [.int (sc (x3 + (1 : Int32)).toNatClampNeg)] [.int r] mkX8_stuck lmL_111 kd_81 rfl rfl (by decide) (Nat.le_of_ble_eq_true rfl) dL_law_834 (by rw [← h2]; exact bsX8_stuck _ (sc (x3 + (1 : Int32)).toNatClampNeg) μ1) ?_
  refine TL_eq (x := r) (st := []) 1391 dL_law_837 (by decide) ?_
  exact hk μ2 hI2
theorem lmL_112 : Cond.methodLink RL 112 yX7_gap ∈ gdL := gd_mem 697 (by decide +kernel) (by decide +kernel)
theorem lmL_115 : Cond.methodLink RL 115 yX8_gap ∈ gdL := gd_mem 1205 (by decide +kernel) (by decide +kernel)
set_option maxRecDepth 100000 in
theorem lc_24 {X : mCx} {b L : Nat} {sc : Nat → Int32} {μ : mMem} {x3 : Int32} (hv1 : vp_in (x3 + 1) L) (hv2 : vp_in (x3 + 2) L) (hv3 : vp_in (x3 + 3) L) (hv4 : vp_in (x3 + 4) L) {Inv : mMem → Prop} (hp : (∀ (u0 : Int32), okI Inv (fX7_gap u0) (fX8_gap u0))) (hI : Inv μ) (hk : ∀ μ', Inv μ' → TL X b L sc 1391 [(0, .ref 118), (1, .ref 48), (2, .ref 81), (3, .int x3)] [] μ') : TL X b L sc 842 [(0, .ref 118), (1, .ref 48), (2, .ref 81), (3, .int x3)] [] μ := by
  obtain ⟨r, μ1, μ2, h1, h2, hI2⟩ := hp ((sc (x3 + (1 : Int32)).toNatClampNeg)) μ hI
  refine TL_aload_n 1 rfl rfl dL_law_842 ?_
  refine TL_aload_n 0 rfl rfl dL_law_843 ?_
  refine TL_iload_n 3 rfl rfl dL_law_844 ?_
  refine TL_iconst (1 : Int32) (by decide) dL_law_845 ?_
  refine TL_iadd dL_law_846 ?_
  refine TL_sld hv1 dL_law_847 ?_
  refine TL_call (v2 := some (.int r)) (c := 7) [.int (sc (x3 + (1 : Int32)).toNatClampNeg)] [] mkX7_gap lmL_112 kd_48 rfl rfl (by decide) (Nat.le_of_ble_eq_true rfl) dL_law_848 (by rw [← h1]; exact bsX7_gap _ (sc (x3 + (1 : Int32)).toNatClampNeg) μ) ?_
  refine TL_aload_n 2 rfl rfl dL_law_851 ?_
  refine TL_aload_n 0 rfl rfl dL_law_852 ?_
  refine TL_iload_n 3 rfl rfl dL_law_853 ?_
  refine TL_iconst (1 : Int32) (by decide) dL_law_854 ?_
  refine TL_iadd dL_law_855 ?_
  refine TL_sld hv1 dL_law_856 ?_
  refine TL_call (v2 := some (.int r)) (c := 8) [.int (sc (x3 + (1 : Int32)).toNatClampNeg)] [.int r] mkX8_gap lmL_115 kd_81 rfl rfl (by decide) (Nat.le_of_ble_eq_true rfl) dL_law_857 (by rw [← h2]; exact bsX8_gap _ (sc (x3 + (1 : Int32)).toNatClampNeg) μ1) ?_
  refine TL_eq (x := r) (st := []) 1391 dL_law_860 (by decide) ?_
  exact hk μ2 hI2
theorem lmL_116 : Cond.methodLink RL 116 yX7_legs ∈ gdL := gd_mem 701 (by decide +kernel) (by decide +kernel)
theorem lmL_119 : Cond.methodLink RL 119 yX8_legs ∈ gdL := gd_mem 1209 (by decide +kernel) (by decide +kernel)
set_option maxRecDepth 100000 in
theorem lc_25 {X : mCx} {b L : Nat} {sc : Nat → Int32} {μ : mMem} {x3 : Int32} (hv1 : vp_in (x3 + 1) L) (hv2 : vp_in (x3 + 2) L) (hv3 : vp_in (x3 + 3) L) (hv4 : vp_in (x3 + 4) L) {Inv : mMem → Prop} (hp : (∀ (u0 : Int32), okI Inv (fX7_legs u0) (fX8_legs u0))) (hI : Inv μ) (hk : ∀ μ', Inv μ' → TL X b L sc 1391 [(0, .ref 118), (1, .ref 48), (2, .ref 81), (3, .int x3)] [] μ') : TL X b L sc 865 [(0, .ref 118), (1, .ref 48), (2, .ref 81), (3, .int x3)] [] μ := by
  obtain ⟨r, μ1, μ2, h1, h2, hI2⟩ := hp ((sc (x3 + (1 : Int32)).toNatClampNeg)) μ hI
  refine TL_aload_n 1 rfl rfl dL_law_865 ?_
  refine TL_aload_n 0 rfl rfl dL_law_866 ?_
  refine TL_iload_n 3 rfl rfl dL_law_867 ?_
  refine TL_iconst (1 : Int32) (by decide) dL_law_868 ?_
  refine TL_iadd dL_law_869 ?_
  refine TL_sld hv1 dL_law_870 ?_
  refine TL_call (v2 := some (.int r)) (c := 7) [.int (sc (x3 + (1 : Int32)).toNatClampNeg)] [] mkX7_legs lmL_116 kd_48 rfl rfl (by decide) (Nat.le_of_ble_eq_true rfl) dL_law_871 (by rw [← h1]; exact bsX7_legs _ (sc (x3 + (1 : Int32)).toNatClampNeg) μ) ?_
  refine TL_aload_n 2 rfl rfl dL_law_874 ?_
  refine TL_aload_n 0 rfl rfl dL_law_875 ?_
  refine TL_iload_n 3 rfl rfl dL_law_876 ?_
  refine TL_iconst (1 : Int32) (by decide) dL_law_877 ?_
  refine TL_iadd dL_law_878 ?_
  refine TL_sld hv1 dL_law_879 ?_
  refine TL_call (v2 := some (.int r)) (c := 8) [.int (sc (x3 + (1 : Int32)).toNatClampNeg)] [.int r] mkX8_legs lmL_119 kd_81 rfl rfl (by decide) (Nat.le_of_ble_eq_true rfl) dL_law_880 (by rw [← h2]; exact bsX8_legs _ (sc (x3 + (1 : Int32)).toNatClampNeg) μ1) ?_
  refine TL_eq (x := r) (st := []) 1391 dL_law_883 (by decide) ?_
  exact hk μ2 hI2
theorem lmL_120 : Cond.methodLink RL 120 yX7_hold ∈ gdL := gd_mem 705 (by decide +kernel) (by decide +kernel)
theorem lmL_123 : Cond.methodLink RL 123 yX8_hold ∈ gdL := gd_mem 1213 (by decide +kernel) (by decide +kernel)
set_option maxRecDepth 100000 in
theorem lc_26 {X : mCx} {b L : Nat} {sc : Nat → Int32} {μ : mMem} {x3 : Int32} (hv1 : vp_in (x3 + 1) L) (hv2 : vp_in (x3 + 2) L) (hv3 : vp_in (x3 + 3) L) (hv4 : vp_in (x3 + 4) L) {Inv : mMem → Prop} (hp : (∀ (u0 : Int32), okI Inv (fX7_hold u0) (fX8_hold u0))) (hI : Inv μ) (hk : ∀ μ', Inv μ' → TL X b L sc 1391 [(0, .ref 118), (1, .ref 48), (2, .ref 81), (3, .int x3)] [] μ') : TL X b L sc 888 [(0, .ref 118), (1, .ref 48), (2, .ref 81), (3, .int x3)] [] μ := by
  obtain ⟨r, μ1, μ2, h1, h2, hI2⟩ := hp ((sc (x3 + (1 : Int32)).toNatClampNeg)) μ hI
  refine TL_aload_n 1 rfl rfl dL_law_888 ?_
  refine TL_aload_n 0 rfl rfl dL_law_889 ?_
  refine TL_iload_n 3 rfl rfl dL_law_890 ?_
  refine TL_iconst (1 : Int32) (by decide) dL_law_891 ?_
  refine TL_iadd dL_law_892 ?_
  refine TL_sld hv1 dL_law_893 ?_
  refine TL_call (v2 := some (.int r)) (c := 7) [.int (sc (x3 + (1 : Int32)).toNatClampNeg)] [] mkX7_hold lmL_120 kd_48 rfl rfl (by decide) (Nat.le_of_ble_eq_true rfl) dL_law_894 (by rw [← h1]; exact bsX7_hold _ (sc (x3 + (1 : Int32)).toNatClampNeg) μ) ?_
  refine TL_aload_n 2 rfl rfl dL_law_897 ?_
  refine TL_aload_n 0 rfl rfl dL_law_898 ?_
  refine TL_iload_n 3 rfl rfl dL_law_899 ?_
  refine TL_iconst (1 : Int32) (by decide) dL_law_900 ?_
  refine TL_iadd dL_law_901 ?_
  refine TL_sld hv1 dL_law_902 ?_
  refine TL_call (v2 := some (.int r)) (c := 8) [.int (sc (x3 + (1 : Int32)).toNatClampNeg)] [.int r] mkX8_hold lmL_123 kd_81 rfl rfl (by decide) (Nat.le_of_ble_eq_true rfl) dL_law_903 (by rw [← h2]; exact bsX8_hold _ (sc (x3 + (1 : Int32)).toNatClampNeg) μ1) ?_
  refine TL_eq (x := r) (st := []) 1391 dL_law_906 (by decide) ?_
  exact hk μ2 hI2
theorem lmL_124 : Cond.methodLink RL 124 yX7_best ∈ gdL := gd_mem 713 (by decide +kernel) (by decide +kernel)
theorem lmL_127 : Cond.methodLink RL 127 yX8_best ∈ gdL := gd_mem 1217 (by decide +kernel) (by decide +kernel)
set_option maxRecDepth 100000 in
theorem lc_27 {X : mCx} {b L : Nat} {sc : Nat → Int32} {μ : mMem} {x3 : Int32} (hv1 : vp_in (x3 + 1) L) (hv2 : vp_in (x3 + 2) L) (hv3 : vp_in (x3 + 3) L) (hv4 : vp_in (x3 + 4) L) {Inv : mMem → Prop} (hp : (∀ (u0 : Int32), okI Inv (fX7_best u0) (fX8_best u0))) (hI : Inv μ) (hk : ∀ μ', Inv μ' → TL X b L sc 1391 [(0, .ref 118), (1, .ref 48), (2, .ref 81), (3, .int x3)] [] μ') : TL X b L sc 911 [(0, .ref 118), (1, .ref 48), (2, .ref 81), (3, .int x3)] [] μ := by
  obtain ⟨r, μ1, μ2, h1, h2, hI2⟩ := hp ((sc (x3 + (1 : Int32)).toNatClampNeg)) μ hI
  refine TL_aload_n 1 rfl rfl dL_law_911 ?_
  refine TL_aload_n 0 rfl rfl dL_law_912 ?_
  refine TL_iload_n 3 rfl rfl dL_law_913 ?_
  refine TL_iconst (1 : Int32) (by decide) dL_law_914 ?_
  refine TL_iadd dL_law_915 ?_
  refine TL_sld hv1 dL_law_916 ?_
  refine TL_call (v2 := some (.int r)) (c := 7) [.int (sc (x3 + (1 : Int32)).toNatClampNeg)] [] mkX7_best lmL_124 kd_48 rfl rfl (by decide) (Nat.le_of_ble_eq_true rfl) dL_law_917 (by rw [← h1]; exact bsX7_best _ (sc (x3 + (1 : Int32)).toNatClampNeg) μ) ?_
  refine TL_aload_n 2 rfl rfl dL_law_920 ?_
  refine TL_aload_n 0 rfl rfl dL_law_921 ?_
  refine TL_iload_n 3 rfl rfl dL_law_922 ?_
  refine TL_iconst (1 : Int32) (by decide) dL_law_923 ?_
  refine TL_iadd dL_law_924 ?_
  refine TL_sld hv1 dL_law_925 ?_
  refine TL_call (v2 := some (.int r)) (c := 8) [.int (sc (x3 + (1 : Int32)).toNatClampNeg)] [.int r] mkX8_best lmL_127 kd_81 rfl rfl (by decide) (Nat.le_of_ble_eq_true rfl) dL_law_926 (by rw [← h2]; exact bsX8_best _ (sc (x3 + (1 : Int32)).toNatClampNeg) μ1) ?_
  refine TL_eq (x := r) (st := []) 1391 dL_law_929 (by decide) ?_
  exact hk μ2 hI2
theorem lmL_128 : Cond.methodLink RL 128 yX7_lodge ∈ gdL := gd_mem 717 (by decide +kernel) (by decide +kernel)
theorem lmL_131 : Cond.methodLink RL 131 yX8_lodge ∈ gdL := gd_mem 1224 (by decide +kernel) (by decide +kernel)
set_option maxRecDepth 100000 in
theorem lc_28 {X : mCx} {b L : Nat} {sc : Nat → Int32} {μ : mMem} {x3 : Int32} (hv1 : vp_in (x3 + 1) L) (hv2 : vp_in (x3 + 2) L) (hv3 : vp_in (x3 + 3) L) (hv4 : vp_in (x3 + 4) L) {Inv : mMem → Prop} (hp : (∀ (u0 : Int32), okI Inv (fX7_lodge u0) (fX8_lodge u0))) (hI : Inv μ) (hk : ∀ μ', Inv μ' → TL X b L sc 1391 [(0, .ref 118), (1, .ref 48), (2, .ref 81), (3, .int x3)] [] μ') : TL X b L sc 934 [(0, .ref 118), (1, .ref 48), (2, .ref 81), (3, .int x3)] [] μ := by
  obtain ⟨r, μ1, μ2, h1, h2, hI2⟩ := hp ((sc (x3 + (1 : Int32)).toNatClampNeg)) μ hI
  refine TL_aload_n 1 rfl rfl dL_law_934 ?_
  refine TL_aload_n 0 rfl rfl dL_law_935 ?_
  refine TL_iload_n 3 rfl rfl dL_law_936 ?_
  refine TL_iconst (1 : Int32) (by decide) dL_law_937 ?_
  refine TL_iadd dL_law_938 ?_
  refine TL_sld hv1 dL_law_939 ?_
  refine TL_call (v2 := some (.int r)) (c := 7) [.int (sc (x3 + (1 : Int32)).toNatClampNeg)] [] mkX7_lodge lmL_128 kd_48 rfl rfl (by decide) (Nat.le_of_ble_eq_true rfl) dL_law_940 (by rw [← h1]; exact bsX7_lodge _ (sc (x3 + (1 : Int32)).toNatClampNeg) μ) ?_
  refine TL_aload_n 2 rfl rfl dL_law_943 ?_
  refine TL_aload_n 0 rfl rfl dL_law_944 ?_
  refine TL_iload_n 3 rfl rfl dL_law_945 ?_
  refine TL_iconst (1 : Int32) (by decide) dL_law_946 ?_
  refine TL_iadd dL_law_947 ?_
  refine TL_sld hv1 dL_law_948 ?_
  refine TL_call (v2 := some (.int r)) (c := 8) [.int (sc (x3 + (1 : Int32)).toNatClampNeg)] [.int r] mkX8_lodge lmL_131 kd_81 rfl rfl (by decide) (Nat.le_of_ble_eq_true rfl) dL_law_949 (by rw [← h2]; exact bsX8_lodge _ (sc (x3 + (1 : Int32)).toNatClampNeg) μ1) ?_
  refine TL_eq (x := r) (st := []) 1391 dL_law_952 (by decide) ?_
  exact hk μ2 hI2
theorem lmL_132 : Cond.methodLink RL 132 yX7_odds ∈ gdL := gd_mem 734 (by decide +kernel) (by decide +kernel)
theorem lmL_136 : Cond.methodLink RL 136 yX8_odds ∈ gdL := gd_mem 1232 (by decide +kernel) (by decide +kernel)
set_option maxRecDepth 100000 in
theorem lc_29 {X : mCx} {b L : Nat} {sc : Nat → Int32} {μ : mMem} {x3 : Int32} (hv1 : vp_in (x3 + 1) L) (hv2 : vp_in (x3 + 2) L) (hv3 : vp_in (x3 + 3) L) (hv4 : vp_in (x3 + 4) L) {Inv : mMem → Prop} (hp : (∀ (u0 : Int32) (u1 : Int32) (u2 : Int32), okL Inv (fX7_odds u0 u1 u2) (fX8_odds u0 u1 u2))) (hI : Inv μ) (hk : ∀ μ', Inv μ' → TL X b L sc 1391 [(0, .ref 118), (1, .ref 48), (2, .ref 81), (3, .int x3)] [] μ') : TL X b L sc 957 [(0, .ref 118), (1, .ref 48), (2, .ref 81), (3, .int x3)] [] μ := by
  obtain ⟨r, μ1, μ2, h1, h2, hI2⟩ := hp ((sc (x3 + (1 : Int32)).toNatClampNeg)) ((sc (x3 + (2 : Int32)).toNatClampNeg)) ((sc (x3 + (3 : Int32)).toNatClampNeg)) μ hI
  refine TL_aload_n 1 rfl rfl dL_law_957 ?_
  refine TL_aload_n 0 rfl rfl dL_law_958 ?_
  refine TL_iload_n 3 rfl rfl dL_law_959 ?_
  refine TL_iconst (1 : Int32) (by decide) dL_law_960 ?_
  refine TL_iadd dL_law_961 ?_
  refine TL_sld hv1 dL_law_962 ?_
  refine TL_aload_n 0 rfl rfl dL_law_963 ?_
  refine TL_iload_n 3 rfl rfl dL_law_964 ?_
  refine TL_iconst (2 : Int32) (by decide) dL_law_965 ?_
  refine TL_iadd dL_law_966 ?_
  refine TL_sld hv2 dL_law_967 ?_
  refine TL_aload_n 0 rfl rfl dL_law_968 ?_
  refine TL_iload_n 3 rfl rfl dL_law_969 ?_
  refine TL_iconst (3 : Int32) (by decide) dL_law_970 ?_
  refine TL_iadd dL_law_971 ?_
  refine TL_sld hv3 dL_law_972 ?_
  refine TL_call (v2 := some (.long r)) (c := 7) [.int (sc (x3 + (1 : Int32)).toNatClampNeg), .int (sc (x3 + (2 : Int32)).toNatClampNeg), .int (sc (x3 + (3 : Int32)).toNatClampNeg)] [] mkX7_odds lmL_132 kd_48 rfl rfl (by decide) (Nat.le_of_ble_eq_true rfl) dL_law_973 (by rw [← h1]; exact bsX7_odds _ (sc (x3 + (1 : Int32)).toNatClampNeg) (sc (x3 + (2 : Int32)).toNatClampNeg) (sc (x3 + (3 : Int32)).toNatClampNeg) μ) ?_
  refine TL_aload_n 2 rfl rfl dL_law_976 ?_
  refine TL_aload_n 0 rfl rfl dL_law_977 ?_
  refine TL_iload_n 3 rfl rfl dL_law_978 ?_
  refine TL_iconst (1 : Int32) (by decide) dL_law_979 ?_
  refine TL_iadd dL_law_980 ?_
  refine TL_sld hv1 dL_law_981 ?_
  refine TL_aload_n 0 rfl rfl dL_law_982 ?_
  refine TL_iload_n 3 rfl rfl dL_law_983 ?_
  refine TL_iconst (2 : Int32) (by decide) dL_law_984 ?_
  refine TL_iadd dL_law_985 ?_
  refine TL_sld hv2 dL_law_986 ?_
  refine TL_aload_n 0 rfl rfl dL_law_987 ?_
  refine TL_iload_n 3 rfl rfl dL_law_988 ?_
  refine TL_iconst (3 : Int32) (by decide) dL_law_989 ?_
  refine TL_iadd dL_law_990 ?_
  refine TL_sld hv3 dL_law_991 ?_
  refine TL_call (v2 := some (.long r)) (c := 8) [.int (sc (x3 + (1 : Int32)).toNatClampNeg), .int (sc (x3 + (2 : Int32)).toNatClampNeg), .int (sc (x3 + (3 : Int32)).toNatClampNeg)] [.long r] mkX8_odds lmL_136 kd_81 rfl rfl (by decide) (Nat.le_of_ble_eq_true rfl) dL_law_992 (by rw [← h2]; exact bsX8_odds _ (sc (x3 + (1 : Int32)).toNatClampNeg) (sc (x3 + (2 : Int32)).toNatClampNeg) (sc (x3 + (3 : Int32)).toNatClampNeg) μ1) ?_
  refine TL_lcmp (x := r) (y := r) (st := []) dL_law_995 ?_
  refine TL_eq0 (x := r) (st := []) 1391 dL_law_996 (by decide) ?_
  exact hk μ2 hI2
theorem lmL_137 : Cond.methodLink RL 137 yX7_mean ∈ gdL := gd_mem 758 (by decide +kernel) (by decide +kernel)
theorem lmL_141 : Cond.methodLink RL 141 yX8_mean ∈ gdL := gd_mem 1244 (by decide +kernel) (by decide +kernel)
set_option maxRecDepth 100000 in
theorem lc_30 {X : mCx} {b L : Nat} {sc : Nat → Int32} {μ : mMem} {x3 : Int32} (hv1 : vp_in (x3 + 1) L) (hv2 : vp_in (x3 + 2) L) (hv3 : vp_in (x3 + 3) L) (hv4 : vp_in (x3 + 4) L) {Inv : mMem → Prop} (hp : (∀ (u0 : Int32) (u1 : Int32), okL Inv (fX7_mean u0 u1) (fX8_mean u0 u1))) (hI : Inv μ) (hk : ∀ μ', Inv μ' → TL X b L sc 1391 [(0, .ref 118), (1, .ref 48), (2, .ref 81), (3, .int x3)] [] μ') : TL X b L sc 1001 [(0, .ref 118), (1, .ref 48), (2, .ref 81), (3, .int x3)] [] μ := by
  obtain ⟨r, μ1, μ2, h1, h2, hI2⟩ := hp ((sc (x3 + (1 : Int32)).toNatClampNeg)) ((sc (x3 + (2 : Int32)).toNatClampNeg)) μ hI
  refine TL_aload_n 1 rfl rfl dL_law_1001 ?_
  refine TL_aload_n 0 rfl rfl dL_law_1002 ?_
  refine TL_iload_n 3 rfl rfl dL_law_1003 ?_
  refine TL_iconst (1 : Int32) (by decide) dL_law_1004 ?_
  refine TL_iadd dL_law_1005 ?_
  refine TL_sld hv1 dL_law_1006 ?_
  refine TL_aload_n 0 rfl rfl dL_law_1007 ?_
  refine TL_iload_n 3 rfl rfl dL_law_1008 ?_
  refine TL_iconst (2 : Int32) (by decide) dL_law_1009 ?_
  refine TL_iadd dL_law_1010 ?_
  refine TL_sld hv2 dL_law_1011 ?_
  refine TL_call (v2 := some (.long r)) (c := 7) [.int (sc (x3 + (1 : Int32)).toNatClampNeg), .int (sc (x3 + (2 : Int32)).toNatClampNeg)] [] mkX7_mean lmL_137 kd_48 rfl rfl (by decide) (Nat.le_of_ble_eq_true rfl) dL_law_1012 (by rw [← h1]; exact bsX7_mean _ (sc (x3 + (1 : Int32)).toNatClampNeg) (sc (x3 + (2 : Int32)).toNatClampNeg) μ) ?_
  refine TL_aload_n 2 rfl rfl dL_law_1015 ?_
  refine TL_aload_n 0 rfl rfl dL_law_1016 ?_
  refine TL_iload_n 3 rfl rfl dL_law_1017 ?_
  refine TL_iconst (1 : Int32) (by decide) dL_law_1018 ?_
  refine TL_iadd dL_law_1019 ?_
  refine TL_sld hv1 dL_law_1020 ?_
  refine TL_aload_n 0 rfl rfl dL_law_1021 ?_
  refine TL_iload_n 3 rfl rfl dL_law_1022 ?_
  refine TL_iconst (2 : Int32) (by decide) dL_law_1023 ?_
  refine TL_iadd dL_law_1024 ?_
  refine TL_sld hv2 dL_law_1025 ?_
  refine TL_call (v2 := some (.long r)) (c := 8) [.int (sc (x3 + (1 : Int32)).toNatClampNeg), .int (sc (x3 + (2 : Int32)).toNatClampNeg)] [.long r] mkX8_mean lmL_141 kd_81 rfl rfl (by decide) (Nat.le_of_ble_eq_true rfl) dL_law_1026 (by rw [← h2]; exact bsX8_mean _ (sc (x3 + (1 : Int32)).toNatClampNeg) (sc (x3 + (2 : Int32)).toNatClampNeg) μ1) ?_
  refine TL_lcmp (x := r) (y := r) (st := []) dL_law_1029 ?_
  refine TL_eq0 (x := r) (st := []) 1391 dL_law_1030 (by decide) ?_
  exact hk μ2 hI2
theorem lmL_142 : Cond.methodLink RL 142 yX7_see ∈ gdL := gd_mem 762 (by decide +kernel) (by decide +kernel)
theorem lmL_145 : Cond.methodLink RL 145 yX8_see ∈ gdL := gd_mem 1248 (by decide +kernel) (by decide +kernel)
set_option maxRecDepth 100000 in
theorem lc_31 {X : mCx} {b L : Nat} {sc : Nat → Int32} {μ : mMem} {x3 : Int32} (hv1 : vp_in (x3 + 1) L) (hv2 : vp_in (x3 + 2) L) (hv3 : vp_in (x3 + 3) L) (hv4 : vp_in (x3 + 4) L) {Inv : mMem → Prop} (hp : (∀ (u0 : Int32) (u1 : Int32), okI Inv (fX7_see u0 u1) (fX8_see u0 u1))) (hI : Inv μ) (hk : ∀ μ', Inv μ' → TL X b L sc 1391 [(0, .ref 118), (1, .ref 48), (2, .ref 81), (3, .int x3)] [] μ') : TL X b L sc 1035 [(0, .ref 118), (1, .ref 48), (2, .ref 81), (3, .int x3)] [] μ := by
  obtain ⟨r, μ1, μ2, h1, h2, hI2⟩ := hp ((sc (x3 + (1 : Int32)).toNatClampNeg)) ((sc (x3 + (2 : Int32)).toNatClampNeg)) μ hI
  refine TL_aload_n 1 rfl rfl dL_law_1035 ?_
  refine TL_aload_n 0 rfl rfl dL_law_1036 ?_
  refine TL_iload_n 3 rfl rfl dL_law_1037 ?_
  refine TL_iconst (1 : Int32) (by decide) dL_law_1038 ?_
  refine TL_iadd dL_law_1039 ?_
  refine TL_sld hv1 dL_law_1040 ?_
  refine TL_aload_n 0 rfl rfl dL_law_1041 ?_
  refine TL_iload_n 3 rfl rfl dL_law_1042 ?_
  refine TL_iconst (2 : Int32) (by decide) dL_law_1043 ?_
  refine TL_iadd dL_law_1044 ?_
  refine TL_sld hv2 dL_law_1045 ?_
  refine TL_call (v2 := some (.int r)) (c := 7) [.int (sc (x3 + (1 : Int32)).toNatClampNeg), .int (sc (x3 + (2 : Int32)).toNatClampNeg)] [] mkX7_see lmL_142 kd_48 rfl rfl (by decide) (Nat.le_of_ble_eq_true rfl) dL_law_1046 (by rw [← h1]; exact bsX7_see _ (sc (x3 + (1 : Int32)).toNatClampNeg) (sc (x3 + (2 : Int32)).toNatClampNeg) μ) ?_
  refine TL_aload_n 2 rfl rfl dL_law_1049 ?_
  refine TL_aload_n 0 rfl rfl dL_law_1050 ?_
  refine TL_iload_n 3 rfl rfl dL_law_1051 ?_
  refine TL_iconst (1 : Int32) (by decide) dL_law_1052 ?_
  refine TL_iadd dL_law_1053 ?_
  refine TL_sld hv1 dL_law_1054 ?_
  refine TL_aload_n 0 rfl rfl dL_law_1055 ?_
  refine TL_iload_n 3 rfl rfl dL_law_1056 ?_
  refine TL_iconst (2 : Int32) (by decide) dL_law_1057 ?_
  refine TL_iadd dL_law_1058 ?_
  refine TL_sld hv2 dL_law_1059 ?_
  refine TL_call (v2 := some (.int r)) (c := 8) [.int (sc (x3 + (1 : Int32)).toNatClampNeg), .int (sc (x3 + (2 : Int32)).toNatClampNeg)] [.int r] mkX8_see lmL_145 kd_81 rfl rfl (by decide) (Nat.le_of_ble_eq_true rfl) dL_law_1060 (by rw [← h2]; exact bsX8_see _ (sc (x3 + (1 : Int32)).toNatClampNeg) (sc (x3 + (2 : Int32)).toNatClampNeg) μ1) ?_
  refine TL_eq (x := r) (st := []) 1391 dL_law_1063 (by decide) ?_
  exact hk μ2 hI2
theorem lmL_146 : Cond.methodLink RL 146 yX7_forget ∈ gdL := gd_mem 770 (by decide +kernel) (by decide +kernel)
theorem lmL_149 : Cond.methodLink RL 149 yX8_forget ∈ gdL := gd_mem 1253 (by decide +kernel) (by decide +kernel)
set_option maxRecDepth 100000 in
theorem lc_32 {X : mCx} {b L : Nat} {sc : Nat → Int32} {μ : mMem} {x3 : Int32} (hv1 : vp_in (x3 + 1) L) (hv2 : vp_in (x3 + 2) L) (hv3 : vp_in (x3 + 3) L) (hv4 : vp_in (x3 + 4) L) {Inv : mMem → Prop} (hp : (∀ (u0 : Int32), okI Inv (fX7_forget u0) (fX8_forget u0))) (hI : Inv μ) (hk : ∀ μ', Inv μ' → TL X b L sc 1391 [(0, .ref 118), (1, .ref 48), (2, .ref 81), (3, .int x3)] [] μ') : TL X b L sc 1068 [(0, .ref 118), (1, .ref 48), (2, .ref 81), (3, .int x3)] [] μ := by
  obtain ⟨r, μ1, μ2, h1, h2, hI2⟩ := hp ((sc (x3 + (1 : Int32)).toNatClampNeg)) μ hI
  refine TL_aload_n 1 rfl rfl dL_law_1068 ?_
  refine TL_aload_n 0 rfl rfl dL_law_1069 ?_
  refine TL_iload_n 3 rfl rfl dL_law_1070 ?_
  refine TL_iconst (1 : Int32) (by decide) dL_law_1071 ?_
  refine TL_iadd dL_law_1072 ?_
  refine TL_sld hv1 dL_law_1073 ?_
  refine TL_call (v2 := some (.int r)) (c := 7) [.int (sc (x3 + (1 : Int32)).toNatClampNeg)] [] mkX7_forget lmL_146 kd_48 rfl rfl (by decide) (Nat.le_of_ble_eq_true rfl) dL_law_1074 (by rw [← h1]; exact bsX7_forget _ (sc (x3 + (1 : Int32)).toNatClampNeg) μ) ?_
  refine TL_aload_n 2 rfl rfl dL_law_1077 ?_
  refine TL_aload_n 0 rfl rfl dL_law_1078 ?_
  refine TL_iload_n 3 rfl rfl dL_law_1079 ?_
  refine TL_iconst (1 : Int32) (by decide) dL_law_1080 ?_
  refine TL_iadd dL_law_1081 ?_
  refine TL_sld hv1 dL_law_1082 ?_
  refine TL_call (v2 := some (.int r)) (c := 8) [.int (sc (x3 + (1 : Int32)).toNatClampNeg)] [.int r] mkX8_forget lmL_149 kd_81 rfl rfl (by decide) (Nat.le_of_ble_eq_true rfl) dL_law_1083 (by rw [← h2]; exact bsX8_forget _ (sc (x3 + (1 : Int32)).toNatClampNeg) μ1) ?_
  refine TL_eq (x := r) (st := []) 1391 dL_law_1086 (by decide) ?_
  exact hk μ2 hI2
theorem lmL_150 : Cond.methodLink RL 150 yX7_fits ∈ gdL := gd_mem 774 (by decide +kernel) (by decide +kernel)
theorem lmL_153 : Cond.methodLink RL 153 yX8_fits ∈ gdL := gd_mem 1257 (by decide +kernel) (by decide +kernel)
set_option maxRecDepth 100000 in
theorem lc_33 {X : mCx} {b L : Nat} {sc : Nat → Int32} {μ : mMem} {x3 : Int32} (hv1 : vp_in (x3 + 1) L) (hv2 : vp_in (x3 + 2) L) (hv3 : vp_in (x3 + 3) L) (hv4 : vp_in (x3 + 4) L) {Inv : mMem → Prop} (hp : (okI Inv (fX7_fits ) (fX8_fits ))) (hI : Inv μ) (hk : ∀ μ', Inv μ' → TL X b L sc 1391 [(0, .ref 118), (1, .ref 48), (2, .ref 81), (3, .int x3)] [] μ') : TL X b L sc 1091 [(0, .ref 118), (1, .ref 48), (2, .ref 81), (3, .int x3)] [] μ := by
  obtain ⟨r, μ1, μ2, h1, h2, hI2⟩ := hp  μ hI
  refine TL_aload_n 1 rfl rfl dL_law_1091 ?_
  refine TL_call (v2 := some (.int r)) (c := 7) [] [] mkX7_fits lmL_150 kd_48 rfl rfl (by decide) (Nat.le_of_ble_eq_true rfl) dL_law_1092 (by rw [← h1]; exact bsX7_fits _  μ) ?_
  refine TL_aload_n 2 rfl rfl dL_law_1095 ?_
  refine TL_call (v2 := some (.int r)) (c := 8) [] [.int r] mkX8_fits lmL_153 kd_81 rfl rfl (by decide) (Nat.le_of_ble_eq_true rfl) dL_law_1096 (by rw [← h2]; exact bsX8_fits _  μ1) ?_
  refine TL_eq (x := r) (st := []) 1391 dL_law_1099 (by decide) ?_
  exact hk μ2 hI2
theorem lmL_154 : Cond.methodLink RL 154 yX7_floors ∈ gdL := gd_mem 803 (by decide +kernel) (by decide +kernel)
theorem lmL_157 : Cond.methodLink RL 157 yX8_floors ∈ gdL := gd_mem 1273 (by decide +kernel) (by decide +kernel)
set_option maxRecDepth 100000 in
theorem lc_34 {X : mCx} {b L : Nat} {sc : Nat → Int32} {μ : mMem} {x3 : Int32} (hv1 : vp_in (x3 + 1) L) (hv2 : vp_in (x3 + 2) L) (hv3 : vp_in (x3 + 3) L) (hv4 : vp_in (x3 + 4) L) {Inv : mMem → Prop} (hp : (∀ (u0 : Int32), okI Inv (fX7_floors u0) (fX8_floors u0))) (hI : Inv μ) (hk : ∀ μ', Inv μ' → TL X b L sc 1391 [(0, .ref 118), (1, .ref 48), (2, .ref 81), (3, .int x3)] [] μ') : TL X b L sc 1104 [(0, .ref 118), (1, .ref 48), (2, .ref 81), (3, .int x3)] [] μ := by
  obtain ⟨r, μ1, μ2, h1, h2, hI2⟩ := hp ((sc (x3 + (1 : Int32)).toNatClampNeg)) μ hI
  refine TL_aload_n 1 rfl rfl dL_law_1104 ?_
  refine TL_aload_n 0 rfl rfl dL_law_1105 ?_
  refine TL_iload_n 3 rfl rfl dL_law_1106 ?_
  refine TL_iconst (1 : Int32) (by decide) dL_law_1107 ?_
  refine TL_iadd dL_law_1108 ?_
  refine TL_sld hv1 dL_law_1109 ?_
  refine TL_call (v2 := some (.int r)) (c := 7) [.int (sc (x3 + (1 : Int32)).toNatClampNeg)] [] mkX7_floors lmL_154 kd_48 rfl rfl (by decide) (Nat.le_of_ble_eq_true rfl) dL_law_1110 (by rw [← h1]; exact bsX7_floors _ (sc (x3 + (1 : Int32)).toNatClampNeg) μ) ?_
  refine TL_aload_n 2 rfl rfl dL_law_1113 ?_
  refine TL_aload_n 0 rfl rfl dL_law_1114 ?_
  refine TL_iload_n 3 rfl rfl dL_law_1115 ?_
  refine TL_iconst (1 : Int32) (by decide) dL_law_1116 ?_
  refine TL_iadd dL_law_1117 ?_
  refine TL_sld hv1 dL_law_1118 ?_
  refine TL_call (v2 := some (.int r)) (c := 8) [.int (sc (x3 + (1 : Int32)).toNatClampNeg)] [.int r] mkX8_floors lmL_157 kd_81 rfl rfl (by decide) (Nat.le_of_ble_eq_true rfl) dL_law_1119 (by rw [← h2]; exact bsX8_floors _ (sc (x3 + (1 : Int32)).toNatClampNeg) μ1) ?_
  refine TL_eq (x := r) (st := []) 1391 dL_law_1122 (by decide) ?_
  exact hk μ2 hI2
theorem lmL_158 : Cond.methodLink RL 158 yX7_drift ∈ gdL := gd_mem 807 (by decide +kernel) (by decide +kernel)
theorem lmL_162 : Cond.methodLink RL 162 yX8_drift ∈ gdL := gd_mem 1277 (by decide +kernel) (by decide +kernel)
set_option maxRecDepth 100000 in
theorem lc_35 {X : mCx} {b L : Nat} {sc : Nat → Int32} {μ : mMem} {x3 : Int32} (hv1 : vp_in (x3 + 1) L) (hv2 : vp_in (x3 + 2) L) (hv3 : vp_in (x3 + 3) L) (hv4 : vp_in (x3 + 4) L) {Inv : mMem → Prop} (hp : (∀ (u0 : Int32) (u1 : Int32) (u2 : Int32), okI Inv (fX7_drift u0 u1 u2) (fX8_drift u0 u1 u2))) (hI : Inv μ) (hk : ∀ μ', Inv μ' → TL X b L sc 1391 [(0, .ref 118), (1, .ref 48), (2, .ref 81), (3, .int x3)] [] μ') : TL X b L sc 1127 [(0, .ref 118), (1, .ref 48), (2, .ref 81), (3, .int x3)] [] μ := by
  obtain ⟨r, μ1, μ2, h1, h2, hI2⟩ := hp ((sc (x3 + (1 : Int32)).toNatClampNeg)) ((sc (x3 + (2 : Int32)).toNatClampNeg)) ((sc (x3 + (3 : Int32)).toNatClampNeg)) μ hI
  refine TL_aload_n 1 rfl rfl dL_law_1127 ?_
  refine TL_aload_n 0 rfl rfl dL_law_1128 ?_
  refine TL_iload_n 3 rfl rfl dL_law_1129 ?_
  refine TL_iconst (1 : Int32) (by decide) dL_law_1130 ?_
  refine TL_iadd dL_law_1131 ?_
  refine TL_sld hv1 dL_law_1132 ?_
  refine TL_aload_n 0 rfl rfl dL_law_1133 ?_
  refine TL_iload_n 3 rfl rfl dL_law_1134 ?_
  refine TL_iconst (2 : Int32) (by decide) dL_law_1135 ?_
  refine TL_iadd dL_law_1136 ?_
  refine TL_sld hv2 dL_law_1137 ?_
  refine TL_aload_n 0 rfl rfl dL_law_1138 ?_
  refine TL_iload_n 3 rfl rfl dL_law_1139 ?_
  refine TL_iconst (3 : Int32) (by decide) dL_law_1140 ?_
  refine TL_iadd dL_law_1141 ?_
  refine TL_sld hv3 dL_law_1142 ?_
  refine TL_call (v2 := some (.int r)) (c := 7) [.int (sc (x3 + (1 : Int32)).toNatClampNeg), .int (sc (x3 + (2 : Int32)).toNatClampNeg), .int (sc (x3 + (3 : Int32)).toNatClampNeg)] [] mkX7_drift lmL_158 kd_48 rfl rfl (by decide) (Nat.le_of_ble_eq_true rfl) dL_law_1143 (by rw [← h1]; exact bsX7_drift _ (sc (x3 + (1 : Int32)).toNatClampNeg) (sc (x3 + (2 : Int32)).toNatClampNeg) (sc (x3 + (3 : Int32)).toNatClampNeg) μ) ?_
  refine TL_aload_n 2 rfl rfl dL_law_1146 ?_
  refine TL_aload_n 0 rfl rfl dL_law_1147 ?_
  refine TL_iload_n 3 rfl rfl dL_law_1148 ?_
  refine TL_iconst (1 : Int32) (by decide) dL_law_1149 ?_
  refine TL_iadd dL_law_1150 ?_
  refine TL_sld hv1 dL_law_1151 ?_
  refine TL_aload_n 0 rfl rfl dL_law_1152 ?_
  refine TL_iload_n 3 rfl rfl dL_law_1153 ?_
  refine TL_iconst (2 : Int32) (by decide) dL_law_1154 ?_
  refine TL_iadd dL_law_1155 ?_
  refine TL_sld hv2 dL_law_1156 ?_
  refine TL_aload_n 0 rfl rfl dL_law_1157 ?_
  refine TL_iload_n 3 rfl rfl dL_law_1158 ?_
  refine TL_iconst (3 : Int32) (by decide) dL_law_1159 ?_
  refine TL_iadd dL_law_1160 ?_
  refine TL_sld hv3 dL_law_1161 ?_
  refine TL_call (v2 := some (.int r)) (c := 8) [.int (sc (x3 + (1 : Int32)).toNatClampNeg), .int (sc (x3 + (2 : Int32)).toNatClampNeg), .int (sc (x3 + (3 : Int32)).toNatClampNeg)] [.int r] mkX8_drift lmL_162 kd_81 rfl rfl (by decide) (Nat.le_of_ble_eq_true rfl) dL_law_1162 (by rw [← h2]; exact bsX8_drift _ (sc (x3 + (1 : Int32)).toNatClampNeg) (sc (x3 + (2 : Int32)).toNatClampNeg) (sc (x3 + (3 : Int32)).toNatClampNeg) μ1) ?_
  refine TL_eq (x := r) (st := []) 1391 dL_law_1165 (by decide) ?_
  exact hk μ2 hI2
theorem lmL_163 : Cond.methodLink RL 163 yX7_keep ∈ gdL := gd_mem 813 (by decide +kernel) (by decide +kernel)
theorem lmL_166 : Cond.methodLink RL 166 yX8_keep ∈ gdL := gd_mem 1282 (by decide +kernel) (by decide +kernel)
set_option maxRecDepth 100000 in
theorem lc_36 {X : mCx} {b L : Nat} {sc : Nat → Int32} {μ : mMem} {x3 : Int32} (hv1 : vp_in (x3 + 1) L) (hv2 : vp_in (x3 + 2) L) (hv3 : vp_in (x3 + 3) L) (hv4 : vp_in (x3 + 4) L) {Inv : mMem → Prop} (hp : (∀ (u0 : Int32), okI Inv (fX7_keep u0) (fX8_keep u0))) (hI : Inv μ) (hk : ∀ μ', Inv μ' → TL X b L sc 1391 [(0, .ref 118), (1, .ref 48), (2, .ref 81), (3, .int x3)] [] μ') : TL X b L sc 1170 [(0, .ref 118), (1, .ref 48), (2, .ref 81), (3, .int x3)] [] μ := by
  obtain ⟨r, μ1, μ2, h1, h2, hI2⟩ := hp ((sc (x3 + (1 : Int32)).toNatClampNeg)) μ hI
  refine TL_aload_n 1 rfl rfl dL_law_1170 ?_
  refine TL_aload_n 0 rfl rfl dL_law_1171 ?_
  refine TL_iload_n 3 rfl rfl dL_law_1172 ?_
  refine TL_iconst (1 : Int32) (by decide) dL_law_1173 ?_
  refine TL_iadd dL_law_1174 ?_
  refine TL_sld hv1 dL_law_1175 ?_
  refine TL_call (v2 := some (.int r)) (c := 7) [.int (sc (x3 + (1 : Int32)).toNatClampNeg)] [] mkX7_keep lmL_163 kd_48 rfl rfl (by decide) (Nat.le_of_ble_eq_true rfl) dL_law_1176 (by rw [← h1]; exact bsX7_keep _ (sc (x3 + (1 : Int32)).toNatClampNeg) μ) ?_
  refine TL_aload_n 2 rfl rfl dL_law_1179 ?_
  refine TL_aload_n 0 rfl rfl dL_law_1180 ?_
  refine TL_iload_n 3 rfl rfl dL_law_1181 ?_
  refine TL_iconst (1 : Int32) (by decide) dL_law_1182 ?_
  refine TL_iadd dL_law_1183 ?_
  refine TL_sld hv1 dL_law_1184 ?_
  refine TL_call (v2 := some (.int r)) (c := 8) [.int (sc (x3 + (1 : Int32)).toNatClampNeg)] [.int r] mkX8_keep lmL_166 kd_81 rfl rfl (by decide) (Nat.le_of_ble_eq_true rfl) dL_law_1185 (by rw [← h2]; exact bsX8_keep _ (sc (x3 + (1 : Int32)).toNatClampNeg) μ1) ?_
  refine TL_eq (x := r) (st := []) 1391 dL_law_1188 (by decide) ?_
  exact hk μ2 hI2
theorem lmL_167 : Cond.methodLink RL 167 yX7_back ∈ gdL := gd_mem 817 (by decide +kernel) (by decide +kernel)
theorem lmL_170 : Cond.methodLink RL 170 yX8_back ∈ gdL := gd_mem 1286 (by decide +kernel) (by decide +kernel)
set_option maxRecDepth 100000 in
theorem lc_37 {X : mCx} {b L : Nat} {sc : Nat → Int32} {μ : mMem} {x3 : Int32} (hv1 : vp_in (x3 + 1) L) (hv2 : vp_in (x3 + 2) L) (hv3 : vp_in (x3 + 3) L) (hv4 : vp_in (x3 + 4) L) {Inv : mMem → Prop} (hp : (∀ (u0 : Int32), okI Inv (fX7_back u0) (fX8_back u0))) (hI : Inv μ) (hk : ∀ μ', Inv μ' → TL X b L sc 1391 [(0, .ref 118), (1, .ref 48), (2, .ref 81), (3, .int x3)] [] μ') : TL X b L sc 1193 [(0, .ref 118), (1, .ref 48), (2, .ref 81), (3, .int x3)] [] μ := by
  obtain ⟨r, μ1, μ2, h1, h2, hI2⟩ := hp ((sc (x3 + (1 : Int32)).toNatClampNeg)) μ hI
  refine TL_aload_n 1 rfl rfl dL_law_1193 ?_
  refine TL_aload_n 0 rfl rfl dL_law_1194 ?_
  refine TL_iload_n 3 rfl rfl dL_law_1195 ?_
  refine TL_iconst (1 : Int32) (by decide) dL_law_1196 ?_
  refine TL_iadd dL_law_1197 ?_
  refine TL_sld hv1 dL_law_1198 ?_
  refine TL_call (v2 := some (.int r)) (c := 7) [.int (sc (x3 + (1 : Int32)).toNatClampNeg)] [] mkX7_back lmL_167 kd_48 rfl rfl (by decide) (Nat.le_of_ble_eq_true rfl) dL_law_1199 (by rw [← h1]; exact bsX7_back _ (sc (x3 + (1 : Int32)).toNatClampNeg) μ) ?_
  refine TL_aload_n 2 rfl rfl dL_law_1202 ?_
  refine TL_aload_n 0 rfl rfl dL_law_1203 ?_
  refine TL_iload_n 3 rfl rfl dL_law_1204 ?_
  refine TL_iconst (1 : Int32) (by decide) dL_law_1205 ?_
  refine TL_iadd dL_law_1206 ?_
  refine TL_sld hv1 dL_law_1207 ?_
  refine TL_call (v2 := some (.int r)) (c := 8) [.int (sc (x3 + (1 : Int32)).toNatClampNeg)] [.int r] mkX8_back lmL_170 kd_81 rfl rfl (by decide) (Nat.le_of_ble_eq_true rfl) dL_law_1208 (by rw [← h2]; exact bsX8_back _ (sc (x3 + (1 : Int32)).toNatClampNeg) μ1) ?_
  refine TL_eq (x := r) (st := []) 1391 dL_law_1211 (by decide) ?_
  exact hk μ2 hI2
theorem lmL_171 : Cond.methodLink RL 171 yX7_sheet ∈ gdL := gd_mem 821 (by decide +kernel) (by decide +kernel)
theorem lmL_174 : Cond.methodLink RL 174 yX8_sheet ∈ gdL := gd_mem 1290 (by decide +kernel) (by decide +kernel)
set_option maxRecDepth 100000 in
theorem lc_38 {X : mCx} {b L : Nat} {sc : Nat → Int32} {μ : mMem} {x3 : Int32} (hv1 : vp_in (x3 + 1) L) (hv2 : vp_in (x3 + 2) L) (hv3 : vp_in (x3 + 3) L) (hv4 : vp_in (x3 + 4) L) {Inv : mMem → Prop} (hp : (∀ (u0 : Int32) (u1 : Int32) (u2 : Int32), okI Inv (fX7_sheet u0 u1 u2) (fX8_sheet u0 u1 u2))) (hI : Inv μ) (hk : ∀ μ', Inv μ' → TL X b L sc 1391 [(0, .ref 118), (1, .ref 48), (2, .ref 81), (3, .int x3)] [] μ') : TL X b L sc 1216 [(0, .ref 118), (1, .ref 48), (2, .ref 81), (3, .int x3)] [] μ := by
  obtain ⟨r, μ1, μ2, h1, h2, hI2⟩ := hp ((sc (x3 + (1 : Int32)).toNatClampNeg)) ((sc (x3 + (2 : Int32)).toNatClampNeg)) ((sc (x3 + (3 : Int32)).toNatClampNeg)) μ hI
  refine TL_aload_n 1 rfl rfl dL_law_1216 ?_
  refine TL_aload_n 0 rfl rfl dL_law_1217 ?_
  refine TL_iload_n 3 rfl rfl dL_law_1218 ?_
  refine TL_iconst (1 : Int32) (by decide) dL_law_1219 ?_
  refine TL_iadd dL_law_1220 ?_
  refine TL_sld hv1 dL_law_1221 ?_
  refine TL_aload_n 0 rfl rfl dL_law_1222 ?_
  refine TL_iload_n 3 rfl rfl dL_law_1223 ?_
  refine TL_iconst (2 : Int32) (by decide) dL_law_1224 ?_
  refine TL_iadd dL_law_1225 ?_
  refine TL_sld hv2 dL_law_1226 ?_
  refine TL_aload_n 0 rfl rfl dL_law_1227 ?_
  refine TL_iload_n 3 rfl rfl dL_law_1228 ?_
  refine TL_iconst (3 : Int32) (by decide) dL_law_1229 ?_
  refine TL_iadd dL_law_1230 ?_
  refine TL_sld hv3 dL_law_1231 ?_
  refine TL_call (v2 := some (.int r)) (c := 7) [.int (sc (x3 + (1 : Int32)).toNatClampNeg), .int (sc (x3 + (2 : Int32)).toNatClampNeg), .int (sc (x3 + (3 : Int32)).toNatClampNeg)] [] mkX7_sheet lmL_171 kd_48 rfl rfl (by decide) (Nat.le_of_ble_eq_true rfl) dL_law_1232 (by rw [← h1]; exact bsX7_sheet _ (sc (x3 + (1 : Int32)).toNatClampNeg) (sc (x3 + (2 : Int32)).toNatClampNeg) (sc (x3 + (3 : Int32)).toNatClampNeg) μ) ?_
  refine TL_aload_n 2 rfl rfl dL_law_1235 ?_
  refine TL_aload_n 0 rfl rfl dL_law_1236 ?_
  refine TL_iload_n 3 rfl rfl dL_law_1237 ?_
  refine TL_iconst (1 : Int32) (by decide) dL_law_1238 ?_
  refine TL_iadd dL_law_1239 ?_
  refine TL_sld hv1 dL_law_1240 ?_
  refine TL_aload_n 0 rfl rfl dL_law_1241 ?_
  refine TL_iload_n 3 rfl rfl dL_law_1242 ?_
  refine TL_iconst (2 : Int32) (by decide) dL_law_1243 ?_
  refine TL_iadd dL_law_1244 ?_
  refine TL_sld hv2 dL_law_1245 ?_
  refine TL_aload_n 0 rfl rfl dL_law_1246 ?_
  refine TL_iload_n 3 rfl rfl dL_law_1247 ?_
  refine TL_iconst (3 : Int32) (by decide) dL_law_1248 ?_
  refine TL_iadd dL_law_1249 ?_
  refine TL_sld hv3 dL_law_1250 ?_
  refine TL_call (v2 := some (.int r)) (c := 8) [.int (sc (x3 + (1 : Int32)).toNatClampNeg), .int (sc (x3 + (2 : Int32)).toNatClampNeg), .int (sc (x3 + (3 : Int32)).toNatClampNeg)] [.int r] mkX8_sheet lmL_174 kd_81 rfl rfl (by decide) (Nat.le_of_ble_eq_true rfl) dL_law_1251 (by rw [← h2]; exact bsX8_sheet _ (sc (x3 + (1 : Int32)).toNatClampNeg) (sc (x3 + (2 : Int32)).toNatClampNeg) (sc (x3 + (3 : Int32)).toNatClampNeg) μ1) ?_
  refine TL_eq (x := r) (st := []) 1391 dL_law_1254 (by decide) ?_
  exact hk μ2 hI2
theorem lmL_175 : Cond.methodLink RL 175 yX7_lay ∈ gdL := gd_mem 836 (by decide +kernel) (by decide +kernel)
theorem lmL_178 : Cond.methodLink RL 178 yX8_lay ∈ gdL := gd_mem 1295 (by decide +kernel) (by decide +kernel)
set_option maxRecDepth 100000 in
theorem lc_39 {X : mCx} {b L : Nat} {sc : Nat → Int32} {μ : mMem} {x3 : Int32} (hv1 : vp_in (x3 + 1) L) (hv2 : vp_in (x3 + 2) L) (hv3 : vp_in (x3 + 3) L) (hv4 : vp_in (x3 + 4) L) {Inv : mMem → Prop} (hp : (∀ (u0 : Int32) (u1 : Int32) (u2 : Int32), okI Inv (fX7_lay u0 u1 u2) (fX8_lay u0 u1 u2))) (hI : Inv μ) (hk : ∀ μ', Inv μ' → TL X b L sc 1391 [(0, .ref 118), (1, .ref 48), (2, .ref 81), (3, .int x3)] [] μ') : TL X b L sc 1259 [(0, .ref 118), (1, .ref 48), (2, .ref 81), (3, .int x3)] [] μ := by
  obtain ⟨r, μ1, μ2, h1, h2, hI2⟩ := hp ((sc (x3 + (1 : Int32)).toNatClampNeg)) ((sc (x3 + (2 : Int32)).toNatClampNeg)) ((sc (x3 + (3 : Int32)).toNatClampNeg)) μ hI
  refine TL_aload_n 1 rfl rfl dL_law_1259 ?_
  refine TL_aload_n 0 rfl rfl dL_law_1260 ?_
  refine TL_iload_n 3 rfl rfl dL_law_1261 ?_
  refine TL_iconst (1 : Int32) (by decide) dL_law_1262 ?_
  refine TL_iadd dL_law_1263 ?_
  refine TL_sld hv1 dL_law_1264 ?_
  refine TL_aload_n 0 rfl rfl dL_law_1265 ?_
  refine TL_iload_n 3 rfl rfl dL_law_1266 ?_
  refine TL_iconst (2 : Int32) (by decide) dL_law_1267 ?_
  refine TL_iadd dL_law_1268 ?_
  refine TL_sld hv2 dL_law_1269 ?_
  refine TL_aload_n 0 rfl rfl dL_law_1270 ?_
  refine TL_iload_n 3 rfl rfl dL_law_1271 ?_
  refine TL_iconst (3 : Int32) (by decide) dL_law_1272 ?_
  refine TL_iadd dL_law_1273 ?_
  refine TL_sld hv3 dL_law_1274 ?_
  refine TL_call (v2 := some (.int r)) (c := 7) [.int (sc (x3 + (1 : Int32)).toNatClampNeg), .int (sc (x3 + (2 : Int32)).toNatClampNeg), .int (sc (x3 + (3 : Int32)).toNatClampNeg)] [] mkX7_lay lmL_175 kd_48 rfl rfl (by decide) (Nat.le_of_ble_eq_true rfl) dL_law_1275 (by rw [← h1]; exact bsX7_lay _ (sc (x3 + (1 : Int32)).toNatClampNeg) (sc (x3 + (2 : Int32)).toNatClampNeg) (sc (x3 + (3 : Int32)).toNatClampNeg) μ) ?_
  refine TL_aload_n 2 rfl rfl dL_law_1278 ?_
  refine TL_aload_n 0 rfl rfl dL_law_1279 ?_
  refine TL_iload_n 3 rfl rfl dL_law_1280 ?_
  refine TL_iconst (1 : Int32) (by decide) dL_law_1281 ?_
  refine TL_iadd dL_law_1282 ?_
  refine TL_sld hv1 dL_law_1283 ?_
  refine TL_aload_n 0 rfl rfl dL_law_1284 ?_
  refine TL_iload_n 3 rfl rfl dL_law_1285 ?_
  refine TL_iconst (2 : Int32) (by decide) dL_law_1286 ?_
  refine TL_iadd dL_law_1287 ?_
  refine TL_sld hv2 dL_law_1288 ?_
  refine TL_aload_n 0 rfl rfl dL_law_1289 ?_
  refine TL_iload_n 3 rfl rfl dL_law_1290 ?_
  refine TL_iconst (3 : Int32) (by decide) dL_law_1291 ?_
  refine TL_iadd dL_law_1292 ?_
  refine TL_sld hv3 dL_law_1293 ?_
  refine TL_call (v2 := some (.int r)) (c := 8) [.int (sc (x3 + (1 : Int32)).toNatClampNeg), .int (sc (x3 + (2 : Int32)).toNatClampNeg), .int (sc (x3 + (3 : Int32)).toNatClampNeg)] [.int r] mkX8_lay lmL_178 kd_81 rfl rfl (by decide) (Nat.le_of_ble_eq_true rfl) dL_law_1294 (by rw [← h2]; exact bsX8_lay _ (sc (x3 + (1 : Int32)).toNatClampNeg) (sc (x3 + (2 : Int32)).toNatClampNeg) (sc (x3 + (3 : Int32)).toNatClampNeg) μ1) ?_
  refine TL_eq (x := r) (st := []) 1391 dL_law_1297 (by decide) ?_
  exact hk μ2 hI2
theorem lmL_179 : Cond.methodLink RL 179 yX7_read ∈ gdL := gd_mem 852 (by decide +kernel) (by decide +kernel)
theorem lmL_183 : Cond.methodLink RL 183 yX8_read ∈ gdL := gd_mem 1299 (by decide +kernel) (by decide +kernel)
set_option maxRecDepth 100000 in
theorem lc_40 {X : mCx} {b L : Nat} {sc : Nat → Int32} {μ : mMem} {x3 : Int32} (hv1 : vp_in (x3 + 1) L) (hv2 : vp_in (x3 + 2) L) (hv3 : vp_in (x3 + 3) L) (hv4 : vp_in (x3 + 4) L) {Inv : mMem → Prop} (hp : (∀ (u0 : Int32) (u1 : Int32) (u2 : Int32) (u3 : Int32), okI Inv (fX7_read u0 u1 u2 u3) (fX8_read u0 u1 u2 u3))) (hI : Inv μ) (hk : ∀ μ', Inv μ' → TL X b L sc 1391 [(0, .ref 118), (1, .ref 48), (2, .ref 81), (3, .int x3)] [] μ') : TL X b L sc 1302 [(0, .ref 118), (1, .ref 48), (2, .ref 81), (3, .int x3)] [] μ := by
  obtain ⟨r, μ1, μ2, h1, h2, hI2⟩ := hp ((sc (x3 + (1 : Int32)).toNatClampNeg)) ((sc (x3 + (2 : Int32)).toNatClampNeg)) ((sc (x3 + (3 : Int32)).toNatClampNeg)) ((sc (x3 + (4 : Int32)).toNatClampNeg)) μ hI
  refine TL_aload_n 1 rfl rfl dL_law_1302 ?_
  refine TL_aload_n 0 rfl rfl dL_law_1303 ?_
  refine TL_iload_n 3 rfl rfl dL_law_1304 ?_
  refine TL_iconst (1 : Int32) (by decide) dL_law_1305 ?_
  refine TL_iadd dL_law_1306 ?_
  refine TL_sld hv1 dL_law_1307 ?_
  refine TL_aload_n 0 rfl rfl dL_law_1308 ?_
  refine TL_iload_n 3 rfl rfl dL_law_1309 ?_
  refine TL_iconst (2 : Int32) (by decide) dL_law_1310 ?_
  refine TL_iadd dL_law_1311 ?_
  refine TL_sld hv2 dL_law_1312 ?_
  refine TL_aload_n 0 rfl rfl dL_law_1313 ?_
  refine TL_iload_n 3 rfl rfl dL_law_1314 ?_
  refine TL_iconst (3 : Int32) (by decide) dL_law_1315 ?_
  refine TL_iadd dL_law_1316 ?_
  refine TL_sld hv3 dL_law_1317 ?_
  refine TL_aload_n 0 rfl rfl dL_law_1318 ?_
  refine TL_iload_n 3 rfl rfl dL_law_1319 ?_
  refine TL_iconst (4 : Int32) (by decide) dL_law_1320 ?_
  refine TL_iadd dL_law_1321 ?_
  refine TL_sld hv4 dL_law_1322 ?_
  refine TL_call (v2 := some (.int r)) (c := 7) [.int (sc (x3 + (1 : Int32)).toNatClampNeg), .int (sc (x3 + (2 : Int32)).toNatClampNeg), .int (sc (x3 + (3 : Int32)).toNatClampNeg), .int (sc (x3 + (4 : Int32)).toNatClampNeg)] [] mkX7_read lmL_179 kd_48 rfl rfl (by decide) (Nat.le_of_ble_eq_true rfl) dL_law_1323 (by rw [← h1]; exact bsX7_read _ (sc (x3 + (1 : Int32)).toNatClampNeg) (sc (x3 + (2 : Int32)).toNatClampNeg) (sc (x3 + (3 : Int32)).toNatClampNeg) (sc (x3 + (4 : Int32)).toNatClampNeg) μ) ?_
  refine TL_aload_n 2 rfl rfl dL_law_1326 ?_
  refine TL_aload_n 0 rfl rfl dL_law_1327 ?_
  refine TL_iload_n 3 rfl rfl dL_law_1328 ?_
  refine TL_iconst (1 : Int32) (by decide) dL_law_1329 ?_
  refine TL_iadd dL_law_1330 ?_
  refine TL_sld hv1 dL_law_1331 ?_
  refine TL_aload_n 0 rfl rfl dL_law_1332 ?_
  refine TL_iload_n 3 rfl rfl dL_law_1333 ?_
  refine TL_iconst (2 : Int32) (by decide) dL_law_1334 ?_
  refine TL_iadd dL_law_1335 ?_
  refine TL_sld hv2 dL_law_1336 ?_
  refine TL_aload_n 0 rfl rfl dL_law_1337 ?_
  refine TL_iload_n 3 rfl rfl dL_law_1338 ?_
  refine TL_iconst (3 : Int32) (by decide) dL_law_1339 ?_
  refine TL_iadd dL_law_1340 ?_
  refine TL_sld hv3 dL_law_1341 ?_
  refine TL_aload_n 0 rfl rfl dL_law_1342 ?_
  refine TL_iload_n 3 rfl rfl dL_law_1343 ?_
  refine TL_iconst (4 : Int32) (by decide) dL_law_1344 ?_
  refine TL_iadd dL_law_1345 ?_
  refine TL_sld hv4 dL_law_1346 ?_
  refine TL_call (v2 := some (.int r)) (c := 8) [.int (sc (x3 + (1 : Int32)).toNatClampNeg), .int (sc (x3 + (2 : Int32)).toNatClampNeg), .int (sc (x3 + (3 : Int32)).toNatClampNeg), .int (sc (x3 + (4 : Int32)).toNatClampNeg)] [.int r] mkX8_read lmL_183 kd_81 rfl rfl (by decide) (Nat.le_of_ble_eq_true rfl) dL_law_1347 (by rw [← h2]; exact bsX8_read _ (sc (x3 + (1 : Int32)).toNatClampNeg) (sc (x3 + (2 : Int32)).toNatClampNeg) (sc (x3 + (3 : Int32)).toNatClampNeg) (sc (x3 + (4 : Int32)).toNatClampNeg) μ1) ?_
  refine TL_eq (x := r) (st := []) 1391 dL_law_1350 (by decide) ?_
  exact hk μ2 hI2
theorem lmL_184 : Cond.methodLink RL 184 yX7_torn ∈ gdL := gd_mem 861 (by decide +kernel) (by decide +kernel)
theorem lmL_187 : Cond.methodLink RL 187 yX8_torn ∈ gdL := gd_mem 1304 (by decide +kernel) (by decide +kernel)
set_option maxRecDepth 100000 in
theorem lc_41 {X : mCx} {b L : Nat} {sc : Nat → Int32} {μ : mMem} {x3 : Int32} (hv1 : vp_in (x3 + 1) L) (hv2 : vp_in (x3 + 2) L) (hv3 : vp_in (x3 + 3) L) (hv4 : vp_in (x3 + 4) L) {Inv : mMem → Prop} (hp : (okI Inv (fX7_torn ) (fX8_torn ))) (hI : Inv μ) (hk : ∀ μ', Inv μ' → TL X b L sc 1391 [(0, .ref 118), (1, .ref 48), (2, .ref 81), (3, .int x3)] [] μ') : TL X b L sc 1355 [(0, .ref 118), (1, .ref 48), (2, .ref 81), (3, .int x3)] [] μ := by
  obtain ⟨r, μ1, μ2, h1, h2, hI2⟩ := hp  μ hI
  refine TL_aload_n 1 rfl rfl dL_law_1355 ?_
  refine TL_call (v2 := some (.int r)) (c := 7) [] [] mkX7_torn lmL_184 kd_48 rfl rfl (by decide) (Nat.le_of_ble_eq_true rfl) dL_law_1356 (by rw [← h1]; exact bsX7_torn _  μ) ?_
  refine TL_aload_n 2 rfl rfl dL_law_1359 ?_
  refine TL_call (v2 := some (.int r)) (c := 8) [] [.int r] mkX8_torn lmL_187 kd_81 rfl rfl (by decide) (Nat.le_of_ble_eq_true rfl) dL_law_1360 (by rw [← h2]; exact bsX8_torn _  μ1) ?_
  refine TL_eq (x := r) (st := []) 1391 dL_law_1363 (by decide) ?_
  exact hk μ2 hI2
theorem lmL_188 : Cond.methodLink RL 188 yX7_count ∈ gdL := gd_mem 865 (by decide +kernel) (by decide +kernel)
theorem lmL_191 : Cond.methodLink RL 191 yX8_count ∈ gdL := gd_mem 1308 (by decide +kernel) (by decide +kernel)
set_option maxRecDepth 100000 in
theorem lc_42 {X : mCx} {b L : Nat} {sc : Nat → Int32} {μ : mMem} {x3 : Int32} (hv1 : vp_in (x3 + 1) L) (hv2 : vp_in (x3 + 2) L) (hv3 : vp_in (x3 + 3) L) (hv4 : vp_in (x3 + 4) L) {Inv : mMem → Prop} (hp : (∀ (u0 : Int32), okI Inv (fX7_count u0) (fX8_count u0))) (hI : Inv μ) (hk : ∀ μ', Inv μ' → TL X b L sc 1391 [(0, .ref 118), (1, .ref 48), (2, .ref 81), (3, .int x3)] [] μ') : TL X b L sc 1368 [(0, .ref 118), (1, .ref 48), (2, .ref 81), (3, .int x3)] [] μ := by
  obtain ⟨r, μ1, μ2, h1, h2, hI2⟩ := hp ((sc (x3 + (1 : Int32)).toNatClampNeg)) μ hI
  refine TL_aload_n 1 rfl rfl dL_law_1368 ?_
  refine TL_aload_n 0 rfl rfl dL_law_1369 ?_
  refine TL_iload_n 3 rfl rfl dL_law_1370 ?_
  refine TL_iconst (1 : Int32) (by decide) dL_law_1371 ?_
  refine TL_iadd dL_law_1372 ?_
  refine TL_sld hv1 dL_law_1373 ?_
  refine TL_call (v2 := some (.int r)) (c := 7) [.int (sc (x3 + (1 : Int32)).toNatClampNeg)] [] mkX7_count lmL_188 kd_48 rfl rfl (by decide) (Nat.le_of_ble_eq_true rfl) dL_law_1374 (by rw [← h1]; exact bsX7_count _ (sc (x3 + (1 : Int32)).toNatClampNeg) μ) ?_
  refine TL_aload_n 2 rfl rfl dL_law_1377 ?_
  refine TL_aload_n 0 rfl rfl dL_law_1378 ?_
  refine TL_iload_n 3 rfl rfl dL_law_1379 ?_
  refine TL_iconst (1 : Int32) (by decide) dL_law_1380 ?_
  refine TL_iadd dL_law_1381 ?_
  refine TL_sld hv1 dL_law_1382 ?_
  refine TL_call (v2 := some (.int r)) (c := 8) [.int (sc (x3 + (1 : Int32)).toNatClampNeg)] [.int r] mkX8_count lmL_191 kd_81 rfl rfl (by decide) (Nat.le_of_ble_eq_true rfl) dL_law_1383 (by rw [← h2]; exact bsX8_count _ (sc (x3 + (1 : Int32)).toNatClampNeg) μ1) ?_
  refine TL_eq (x := r) (st := []) 1391 dL_law_1386 (by decide) ?_
  exact hk μ2 hI2
def PureOK (Inv : mMem → Prop) : Prop := (∀ (u0 : Int32), okI Inv (fX7_feed u0) (fX8_feed u0)) ∧ (∀ (u0 : Int32), okI Inv (fX7_end u0) (fX8_end u0)) ∧ (okI Inv (fX7_text ) (fX8_text )) ∧ (okI Inv (fX7_fault ) (fX8_fault )) ∧ (∀ (u0 : Int32), okI Inv (fX7_rule u0) (fX8_rule u0)) ∧ (∀ (u0 : Int32) (u1 : Int32), okI Inv (fX7_step u0 u1) (fX8_step u0 u1)) ∧ (∀ (u0 : Int32) (u1 : Int32), okI Inv (fX7_lodger u0 u1) (fX8_lodger u0 u1)) ∧ (∀ (u0 : Int32) (u1 : Int32), okI Inv (fX7_age u0 u1) (fX8_age u0 u1)) ∧ (∀ (u0 : Int32) (u1 : Int32), okI Inv (fX7_wear u0 u1) (fX8_wear u0 u1)) ∧ (∀ (u0 : Int32), okI Inv (fX7_mend u0) (fX8_mend u0)) ∧ (∀ (u0 : Int32) (u1 : Int32), okI Inv (fX7_rank u0 u1) (fX8_rank u0 u1)) ∧ (∀ (u0 : Int32) (u1 : Int32), okI Inv (fX7_load u0 u1) (fX8_load u0 u1)) ∧ (∀ (u0 : Int32) (u1 : Int32), okI Inv (fX7_move u0 u1) (fX8_move u0 u1)) ∧ (∀ (u0 : Int32) (u1 : Int32), okI Inv (fX7_law u0 u1) (fX8_law u0 u1)) ∧ (okI Inv (fX7_year ) (fX8_year )) ∧ (∀ (u0 : Int32) (u1 : Int32), okI Inv (fX7_climb u0 u1) (fX8_climb u0 u1)) ∧ (∀ (u0 : Int32), okI Inv (fX7_ways u0) (fX8_ways u0)) ∧ (∀ (u0 : Int32) (u1 : Int32), okI Inv (fX7_smooth u0 u1) (fX8_smooth u0 u1)) ∧ (okI Inv (fX7_homes ) (fX8_homes )) ∧ (∀ (u0 : Int32), okI Inv (fX7_must u0) (fX8_must u0)) ∧ (∀ (u0 : Int32), okI Inv (fX7_day u0) (fX8_day u0)) ∧ (∀ (u0 : Int32) (u1 : Int32), okI Inv (fX7_ahead u0 u1) (fX8_ahead u0 u1)) ∧ (∀ (u0 : Int32), okI Inv (fX7_breaks u0) (fX8_breaks u0)) ∧ (∀ (u0 : Int32), okI Inv (fX7_stuck u0) (fX8_stuck u0)) ∧ (∀ (u0 : Int32), okI Inv (fX7_gap u0) (fX8_gap u0)) ∧ (∀ (u0 : Int32), okI Inv (fX7_legs u0) (fX8_legs u0)) ∧ (∀ (u0 : Int32), okI Inv (fX7_hold u0) (fX8_hold u0)) ∧ (∀ (u0 : Int32), okI Inv (fX7_best u0) (fX8_best u0)) ∧ (∀ (u0 : Int32), okI Inv (fX7_lodge u0) (fX8_lodge u0)) ∧ (∀ (u0 : Int32) (u1 : Int32) (u2 : Int32), okL Inv (fX7_odds u0 u1 u2) (fX8_odds u0 u1 u2)) ∧ (∀ (u0 : Int32) (u1 : Int32), okL Inv (fX7_mean u0 u1) (fX8_mean u0 u1)) ∧ (∀ (u0 : Int32) (u1 : Int32), okI Inv (fX7_see u0 u1) (fX8_see u0 u1)) ∧ (∀ (u0 : Int32), okI Inv (fX7_forget u0) (fX8_forget u0)) ∧ (okI Inv (fX7_fits ) (fX8_fits )) ∧ (∀ (u0 : Int32), okI Inv (fX7_floors u0) (fX8_floors u0)) ∧ (∀ (u0 : Int32) (u1 : Int32) (u2 : Int32), okI Inv (fX7_drift u0 u1 u2) (fX8_drift u0 u1 u2)) ∧ (∀ (u0 : Int32), okI Inv (fX7_keep u0) (fX8_keep u0)) ∧ (∀ (u0 : Int32), okI Inv (fX7_back u0) (fX8_back u0)) ∧ (∀ (u0 : Int32) (u1 : Int32) (u2 : Int32), okI Inv (fX7_sheet u0 u1 u2) (fX8_sheet u0 u1 u2)) ∧ (∀ (u0 : Int32) (u1 : Int32) (u2 : Int32), okI Inv (fX7_lay u0 u1 u2) (fX8_lay u0 u1 u2)) ∧ (∀ (u0 : Int32) (u1 : Int32) (u2 : Int32) (u3 : Int32), okI Inv (fX7_read u0 u1 u2 u3) (fX8_read u0 u1 u2 u3)) ∧ (okI Inv (fX7_torn ) (fX8_torn )) ∧ (∀ (u0 : Int32), okI Inv (fX7_count u0) (fX8_count u0))
theorem l5 : ∀ L, L ≤ 2560 → (Int32.ofNat L - 5).toInt = (L : Int) - 5 := by decide +kernel
theorem l5_lt {L n : Nat} (hL : L ≤ 2560) (hn : n ≤ 2565) : Int32.ofNat L - 5 < nI n ↔ L < n + 5 := by
  rw [Int32.lt_iff_toInt_lt, l5 L hL, nI_toInt (by omega)]
  omega
theorem vp_nI {n L : Nat} (j : Nat) (h : n + j < L) (hL : L ≤ 2560) : vp_in (nI n + nI j) L := by
  rw [nI_add]
  exact vp_in_nI h (by omega)
set_option maxRecDepth 100000 in
set_option maxHeartbeats 4000000 in
theorem law_loop_open {Inv : mMem → Prop} (hp : PureOK Inv) {X : mCx} {b L : Nat} {sc : Nat → Int32} (hL : L ≤ 2560) (hargs : xa X = #[Value.ref b]) (hA : ∀ z, xA X z → (xs X).heap.size ≤ z) : ∀ (k n : Nat), L + 1 ≤ n + k → n ≤ 2565 → ∀ μ, Inv μ → TL X b L sc 18 [(0, .ref 118), (1, .ref 48), (2, .ref 81), (3, .int (nI n))] [] μ := by
  intro k
  induction k with
  | zero =>
    intro n h1 h2 μ hI
    refine TL_iload_n 3 rfl rfl dL_law_18 ?_
    refine TL_aload_n 0 rfl rfl dL_law_19 ?_
    refine TL_slen dL_law_20 ?_
    refine TL_iconst (5 : Int32) (by decide) dL_law_21 ?_
    refine TL_isub dL_law_22 ?_
    refine TL_gt 1397 dL_law_23 (by decide) (fun _ => ?_) (fun hc => absurd ((l5_lt hL h2).mpr (by omega)) hc)
    refine TL_iconst (1 : Int32) (by decide) dL_law_1397 ?_
    exact TL_ret hargs hA dL_law_1398
  | succ k ih =>
    intro n h1 h2 μ hI
    refine TL_iload_n 3 rfl rfl dL_law_18 ?_
    refine TL_aload_n 0 rfl rfl dL_law_19 ?_
    refine TL_slen dL_law_20 ?_
    refine TL_iconst (5 : Int32) (by decide) dL_law_21 ?_
    refine TL_isub dL_law_22 ?_
    refine TL_gt 1397 dL_law_23 (by decide) (fun _ => ?_) (fun hc => ?_)
    · refine TL_iconst (1 : Int32) (by decide) dL_law_1397 ?_
      exact TL_ret hargs hA dL_law_1398
    · have hn : n + 5 ≤ L := by
        rcases Nat.lt_or_ge L (n + 5) with q | q
        · exact absurd ((l5_lt hL h2).mpr q) hc
        · exact q
      have hv0 : vp_in (nI n) L := vp_in_nI (by omega) (by omega)
      have hv1 : vp_in (nI n + 1) L := vp_nI 1 (by omega) hL
      have hv2 : vp_in (nI n + 2) L := vp_nI 2 (by omega) hL
      have hv3 : vp_in (nI n + 3) L := vp_nI 3 (by omega) hL
      have hv4 : vp_in (nI n + 4) L := vp_nI 4 (by omega) hL
      have hk : ∀ μ', Inv μ' → TL X b L sc 1391 [(0, .ref 118), (1, .ref 48), (2, .ref 81), (3, .int (nI n))] [] μ' := fun μ' hI' => by
        refine TL_iinc (lv' := [(3, .int (nI n + 5)), (0, .ref 118), (1, .ref 48), (2, .ref 81)]) 3 (5 : Int32) rfl (by decide) (by decide) rfl dL_law_1391 ?_
        refine TL_goto 18 dL_law_1394 (by decide) ?_
        rw [show nI n + 5 = nI (n + 5) from nI_add n 5]
        exact TL_sub [1, 2, 3, 0] rfl (ih (n + 5) (by omega) (by omega) μ' hI')
      refine TL_aload_n 0 rfl rfl dL_law_26 ?_
      refine TL_iload_n 3 rfl rfl dL_law_27 ?_
      refine TL_sld hv0 dL_law_28 ?_
      refine TL_bipush (63 : Int32) (by decide) dL_law_29 ?_
      refine TL_iand dL_law_31 ?_
      generalize sc (nI n).toNatClampNeg &&& 63 = y
      obtain ⟨p0, p1, p2, p3, p4, p5, p6, p7, p8, p9, p10, p11, p12, p13, p14, p15, p16, p17, p18, p19, p20, p21, p22, p23, p24, p25, p26, p27, p28, p29, p30, p31, p32, p33, p34, p35, p36, p37, p38, p39, p40, p41, p42⟩ := hp
      by_cases h0 : y = (0 : Int32)
      · refine TL_tsIn (off := 188) (0 : Int32) 220 h0 dL_law_32 (by decide) (by decide) (by decide) (by decide) ?_
        exact lc_0 hv1 hv2 hv3 hv4 p0 hI hk
      by_cases h1 : y = (1 : Int32)
      · refine TL_tsIn (off := 211) (1 : Int32) 243 h1 dL_law_32 (by decide) (by decide) (by decide) (by decide) ?_
        exact lc_1 hv1 hv2 hv3 hv4 p1 hI hk
      by_cases h2 : y = (2 : Int32)
      · refine TL_tsIn (off := 234) (2 : Int32) 266 h2 dL_law_32 (by decide) (by decide) (by decide) (by decide) ?_
        exact lc_2 hv1 hv2 hv3 hv4 p2 hI hk
      by_cases h3 : y = (3 : Int32)
      · refine TL_tsIn (off := 247) (3 : Int32) 279 h3 dL_law_32 (by decide) (by decide) (by decide) (by decide) ?_
        exact lc_3 hv1 hv2 hv3 hv4 p3 hI hk
      by_cases h4 : y = (4 : Int32)
      · refine TL_tsIn (off := 260) (4 : Int32) 292 h4 dL_law_32 (by decide) (by decide) (by decide) (by decide) ?_
        exact lc_4 hv1 hv2 hv3 hv4 p4 hI hk
      by_cases h5 : y = (5 : Int32)
      · refine TL_tsIn (off := 283) (5 : Int32) 315 h5 dL_law_32 (by decide) (by decide) (by decide) (by decide) ?_
        exact lc_5 hv1 hv2 hv3 hv4 p5 hI hk
      by_cases h6 : y = (6 : Int32)
      · refine TL_tsIn (off := 316) (6 : Int32) 348 h6 dL_law_32 (by decide) (by decide) (by decide) (by decide) ?_
        exact lc_6 hv1 hv2 hv3 hv4 p6 hI hk
      by_cases h7 : y = (7 : Int32)
      · refine TL_tsIn (off := 349) (7 : Int32) 381 h7 dL_law_32 (by decide) (by decide) (by decide) (by decide) ?_
        exact lc_7 hv1 hv2 hv3 hv4 p7 hI hk
      by_cases h8 : y = (8 : Int32)
      · refine TL_tsIn (off := 382) (8 : Int32) 414 h8 dL_law_32 (by decide) (by decide) (by decide) (by decide) ?_
        exact lc_8 hv1 hv2 hv3 hv4 p8 hI hk
      by_cases h9 : y = (9 : Int32)
      · refine TL_tsIn (off := 415) (9 : Int32) 447 h9 dL_law_32 (by decide) (by decide) (by decide) (by decide) ?_
        exact lc_9 hv1 hv2 hv3 hv4 p9 hI hk
      by_cases h10 : y = (10 : Int32)
      · refine TL_tsIn (off := 438) (10 : Int32) 470 h10 dL_law_32 (by decide) (by decide) (by decide) (by decide) ?_
        exact lc_10 hv1 hv2 hv3 hv4 p10 hI hk
      by_cases h11 : y = (11 : Int32)
      · refine TL_tsIn (off := 471) (11 : Int32) 503 h11 dL_law_32 (by decide) (by decide) (by decide) (by decide) ?_
        exact lc_11 hv1 hv2 hv3 hv4 p11 hI hk
      by_cases h12 : y = (12 : Int32)
      · refine TL_tsIn (off := 504) (12 : Int32) 536 h12 dL_law_32 (by decide) (by decide) (by decide) (by decide) ?_
        exact lc_12 hv1 hv2 hv3 hv4 p12 hI hk
      by_cases h13 : y = (13 : Int32)
      · refine TL_tsIn (off := 537) (13 : Int32) 569 h13 dL_law_32 (by decide) (by decide) (by decide) (by decide) ?_
        exact lc_13 hv1 hv2 hv3 hv4 p13 hI hk
      by_cases h14 : y = (14 : Int32)
      · refine TL_tsIn (off := 570) (14 : Int32) 602 h14 dL_law_32 (by decide) (by decide) (by decide) (by decide) ?_
        exact lc_14 hv1 hv2 hv3 hv4 p14 hI hk
      by_cases h15 : y = (15 : Int32)
      · refine TL_tsIn (off := 583) (15 : Int32) 615 h15 dL_law_32 (by decide) (by decide) (by decide) (by decide) ?_
        exact lc_15 hv1 hv2 hv3 hv4 p15 hI hk
      by_cases h16 : y = (16 : Int32)
      · refine TL_tsIn (off := 616) (16 : Int32) 648 h16 dL_law_32 (by decide) (by decide) (by decide) (by decide) ?_
        exact lc_16 hv1 hv2 hv3 hv4 p16 hI hk
      by_cases h17 : y = (17 : Int32)
      · refine TL_tsIn (off := 639) (17 : Int32) 671 h17 dL_law_32 (by decide) (by decide) (by decide) (by decide) ?_
        exact lc_17 hv1 hv2 hv3 hv4 p17 hI hk
      by_cases h18 : y = (18 : Int32)
      · refine TL_tsIn (off := 672) (18 : Int32) 704 h18 dL_law_32 (by decide) (by decide) (by decide) (by decide) ?_
        exact lc_18 hv1 hv2 hv3 hv4 p18 hI hk
      by_cases h19 : y = (19 : Int32)
      · refine TL_tsIn (off := 685) (19 : Int32) 717 h19 dL_law_32 (by decide) (by decide) (by decide) (by decide) ?_
        exact lc_19 hv1 hv2 hv3 hv4 p19 hI hk
      by_cases h20 : y = (20 : Int32)
      · refine TL_tsIn (off := 708) (20 : Int32) 740 h20 dL_law_32 (by decide) (by decide) (by decide) (by decide) ?_
        exact lc_20 hv1 hv2 hv3 hv4 p20 hI hk
      by_cases h21 : y = (21 : Int32)
      · refine TL_tsIn (off := 731) (21 : Int32) 763 h21 dL_law_32 (by decide) (by decide) (by decide) (by decide) ?_
        exact lc_21 hv1 hv2 hv3 hv4 p21 hI hk
      by_cases h22 : y = (22 : Int32)
      · refine TL_tsIn (off := 764) (22 : Int32) 796 h22 dL_law_32 (by decide) (by decide) (by decide) (by decide) ?_
        exact lc_22 hv1 hv2 hv3 hv4 p22 hI hk
      by_cases h23 : y = (23 : Int32)
      · refine TL_tsIn (off := 787) (23 : Int32) 819 h23 dL_law_32 (by decide) (by decide) (by decide) (by decide) ?_
        exact lc_23 hv1 hv2 hv3 hv4 p23 hI hk
      by_cases h24 : y = (24 : Int32)
      · refine TL_tsIn (off := 810) (24 : Int32) 842 h24 dL_law_32 (by decide) (by decide) (by decide) (by decide) ?_
        exact lc_24 hv1 hv2 hv3 hv4 p24 hI hk
      by_cases h25 : y = (25 : Int32)
      · refine TL_tsIn (off := 833) (25 : Int32) 865 h25 dL_law_32 (by decide) (by decide) (by decide) (by decide) ?_
        exact lc_25 hv1 hv2 hv3 hv4 p25 hI hk
      by_cases h26 : y = (26 : Int32)
      · refine TL_tsIn (off := 856) (26 : Int32) 888 h26 dL_law_32 (by decide) (by decide) (by decide) (by decide) ?_
        exact lc_26 hv1 hv2 hv3 hv4 p26 hI hk
      by_cases h27 : y = (27 : Int32)
      · refine TL_tsIn (off := 879) (27 : Int32) 911 h27 dL_law_32 (by decide) (by decide) (by decide) (by decide) ?_
        exact lc_27 hv1 hv2 hv3 hv4 p27 hI hk
      by_cases h28 : y = (28 : Int32)
      · refine TL_tsIn (off := 902) (28 : Int32) 934 h28 dL_law_32 (by decide) (by decide) (by decide) (by decide) ?_
        exact lc_28 hv1 hv2 hv3 hv4 p28 hI hk
      by_cases h29 : y = (29 : Int32)
      · refine TL_tsIn (off := 925) (29 : Int32) 957 h29 dL_law_32 (by decide) (by decide) (by decide) (by decide) ?_
        exact lc_29 hv1 hv2 hv3 hv4 p29 hI hk
      by_cases h30 : y = (30 : Int32)
      · refine TL_tsIn (off := 969) (30 : Int32) 1001 h30 dL_law_32 (by decide) (by decide) (by decide) (by decide) ?_
        exact lc_30 hv1 hv2 hv3 hv4 p30 hI hk
      by_cases h31 : y = (31 : Int32)
      · refine TL_tsIn (off := 1003) (31 : Int32) 1035 h31 dL_law_32 (by decide) (by decide) (by decide) (by decide) ?_
        exact lc_31 hv1 hv2 hv3 hv4 p31 hI hk
      by_cases h32 : y = (32 : Int32)
      · refine TL_tsIn (off := 1036) (32 : Int32) 1068 h32 dL_law_32 (by decide) (by decide) (by decide) (by decide) ?_
        exact lc_32 hv1 hv2 hv3 hv4 p32 hI hk
      by_cases h33 : y = (33 : Int32)
      · refine TL_tsIn (off := 1059) (33 : Int32) 1091 h33 dL_law_32 (by decide) (by decide) (by decide) (by decide) ?_
        exact lc_33 hv1 hv2 hv3 hv4 p33 hI hk
      by_cases h34 : y = (34 : Int32)
      · refine TL_tsIn (off := 1072) (34 : Int32) 1104 h34 dL_law_32 (by decide) (by decide) (by decide) (by decide) ?_
        exact lc_34 hv1 hv2 hv3 hv4 p34 hI hk
      by_cases h35 : y = (35 : Int32)
      · refine TL_tsIn (off := 1095) (35 : Int32) 1127 h35 dL_law_32 (by decide) (by decide) (by decide) (by decide) ?_
        exact lc_35 hv1 hv2 hv3 hv4 p35 hI hk
      by_cases h36 : y = (36 : Int32)
      · refine TL_tsIn (off := 1138) (36 : Int32) 1170 h36 dL_law_32 (by decide) (by decide) (by decide) (by decide) ?_
        exact lc_36 hv1 hv2 hv3 hv4 p36 hI hk
      by_cases h37 : y = (37 : Int32)
      · refine TL_tsIn (off := 1161) (37 : Int32) 1193 h37 dL_law_32 (by decide) (by decide) (by decide) (by decide) ?_
        exact lc_37 hv1 hv2 hv3 hv4 p37 hI hk
      by_cases h38 : y = (38 : Int32)
      · refine TL_tsIn (off := 1184) (38 : Int32) 1216 h38 dL_law_32 (by decide) (by decide) (by decide) (by decide) ?_
        exact lc_38 hv1 hv2 hv3 hv4 p38 hI hk
      by_cases h39 : y = (39 : Int32)
      · refine TL_tsIn (off := 1227) (39 : Int32) 1259 h39 dL_law_32 (by decide) (by decide) (by decide) (by decide) ?_
        exact lc_39 hv1 hv2 hv3 hv4 p39 hI hk
      by_cases h40 : y = (40 : Int32)
      · refine TL_tsIn (off := 1270) (40 : Int32) 1302 h40 dL_law_32 (by decide) (by decide) (by decide) (by decide) ?_
        exact lc_40 hv1 hv2 hv3 hv4 p40 hI hk
      by_cases h41 : y = (41 : Int32)
      · refine TL_tsIn (off := 1323) (41 : Int32) 1355 h41 dL_law_32 (by decide) (by decide) (by decide) (by decide) ?_
        exact lc_41 hv1 hv2 hv3 hv4 p41 hI hk
      by_cases h42 : y = (42 : Int32)
      · refine TL_tsIn (off := 1336) (42 : Int32) 1368 h42 dL_law_32 (by decide) (by decide) (by decide) (by decide) ?_
        exact lc_42 hv1 hv2 hv3 hv4 p42 hI hk
      have hout : y.toInt < 0 ∨ 42 < y.toInt := by
        have := tsO 43 (by decide) (fun k hk' => by
          match k, hk' with
          | 0, _ => exact h0
          | 1, _ => exact h1
          | 2, _ => exact h2
          | 3, _ => exact h3
          | 4, _ => exact h4
          | 5, _ => exact h5
          | 6, _ => exact h6
          | 7, _ => exact h7
          | 8, _ => exact h8
          | 9, _ => exact h9
          | 10, _ => exact h10
          | 11, _ => exact h11
          | 12, _ => exact h12
          | 13, _ => exact h13
          | 14, _ => exact h14
          | 15, _ => exact h15
          | 16, _ => exact h16
          | 17, _ => exact h17
          | 18, _ => exact h18
          | 19, _ => exact h19
          | 20, _ => exact h20
          | 21, _ => exact h21
          | 22, _ => exact h22
          | 23, _ => exact h23
          | 24, _ => exact h24
          | 25, _ => exact h25
          | 26, _ => exact h26
          | 27, _ => exact h27
          | 28, _ => exact h28
          | 29, _ => exact h29
          | 30, _ => exact h30
          | 31, _ => exact h31
          | 32, _ => exact h32
          | 33, _ => exact h33
          | 34, _ => exact h34
          | 35, _ => exact h35
          | 36, _ => exact h36
          | 37, _ => exact h37
          | 38, _ => exact h38
          | 39, _ => exact h39
          | 40, _ => exact h40
          | 41, _ => exact h41
          | 42, _ => exact h42
          | k + 43, hk' => exact absurd hk' (by omega))
        omega
      refine TL_tsOut 1391 hout dL_law_32 (by decide) ?_
      exact hk μ hI
