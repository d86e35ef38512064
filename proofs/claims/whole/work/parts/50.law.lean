set_option maxRecDepth 100000 in
set_option maxHeartbeats 4000000 in
theorem lc_0 {w wm : Wc} {A : Nat → Prop} {g : Gx} {Q : State → Prop} (hg : OY w A g 2000 600000 7302250 cL_law "BagBottomLaw" 4) (hsw : YS A w g) (hsm : YS A wm g) (hd1 : dG wm = dG w) (hd2 : tys wm = tys w) (hd3 : ∀ s, SR w s → SR wm s) {b L : Nat} {xs : Nat → Int32} (hX : YX A g b L xs) {x3 : Int32} {k n : Nat} (hk1 : Nat.ble k 600000 = true) (hk2 : Nat.ble n 7302250 = true) (hv : ∀ c : Int32, c ∈ [(1 : Int32), 2, 3, 4, 5] → vp_in (x3 + c) L) {σ τ : Sg} (hR : Rel σ τ) (hback : ∀ σ τ, Rel σ τ → Y w A g Q 1344 [some (.ref b), some (.ref (ad w 0)), some (.ref (ad wm 0)), some (.int x3)] [] k n (wsL shC w σ ++ wsL shM wm τ)) : Y w A g Q 200 [some (.ref b), some (.ref (ad w 0)), some (.ref (ad wm 0)), some (.int x3)] [] k n (wsL shC w σ ++ wsL shM wm τ) := by
  refine y_aload1 hg dL_law_200 rfl ?_
  refine y_aload0 hg dL_law_201 rfl ?_
  refine y_iload3 hg dL_law_202 rfl ?_
  refine y_ic hg dL_law_203 ic_1 rfl ?_
  refine y_iadd hg dL_law_204 rfl ?_
  refine y_sld hg hX (hv 1 (by decide)) dL_law_205 rfl ?_
  refine y_aload0 hg dL_law_206 rfl ?_
  refine y_iload3 hg dL_law_207 rfl ?_
  refine y_ic hg dL_law_208 ic_2 rfl ?_
  refine y_iadd hg dL_law_209 rfl ?_
  refine y_sld hg hX (hv 2 (by decide)) dL_law_210 rfl ?_
  refine y_aload0 hg dL_law_211 rfl ?_
  refine y_iload3 hg dL_law_212 rfl ?_
  refine y_ic hg dL_law_213 ic_3 rfl ?_
  refine y_iadd hg dL_law_214 rfl ?_
  refine y_sld hg hX (hv 3 (by decide)) dL_law_215 rfl ?_
  refine y_call (S := shC) (wx := w) hg hsw rfl rfl (fun _ h => h) (As := [.int (xs (ix (x3 + 1))), .int (xs (ix (x3 + 2))), .int (xs (ix (x3 + 3)))]) (xB_thing (w := w) (gL g) (eq_thing hR)) kC_0 (by decide) rfl im_X7_thing se_X7_thing mi_X7_thing ml_L_13 rfl rfl hk1 hk2 rfl rfl rfl dL_law_216 rfl (fun r1 σ hR => ?_)
  refine y_swap ?_
  refine y_aload2 hg dL_law_219 rfl ?_
  refine y_aload0 hg dL_law_220 rfl ?_
  refine y_iload3 hg dL_law_221 rfl ?_
  refine y_ic hg dL_law_222 ic_1 rfl ?_
  refine y_iadd hg dL_law_223 rfl ?_
  refine y_sld hg hX (hv 1 (by decide)) dL_law_224 rfl ?_
  refine y_aload0 hg dL_law_225 rfl ?_
  refine y_iload3 hg dL_law_226 rfl ?_
  refine y_ic hg dL_law_227 ic_2 rfl ?_
  refine y_iadd hg dL_law_228 rfl ?_
  refine y_sld hg hX (hv 2 (by decide)) dL_law_229 rfl ?_
  refine y_aload0 hg dL_law_230 rfl ?_
  refine y_iload3 hg dL_law_231 rfl ?_
  refine y_ic hg dL_law_232 ic_3 rfl ?_
  refine y_iadd hg dL_law_233 rfl ?_
  refine y_sld hg hX (hv 3 (by decide)) dL_law_234 rfl ?_
  refine y_call (S := shM) (wx := wm) hg hsm hd1 hd2 hd3 (As := [.int (xs (ix (x3 + 1))), .int (xs (ix (x3 + 2))), .int (xs (ix (x3 + 3)))]) (xM_thing (w := wm) (gL g) hR) kM_0 (by decide) rfl im_X8_thing se_X8_thing mi_X8_thing ml_L_17 rfl rfl hk1 hk2 rfl rfl rfl dL_law_235 rfl (fun r2 τ hR => ?_)
  refine y_swap ?_
  exact y_eqT hg dL_law_238 (tg := 1344) (by decide) hR.1 (hback _ _ hR.2)
set_option maxRecDepth 100000 in
set_option maxHeartbeats 4000000 in
theorem lc_1 {w wm : Wc} {A : Nat → Prop} {g : Gx} {Q : State → Prop} (hg : OY w A g 2000 600000 7302250 cL_law "BagBottomLaw" 4) (hsw : YS A w g) (hsm : YS A wm g) (hd1 : dG wm = dG w) (hd2 : tys wm = tys w) (hd3 : ∀ s, SR w s → SR wm s) {b L : Nat} {xs : Nat → Int32} (hX : YX A g b L xs) {x3 : Int32} {k n : Nat} (hk1 : Nat.ble k 600000 = true) (hk2 : Nat.ble n 7302250 = true) (hv : ∀ c : Int32, c ∈ [(1 : Int32), 2, 3, 4, 5] → vp_in (x3 + c) L) {σ τ : Sg} (hR : Rel σ τ) (hback : ∀ σ τ, Rel σ τ → Y w A g Q 1344 [some (.ref b), some (.ref (ad w 0)), some (.ref (ad wm 0)), some (.int x3)] [] k n (wsL shC w σ ++ wsL shM wm τ)) : Y w A g Q 243 [some (.ref b), some (.ref (ad w 0)), some (.ref (ad wm 0)), some (.int x3)] [] k n (wsL shC w σ ++ wsL shM wm τ) := by
  refine y_aload1 hg dL_law_243 rfl ?_
  refine y_aload0 hg dL_law_244 rfl ?_
  refine y_iload3 hg dL_law_245 rfl ?_
  refine y_ic hg dL_law_246 ic_1 rfl ?_
  refine y_iadd hg dL_law_247 rfl ?_
  refine y_sld hg hX (hv 1 (by decide)) dL_law_248 rfl ?_
  refine y_aload0 hg dL_law_249 rfl ?_
  refine y_iload3 hg dL_law_250 rfl ?_
  refine y_ic hg dL_law_251 ic_2 rfl ?_
  refine y_iadd hg dL_law_252 rfl ?_
  refine y_sld hg hX (hv 2 (by decide)) dL_law_253 rfl ?_
  refine y_call (S := shC) (wx := w) hg hsw rfl rfl (fun _ h => h) (As := [.int (xs (ix (x3 + 1))), .int (xs (ix (x3 + 2)))]) (xB_thingIs (w := w) (gL g) (eq_thingIs hR)) kC_0 (by decide) rfl im_X7_thingIs se_X7_thingIs mi_X7_thingIs ml_L_18 rfl rfl hk1 hk2 rfl rfl rfl dL_law_254 rfl (fun r1 σ hR => ?_)
  refine y_swap ?_
  refine y_aload2 hg dL_law_257 rfl ?_
  refine y_aload0 hg dL_law_258 rfl ?_
  refine y_iload3 hg dL_law_259 rfl ?_
  refine y_ic hg dL_law_260 ic_1 rfl ?_
  refine y_iadd hg dL_law_261 rfl ?_
  refine y_sld hg hX (hv 1 (by decide)) dL_law_262 rfl ?_
  refine y_aload0 hg dL_law_263 rfl ?_
  refine y_iload3 hg dL_law_264 rfl ?_
  refine y_ic hg dL_law_265 ic_2 rfl ?_
  refine y_iadd hg dL_law_266 rfl ?_
  refine y_sld hg hX (hv 2 (by decide)) dL_law_267 rfl ?_
  refine y_call (S := shM) (wx := wm) hg hsm hd1 hd2 hd3 (As := [.int (xs (ix (x3 + 1))), .int (xs (ix (x3 + 2)))]) (xM_thingIs (w := wm) (gL g) hR) kM_0 (by decide) rfl im_X8_thingIs se_X8_thingIs mi_X8_thingIs ml_L_22 rfl rfl hk1 hk2 rfl rfl rfl dL_law_268 rfl (fun r2 τ hR => ?_)
  refine y_swap ?_
  exact y_eqT hg dL_law_271 (tg := 1344) (by decide) hR.1 (hback _ _ hR.2)
set_option maxRecDepth 100000 in
set_option maxHeartbeats 4000000 in
theorem lc_2 {w wm : Wc} {A : Nat → Prop} {g : Gx} {Q : State → Prop} (hg : OY w A g 2000 600000 7302250 cL_law "BagBottomLaw" 4) (hsw : YS A w g) (hsm : YS A wm g) (hd1 : dG wm = dG w) (hd2 : tys wm = tys w) (hd3 : ∀ s, SR w s → SR wm s) {b L : Nat} {xs : Nat → Int32} (hX : YX A g b L xs) {x3 : Int32} {k n : Nat} (hk1 : Nat.ble k 600000 = true) (hk2 : Nat.ble n 7302250 = true) (hv : ∀ c : Int32, c ∈ [(1 : Int32), 2, 3, 4, 5] → vp_in (x3 + c) L) {σ τ : Sg} (hR : Rel σ τ) (hback : ∀ σ τ, Rel σ τ → Y w A g Q 1344 [some (.ref b), some (.ref (ad w 0)), some (.ref (ad wm 0)), some (.int x3)] [] k n (wsL shC w σ ++ wsL shM wm τ)) : Y w A g Q 276 [some (.ref b), some (.ref (ad w 0)), some (.ref (ad wm 0)), some (.int x3)] [] k n (wsL shC w σ ++ wsL shM wm τ) := by
  refine y_aload1 hg dL_law_276 rfl ?_
  refine y_aload0 hg dL_law_277 rfl ?_
  refine y_iload3 hg dL_law_278 rfl ?_
  refine y_ic hg dL_law_279 ic_1 rfl ?_
  refine y_iadd hg dL_law_280 rfl ?_
  refine y_sld hg hX (hv 1 (by decide)) dL_law_281 rfl ?_
  refine y_aload0 hg dL_law_282 rfl ?_
  refine y_iload3 hg dL_law_283 rfl ?_
  refine y_ic hg dL_law_284 ic_2 rfl ?_
  refine y_iadd hg dL_law_285 rfl ?_
  refine y_sld hg hX (hv 2 (by decide)) dL_law_286 rfl ?_
  refine y_call (S := shC) (wx := w) hg hsw rfl rfl (fun _ h => h) (As := [.int (xs (ix (x3 + 1))), .int (xs (ix (x3 + 2)))]) (xB_become (w := w) (gL g) (eq_become hR)) kC_0 (by decide) rfl im_X7_become se_X7_become mi_X7_become ml_L_23 rfl rfl hk1 hk2 rfl rfl rfl dL_law_287 rfl (fun r1 σ hR => ?_)
  refine y_swap ?_
  refine y_aload2 hg dL_law_290 rfl ?_
  refine y_aload0 hg dL_law_291 rfl ?_
  refine y_iload3 hg dL_law_292 rfl ?_
  refine y_ic hg dL_law_293 ic_1 rfl ?_
  refine y_iadd hg dL_law_294 rfl ?_
  refine y_sld hg hX (hv 1 (by decide)) dL_law_295 rfl ?_
  refine y_aload0 hg dL_law_296 rfl ?_
  refine y_iload3 hg dL_law_297 rfl ?_
  refine y_ic hg dL_law_298 ic_2 rfl ?_
  refine y_iadd hg dL_law_299 rfl ?_
  refine y_sld hg hX (hv 2 (by decide)) dL_law_300 rfl ?_
  refine y_call (S := shM) (wx := wm) hg hsm hd1 hd2 hd3 (As := [.int (xs (ix (x3 + 1))), .int (xs (ix (x3 + 2)))]) (xM_become (w := wm) (gL g) hR) kM_0 (by decide) rfl im_X8_become se_X8_become mi_X8_become ml_L_26 rfl rfl hk1 hk2 rfl rfl rfl dL_law_301 rfl (fun r2 τ hR => ?_)
  refine y_swap ?_
  exact y_eqT hg dL_law_304 (tg := 1344) (by decide) hR.1 (hback _ _ hR.2)
set_option maxRecDepth 100000 in
set_option maxHeartbeats 4000000 in
theorem lc_3 {w wm : Wc} {A : Nat → Prop} {g : Gx} {Q : State → Prop} (hg : OY w A g 2000 600000 7302250 cL_law "BagBottomLaw" 4) (hsw : YS A w g) (hsm : YS A wm g) (hd1 : dG wm = dG w) (hd2 : tys wm = tys w) (hd3 : ∀ s, SR w s → SR wm s) {b L : Nat} {xs : Nat → Int32} (hX : YX A g b L xs) {x3 : Int32} {k n : Nat} (hk1 : Nat.ble k 600000 = true) (hk2 : Nat.ble n 7302250 = true) (hv : ∀ c : Int32, c ∈ [(1 : Int32), 2, 3, 4, 5] → vp_in (x3 + c) L) {σ τ : Sg} (hR : Rel σ τ) (hback : ∀ σ τ, Rel σ τ → Y w A g Q 1344 [some (.ref b), some (.ref (ad w 0)), some (.ref (ad wm 0)), some (.int x3)] [] k n (wsL shC w σ ++ wsL shM wm τ)) : Y w A g Q 309 [some (.ref b), some (.ref (ad w 0)), some (.ref (ad wm 0)), some (.int x3)] [] k n (wsL shC w σ ++ wsL shM wm τ) := by
  refine y_aload1 hg dL_law_309 rfl ?_
  refine y_aload0 hg dL_law_310 rfl ?_
  refine y_iload3 hg dL_law_311 rfl ?_
  refine y_ic hg dL_law_312 ic_1 rfl ?_
  refine y_iadd hg dL_law_313 rfl ?_
  refine y_sld hg hX (hv 1 (by decide)) dL_law_314 rfl ?_
  refine y_aload0 hg dL_law_315 rfl ?_
  refine y_iload3 hg dL_law_316 rfl ?_
  refine y_ic hg dL_law_317 ic_2 rfl ?_
  refine y_iadd hg dL_law_318 rfl ?_
  refine y_sld hg hX (hv 2 (by decide)) dL_law_319 rfl ?_
  refine y_call (S := shC) (wx := w) hg hsw rfl rfl (fun _ h => h) (As := [.int (xs (ix (x3 + 1))), .int (xs (ix (x3 + 2)))]) (xB_as (w := w) (gL g) (eq_as hR)) kC_0 (by decide) rfl im_X7_as se_X7_as mi_X7_as ml_L_27 rfl rfl hk1 hk2 rfl rfl rfl dL_law_320 rfl (fun r1 σ hR => ?_)
  refine y_swap ?_
  refine y_aload2 hg dL_law_323 rfl ?_
  refine y_aload0 hg dL_law_324 rfl ?_
  refine y_iload3 hg dL_law_325 rfl ?_
  refine y_ic hg dL_law_326 ic_1 rfl ?_
  refine y_iadd hg dL_law_327 rfl ?_
  refine y_sld hg hX (hv 1 (by decide)) dL_law_328 rfl ?_
  refine y_aload0 hg dL_law_329 rfl ?_
  refine y_iload3 hg dL_law_330 rfl ?_
  refine y_ic hg dL_law_331 ic_2 rfl ?_
  refine y_iadd hg dL_law_332 rfl ?_
  refine y_sld hg hX (hv 2 (by decide)) dL_law_333 rfl ?_
  refine y_call (S := shM) (wx := wm) hg hsm hd1 hd2 hd3 (As := [.int (xs (ix (x3 + 1))), .int (xs (ix (x3 + 2)))]) (xM_as (w := wm) (gL g) hR) kM_0 (by decide) rfl im_X8_as se_X8_as mi_X8_as ml_L_30 rfl rfl hk1 hk2 rfl rfl rfl dL_law_334 rfl (fun r2 τ hR => ?_)
  refine y_swap ?_
  exact y_eqT hg dL_law_337 (tg := 1344) (by decide) hR.1 (hback _ _ hR.2)
set_option maxRecDepth 100000 in
set_option maxHeartbeats 4000000 in
theorem lc_4 {w wm : Wc} {A : Nat → Prop} {g : Gx} {Q : State → Prop} (hg : OY w A g 2000 600000 7302250 cL_law "BagBottomLaw" 4) (hsw : YS A w g) (hsm : YS A wm g) (hd1 : dG wm = dG w) (hd2 : tys wm = tys w) (hd3 : ∀ s, SR w s → SR wm s) {b L : Nat} {xs : Nat → Int32} (hX : YX A g b L xs) {x3 : Int32} {k n : Nat} (hk1 : Nat.ble k 600000 = true) (hk2 : Nat.ble n 7302250 = true) (hv : ∀ c : Int32, c ∈ [(1 : Int32), 2, 3, 4, 5] → vp_in (x3 + c) L) {σ τ : Sg} (hR : Rel σ τ) (hback : ∀ σ τ, Rel σ τ → Y w A g Q 1344 [some (.ref b), some (.ref (ad w 0)), some (.ref (ad wm 0)), some (.int x3)] [] k n (wsL shC w σ ++ wsL shM wm τ)) : Y w A g Q 342 [some (.ref b), some (.ref (ad w 0)), some (.ref (ad wm 0)), some (.int x3)] [] k n (wsL shC w σ ++ wsL shM wm τ) := by
  refine y_aload1 hg dL_law_342 rfl ?_
  refine y_aload0 hg dL_law_343 rfl ?_
  refine y_iload3 hg dL_law_344 rfl ?_
  refine y_ic hg dL_law_345 ic_1 rfl ?_
  refine y_iadd hg dL_law_346 rfl ?_
  refine y_sld hg hX (hv 1 (by decide)) dL_law_347 rfl ?_
  refine y_aload0 hg dL_law_348 rfl ?_
  refine y_iload3 hg dL_law_349 rfl ?_
  refine y_ic hg dL_law_350 ic_2 rfl ?_
  refine y_iadd hg dL_law_351 rfl ?_
  refine y_sld hg hX (hv 2 (by decide)) dL_law_352 rfl ?_
  refine y_call (S := shC) (wx := w) hg hsw rfl rfl (fun _ h => h) (As := [.int (xs (ix (x3 + 1))), .int (xs (ix (x3 + 2)))]) (xB_weigh (w := w) (gL g) (eq_weigh hR)) kC_0 (by decide) rfl im_X7_weigh se_X7_weigh mi_X7_weigh ml_L_31 rfl rfl hk1 hk2 rfl rfl rfl dL_law_353 rfl (fun r1 σ hR => ?_)
  refine y_swap ?_
  refine y_aload2 hg dL_law_356 rfl ?_
  refine y_aload0 hg dL_law_357 rfl ?_
  refine y_iload3 hg dL_law_358 rfl ?_
  refine y_ic hg dL_law_359 ic_1 rfl ?_
  refine y_iadd hg dL_law_360 rfl ?_
  refine y_sld hg hX (hv 1 (by decide)) dL_law_361 rfl ?_
  refine y_aload0 hg dL_law_362 rfl ?_
  refine y_iload3 hg dL_law_363 rfl ?_
  refine y_ic hg dL_law_364 ic_2 rfl ?_
  refine y_iadd hg dL_law_365 rfl ?_
  refine y_sld hg hX (hv 2 (by decide)) dL_law_366 rfl ?_
  refine y_call (S := shM) (wx := wm) hg hsm hd1 hd2 hd3 (As := [.int (xs (ix (x3 + 1))), .int (xs (ix (x3 + 2)))]) (xM_weigh (w := wm) (gL g) hR) kM_0 (by decide) rfl im_X8_weigh se_X8_weigh mi_X8_weigh ml_L_34 rfl rfl hk1 hk2 rfl rfl rfl dL_law_367 rfl (fun r2 τ hR => ?_)
  refine y_swap ?_
  exact y_eqT hg dL_law_370 (tg := 1344) (by decide) hR.1 (hback _ _ hR.2)
set_option maxRecDepth 100000 in
set_option maxHeartbeats 4000000 in
theorem lc_5 {w wm : Wc} {A : Nat → Prop} {g : Gx} {Q : State → Prop} (hg : OY w A g 2000 600000 7302250 cL_law "BagBottomLaw" 4) (hsw : YS A w g) (hsm : YS A wm g) (hd1 : dG wm = dG w) (hd2 : tys wm = tys w) (hd3 : ∀ s, SR w s → SR wm s) {b L : Nat} {xs : Nat → Int32} (hX : YX A g b L xs) {x3 : Int32} {k n : Nat} (hk1 : Nat.ble k 600000 = true) (hk2 : Nat.ble n 7302250 = true) (hv : ∀ c : Int32, c ∈ [(1 : Int32), 2, 3, 4, 5] → vp_in (x3 + c) L) {σ τ : Sg} (hR : Rel σ τ) (hback : ∀ σ τ, Rel σ τ → Y w A g Q 1344 [some (.ref b), some (.ref (ad w 0)), some (.ref (ad wm 0)), some (.int x3)] [] k n (wsL shC w σ ++ wsL shM wm τ)) : Y w A g Q 375 [some (.ref b), some (.ref (ad w 0)), some (.ref (ad wm 0)), some (.int x3)] [] k n (wsL shC w σ ++ wsL shM wm τ) := by
  refine y_aload1 hg dL_law_375 rfl ?_
  refine y_aload0 hg dL_law_376 rfl ?_
  refine y_iload3 hg dL_law_377 rfl ?_
  refine y_ic hg dL_law_378 ic_1 rfl ?_
  refine y_iadd hg dL_law_379 rfl ?_
  refine y_sld hg hX (hv 1 (by decide)) dL_law_380 rfl ?_
  refine y_call (S := shC) (wx := w) hg hsw rfl rfl (fun _ h => h) (As := [.int (xs (ix (x3 + 1)))]) (xB_at (w := w) (gL g) (eq_at hR)) kC_0 (by decide) rfl im_X7_at se_X7_at mi_X7_at ml_L_35 rfl rfl hk1 hk2 rfl rfl rfl dL_law_381 rfl (fun r1 σ hR => ?_)
  refine y_swap ?_
  refine y_aload2 hg dL_law_384 rfl ?_
  refine y_aload0 hg dL_law_385 rfl ?_
  refine y_iload3 hg dL_law_386 rfl ?_
  refine y_ic hg dL_law_387 ic_1 rfl ?_
  refine y_iadd hg dL_law_388 rfl ?_
  refine y_sld hg hX (hv 1 (by decide)) dL_law_389 rfl ?_
  refine y_call (S := shM) (wx := wm) hg hsm hd1 hd2 hd3 (As := [.int (xs (ix (x3 + 1)))]) (xM_at (w := wm) (gL g) hR) kM_0 (by decide) rfl im_X8_at se_X8_at mi_X8_at ml_L_39 rfl rfl hk1 hk2 rfl rfl rfl dL_law_390 rfl (fun r2 τ hR => ?_)
  refine y_swap ?_
  exact y_eqT hg dL_law_393 (tg := 1344) (by decide) hR.1 (hback _ _ hR.2)
set_option maxRecDepth 100000 in
set_option maxHeartbeats 4000000 in
theorem lc_6 {w wm : Wc} {A : Nat → Prop} {g : Gx} {Q : State → Prop} (hg : OY w A g 2000 600000 7302250 cL_law "BagBottomLaw" 4) (hsw : YS A w g) (hsm : YS A wm g) (hd1 : dG wm = dG w) (hd2 : tys wm = tys w) (hd3 : ∀ s, SR w s → SR wm s) {b L : Nat} {xs : Nat → Int32} (hX : YX A g b L xs) {x3 : Int32} {k n : Nat} (hk1 : Nat.ble k 600000 = true) (hk2 : Nat.ble n 7302250 = true) (hv : ∀ c : Int32, c ∈ [(1 : Int32), 2, 3, 4, 5] → vp_in (x3 + c) L) {σ τ : Sg} (hR : Rel σ τ) (hback : ∀ σ τ, Rel σ τ → Y w A g Q 1344 [some (.ref b), some (.ref (ad w 0)), some (.ref (ad wm 0)), some (.int x3)] [] k n (wsL shC w σ ++ wsL shM wm τ)) : Y w A g Q 398 [some (.ref b), some (.ref (ad w 0)), some (.ref (ad wm 0)), some (.int x3)] [] k n (wsL shC w σ ++ wsL shM wm τ) := by
  refine y_aload1 hg dL_law_398 rfl ?_
  refine y_aload0 hg dL_law_399 rfl ?_
  refine y_iload3 hg dL_law_400 rfl ?_
  refine y_ic hg dL_law_401 ic_1 rfl ?_
  refine y_iadd hg dL_law_402 rfl ?_
  refine y_sld hg hX (hv 1 (by decide)) dL_law_403 rfl ?_
  refine y_call (S := shC) (wx := w) hg hsw rfl rfl (fun _ h => h) (As := [.int (xs (ix (x3 + 1)))]) (xB_leave (w := w) (gL g) (eq_leave hR)) kC_0 (by decide) rfl im_X7_leave se_X7_leave mi_X7_leave ml_L_40 rfl rfl hk1 hk2 rfl rfl rfl dL_law_404 rfl (fun r1 σ hR => ?_)
  refine y_swap ?_
  refine y_aload2 hg dL_law_407 rfl ?_
  refine y_aload0 hg dL_law_408 rfl ?_
  refine y_iload3 hg dL_law_409 rfl ?_
  refine y_ic hg dL_law_410 ic_1 rfl ?_
  refine y_iadd hg dL_law_411 rfl ?_
  refine y_sld hg hX (hv 1 (by decide)) dL_law_412 rfl ?_
  refine y_call (S := shM) (wx := wm) hg hsm hd1 hd2 hd3 (As := [.int (xs (ix (x3 + 1)))]) (xM_leave (w := wm) (gL g) hR) kM_0 (by decide) rfl im_X8_leave se_X8_leave mi_X8_leave ml_L_43 rfl rfl hk1 hk2 rfl rfl rfl dL_law_413 rfl (fun r2 τ hR => ?_)
  refine y_swap ?_
  exact y_eqT hg dL_law_416 (tg := 1344) (by decide) hR.1 (hback _ _ hR.2)
set_option maxRecDepth 100000 in
set_option maxHeartbeats 4000000 in
theorem lc_7 {w wm : Wc} {A : Nat → Prop} {g : Gx} {Q : State → Prop} (hg : OY w A g 2000 600000 7302250 cL_law "BagBottomLaw" 4) (hsw : YS A w g) (hsm : YS A wm g) (hd1 : dG wm = dG w) (hd2 : tys wm = tys w) (hd3 : ∀ s, SR w s → SR wm s) {b L : Nat} {xs : Nat → Int32} (hX : YX A g b L xs) {x3 : Int32} {k n : Nat} (hk1 : Nat.ble k 600000 = true) (hk2 : Nat.ble n 7302250 = true) (hv : ∀ c : Int32, c ∈ [(1 : Int32), 2, 3, 4, 5] → vp_in (x3 + c) L) {σ τ : Sg} (hR : Rel σ τ) (hback : ∀ σ τ, Rel σ τ → Y w A g Q 1344 [some (.ref b), some (.ref (ad w 0)), some (.ref (ad wm 0)), some (.int x3)] [] k n (wsL shC w σ ++ wsL shM wm τ)) : Y w A g Q 421 [some (.ref b), some (.ref (ad w 0)), some (.ref (ad wm 0)), some (.int x3)] [] k n (wsL shC w σ ++ wsL shM wm τ) := by
  refine y_aload1 hg dL_law_421 rfl ?_
  refine y_aload0 hg dL_law_422 rfl ?_
  refine y_iload3 hg dL_law_423 rfl ?_
  refine y_ic hg dL_law_424 ic_1 rfl ?_
  refine y_iadd hg dL_law_425 rfl ?_
  refine y_sld hg hX (hv 1 (by decide)) dL_law_426 rfl ?_
  refine y_call (S := shC) (wx := w) hg hsw rfl rfl (fun _ h => h) (As := [.int (xs (ix (x3 + 1)))]) (xB_stow (w := w) (gL g) (eq_stow hR)) kC_0 (by decide) rfl im_X7_stow se_X7_stow mi_X7_stow ml_L_44 rfl rfl hk1 hk2 rfl rfl rfl dL_law_427 rfl (fun r1 σ hR => ?_)
  refine y_swap ?_
  refine y_aload2 hg dL_law_430 rfl ?_
  refine y_aload0 hg dL_law_431 rfl ?_
  refine y_iload3 hg dL_law_432 rfl ?_
  refine y_ic hg dL_law_433 ic_1 rfl ?_
  refine y_iadd hg dL_law_434 rfl ?_
  refine y_sld hg hX (hv 1 (by decide)) dL_law_435 rfl ?_
  refine y_call (S := shM) (wx := wm) hg hsm hd1 hd2 hd3 (As := [.int (xs (ix (x3 + 1)))]) (xM_stow (w := wm) (gL g) hR) kM_0 (by decide) rfl im_X8_stow se_X8_stow mi_X8_stow ml_L_47 rfl rfl hk1 hk2 rfl rfl rfl dL_law_436 rfl (fun r2 τ hR => ?_)
  refine y_swap ?_
  exact y_eqT hg dL_law_439 (tg := 1344) (by decide) hR.1 (hback _ _ hR.2)
set_option maxRecDepth 100000 in
set_option maxHeartbeats 4000000 in
theorem lc_8 {w wm : Wc} {A : Nat → Prop} {g : Gx} {Q : State → Prop} (hg : OY w A g 2000 600000 7302250 cL_law "BagBottomLaw" 4) (hsw : YS A w g) (hsm : YS A wm g) (hd1 : dG wm = dG w) (hd2 : tys wm = tys w) (hd3 : ∀ s, SR w s → SR wm s) {b L : Nat} {xs : Nat → Int32} (hX : YX A g b L xs) {x3 : Int32} {k n : Nat} (hk1 : Nat.ble k 600000 = true) (hk2 : Nat.ble n 7302250 = true) (hv : ∀ c : Int32, c ∈ [(1 : Int32), 2, 3, 4, 5] → vp_in (x3 + c) L) {σ τ : Sg} (hR : Rel σ τ) (hback : ∀ σ τ, Rel σ τ → Y w A g Q 1344 [some (.ref b), some (.ref (ad w 0)), some (.ref (ad wm 0)), some (.int x3)] [] k n (wsL shC w σ ++ wsL shM wm τ)) : Y w A g Q 444 [some (.ref b), some (.ref (ad w 0)), some (.ref (ad wm 0)), some (.int x3)] [] k n (wsL shC w σ ++ wsL shM wm τ) := by
  refine y_aload1 hg dL_law_444 rfl ?_
  refine y_aload0 hg dL_law_445 rfl ?_
  refine y_iload3 hg dL_law_446 rfl ?_
  refine y_ic hg dL_law_447 ic_1 rfl ?_
  refine y_iadd hg dL_law_448 rfl ?_
  refine y_sld hg hX (hv 1 (by decide)) dL_law_449 rfl ?_
  refine y_call (S := shC) (wx := w) hg hsw rfl rfl (fun _ h => h) (As := [.int (xs (ix (x3 + 1)))]) (xB_zip (w := w) (gL g) (eq_zip hR)) kC_0 (by decide) rfl im_X7_zip se_X7_zip mi_X7_zip ml_L_48 rfl rfl hk1 hk2 rfl rfl rfl dL_law_450 rfl (fun r1 σ hR => ?_)
  refine y_swap ?_
  refine y_aload2 hg dL_law_453 rfl ?_
  refine y_aload0 hg dL_law_454 rfl ?_
  refine y_iload3 hg dL_law_455 rfl ?_
  refine y_ic hg dL_law_456 ic_1 rfl ?_
  refine y_iadd hg dL_law_457 rfl ?_
  refine y_sld hg hX (hv 1 (by decide)) dL_law_458 rfl ?_
  refine y_call (S := shM) (wx := wm) hg hsm hd1 hd2 hd3 (As := [.int (xs (ix (x3 + 1)))]) (xM_zip (w := wm) (gL g) hR) kM_0 (by decide) rfl im_X8_zip se_X8_zip mi_X8_zip ml_L_51 rfl rfl hk1 hk2 rfl rfl rfl dL_law_459 rfl (fun r2 τ hR => ?_)
  refine y_swap ?_
  exact y_eqT hg dL_law_462 (tg := 1344) (by decide) hR.1 (hback _ _ hR.2)
set_option maxRecDepth 100000 in
set_option maxHeartbeats 4000000 in
theorem lc_9 {w wm : Wc} {A : Nat → Prop} {g : Gx} {Q : State → Prop} (hg : OY w A g 2000 600000 7302250 cL_law "BagBottomLaw" 4) (hsw : YS A w g) (hsm : YS A wm g) (hd1 : dG wm = dG w) (hd2 : tys wm = tys w) (hd3 : ∀ s, SR w s → SR wm s) {b L : Nat} {xs : Nat → Int32} (hX : YX A g b L xs) {x3 : Int32} {k n : Nat} (hk1 : Nat.ble k 600000 = true) (hk2 : Nat.ble n 7302250 = true) (hv : ∀ c : Int32, c ∈ [(1 : Int32), 2, 3, 4, 5] → vp_in (x3 + c) L) {σ τ : Sg} (hR : Rel σ τ) (hback : ∀ σ τ, Rel σ τ → Y w A g Q 1344 [some (.ref b), some (.ref (ad w 0)), some (.ref (ad wm 0)), some (.int x3)] [] k n (wsL shC w σ ++ wsL shM wm τ)) : Y w A g Q 467 [some (.ref b), some (.ref (ad w 0)), some (.ref (ad wm 0)), some (.int x3)] [] k n (wsL shC w σ ++ wsL shM wm τ) := by
  refine y_aload1 hg dL_law_467 rfl ?_
  refine y_aload0 hg dL_law_468 rfl ?_
  refine y_iload3 hg dL_law_469 rfl ?_
  refine y_ic hg dL_law_470 ic_1 rfl ?_
  refine y_iadd hg dL_law_471 rfl ?_
  refine y_sld hg hX (hv 1 (by decide)) dL_law_472 rfl ?_
  refine y_i2l hg dL_law_473 rfl ?_
  refine y_bi hg dL_law_474 (v := 32) (by decide) rfl ?_
  refine y_lshl hg dL_law_476 rfl ?_
  refine y_aload0 hg dL_law_477 rfl ?_
  refine y_iload3 hg dL_law_478 rfl ?_
  refine y_ic hg dL_law_479 ic_2 rfl ?_
  refine y_iadd hg dL_law_480 rfl ?_
  refine y_sld hg hX (hv 2 (by decide)) dL_law_481 rfl ?_
  refine y_i2l hg dL_law_482 rfl ?_
  refine y_ldc2 hg kl_L_52 dL_law_483 rfl ?_
  refine y_land hg dL_law_486 rfl ?_
  refine y_lor hg dL_law_487 rfl ?_
  refine y_aload0 hg dL_law_488 rfl ?_
  refine y_iload3 hg dL_law_489 rfl ?_
  refine y_ic hg dL_law_490 ic_3 rfl ?_
  refine y_iadd hg dL_law_491 rfl ?_
  refine y_sld hg hX (hv 3 (by decide)) dL_law_492 rfl ?_
  refine y_call (S := shC) (wx := w) hg hsw rfl rfl (fun _ h => h) (As := [.long ((Int32.toInt64 (xs (ix (x3 + 1))) <<< ((32 : Int32).toInt64 &&& 63)) ||| (Int32.toInt64 (xs (ix (x3 + 2))) &&& 4294967295)), .int (xs (ix (x3 + 3)))]) (xB_feed (w := w) (gL g) (eq_feed hR)) kC_0 (by decide) rfl im_X7_feed se_X7_feed mi_X7_feed ml_L_54 rfl rfl hk1 hk2 rfl rfl rfl dL_law_493 rfl (fun r1 σ hR => ?_)
  refine y_swap ?_
  refine y_aload2 hg dL_law_496 rfl ?_
  refine y_aload0 hg dL_law_497 rfl ?_
  refine y_iload3 hg dL_law_498 rfl ?_
  refine y_ic hg dL_law_499 ic_1 rfl ?_
  refine y_iadd hg dL_law_500 rfl ?_
  refine y_sld hg hX (hv 1 (by decide)) dL_law_501 rfl ?_
  refine y_i2l hg dL_law_502 rfl ?_
  refine y_bi hg dL_law_503 (v := 32) (by decide) rfl ?_
  refine y_lshl hg dL_law_505 rfl ?_
  refine y_aload0 hg dL_law_506 rfl ?_
  refine y_iload3 hg dL_law_507 rfl ?_
  refine y_ic hg dL_law_508 ic_2 rfl ?_
  refine y_iadd hg dL_law_509 rfl ?_
  refine y_sld hg hX (hv 2 (by decide)) dL_law_510 rfl ?_
  refine y_i2l hg dL_law_511 rfl ?_
  refine y_ldc2 hg kl_L_52 dL_law_512 rfl ?_
  refine y_land hg dL_law_515 rfl ?_
  refine y_lor hg dL_law_516 rfl ?_
  refine y_aload0 hg dL_law_517 rfl ?_
  refine y_iload3 hg dL_law_518 rfl ?_
  refine y_ic hg dL_law_519 ic_3 rfl ?_
  refine y_iadd hg dL_law_520 rfl ?_
  refine y_sld hg hX (hv 3 (by decide)) dL_law_521 rfl ?_
  refine y_call (S := shM) (wx := wm) hg hsm hd1 hd2 hd3 (As := [.long ((Int32.toInt64 (xs (ix (x3 + 1))) <<< ((32 : Int32).toInt64 &&& 63)) ||| (Int32.toInt64 (xs (ix (x3 + 2))) &&& 4294967295)), .int (xs (ix (x3 + 3)))]) (xM_feed (w := wm) (gL g) hR) kM_0 (by decide) rfl im_X8_feed se_X8_feed mi_X8_feed ml_L_58 rfl rfl hk1 hk2 rfl rfl rfl dL_law_522 rfl (fun r2 τ hR => ?_)
  refine y_swap ?_
  exact y_eqT hg dL_law_525 (tg := 1344) (by decide) hR.1 (hback _ _ hR.2)
set_option maxRecDepth 100000 in
set_option maxHeartbeats 4000000 in
theorem lc_10 {w wm : Wc} {A : Nat → Prop} {g : Gx} {Q : State → Prop} (hg : OY w A g 2000 600000 7302250 cL_law "BagBottomLaw" 4) (hsw : YS A w g) (hsm : YS A wm g) (hd1 : dG wm = dG w) (hd2 : tys wm = tys w) (hd3 : ∀ s, SR w s → SR wm s) {b L : Nat} {xs : Nat → Int32} (hX : YX A g b L xs) {x3 : Int32} {k n : Nat} (hk1 : Nat.ble k 600000 = true) (hk2 : Nat.ble n 7302250 = true) (hv : ∀ c : Int32, c ∈ [(1 : Int32), 2, 3, 4, 5] → vp_in (x3 + c) L) {σ τ : Sg} (hR : Rel σ τ) (hback : ∀ σ τ, Rel σ τ → Y w A g Q 1344 [some (.ref b), some (.ref (ad w 0)), some (.ref (ad wm 0)), some (.int x3)] [] k n (wsL shC w σ ++ wsL shM wm τ)) : Y w A g Q 530 [some (.ref b), some (.ref (ad w 0)), some (.ref (ad wm 0)), some (.int x3)] [] k n (wsL shC w σ ++ wsL shM wm τ) := by
  refine y_aload1 hg dL_law_530 rfl ?_
  refine y_aload0 hg dL_law_531 rfl ?_
  refine y_iload3 hg dL_law_532 rfl ?_
  refine y_ic hg dL_law_533 ic_1 rfl ?_
  refine y_iadd hg dL_law_534 rfl ?_
  refine y_sld hg hX (hv 1 (by decide)) dL_law_535 rfl ?_
  refine y_call (S := shC) (wx := w) hg hsw rfl rfl (fun _ h => h) (As := [.int (xs (ix (x3 + 1)))]) (xB_text (w := w) (gL g) (eq_text hR)) kC_0 (by decide) rfl im_X7_text se_X7_text mi_X7_text ml_L_59 rfl rfl hk1 hk2 rfl rfl rfl dL_law_536 rfl (fun r1 σ hR => ?_)
  refine y_swap ?_
  refine y_aload2 hg dL_law_539 rfl ?_
  refine y_aload0 hg dL_law_540 rfl ?_
  refine y_iload3 hg dL_law_541 rfl ?_
  refine y_ic hg dL_law_542 ic_1 rfl ?_
  refine y_iadd hg dL_law_543 rfl ?_
  refine y_sld hg hX (hv 1 (by decide)) dL_law_544 rfl ?_
  refine y_call (S := shM) (wx := wm) hg hsm hd1 hd2 hd3 (As := [.int (xs (ix (x3 + 1)))]) (xM_text (w := wm) (gL g) hR) kM_0 (by decide) rfl im_X8_text se_X8_text mi_X8_text ml_L_62 rfl rfl hk1 hk2 rfl rfl rfl dL_law_545 rfl (fun r2 τ hR => ?_)
  refine y_swap ?_
  exact y_eqT hg dL_law_548 (tg := 1344) (by decide) hR.1 (hback _ _ hR.2)
set_option maxRecDepth 100000 in
set_option maxHeartbeats 4000000 in
theorem lc_11 {w wm : Wc} {A : Nat → Prop} {g : Gx} {Q : State → Prop} (hg : OY w A g 2000 600000 7302250 cL_law "BagBottomLaw" 4) (hsw : YS A w g) (hsm : YS A wm g) (hd1 : dG wm = dG w) (hd2 : tys wm = tys w) (hd3 : ∀ s, SR w s → SR wm s) {b L : Nat} {xs : Nat → Int32} (hX : YX A g b L xs) {x3 : Int32} {k n : Nat} (hk1 : Nat.ble k 600000 = true) (hk2 : Nat.ble n 7302250 = true) (hv : ∀ c : Int32, c ∈ [(1 : Int32), 2, 3, 4, 5] → vp_in (x3 + c) L) {σ τ : Sg} (hR : Rel σ τ) (hback : ∀ σ τ, Rel σ τ → Y w A g Q 1344 [some (.ref b), some (.ref (ad w 0)), some (.ref (ad wm 0)), some (.int x3)] [] k n (wsL shC w σ ++ wsL shM wm τ)) : Y w A g Q 553 [some (.ref b), some (.ref (ad w 0)), some (.ref (ad wm 0)), some (.int x3)] [] k n (wsL shC w σ ++ wsL shM wm τ) := by
  refine y_aload1 hg dL_law_553 rfl ?_
  refine y_aload0 hg dL_law_554 rfl ?_
  refine y_iload3 hg dL_law_555 rfl ?_
  refine y_ic hg dL_law_556 ic_1 rfl ?_
  refine y_iadd hg dL_law_557 rfl ?_
  refine y_sld hg hX (hv 1 (by decide)) dL_law_558 rfl ?_
  refine y_call (S := shC) (wx := w) hg hsw rfl rfl (fun _ h => h) (As := [.int (xs (ix (x3 + 1)))]) (xB_untell (w := w) (gL g) (eq_untell hR)) kC_0 (by decide) rfl im_X7_untell se_X7_untell mi_X7_untell ml_L_63 rfl rfl hk1 hk2 rfl rfl rfl dL_law_559 rfl (fun r1 σ hR => ?_)
  refine y_swap ?_
  refine y_aload2 hg dL_law_562 rfl ?_
  refine y_aload0 hg dL_law_563 rfl ?_
  refine y_iload3 hg dL_law_564 rfl ?_
  refine y_ic hg dL_law_565 ic_1 rfl ?_
  refine y_iadd hg dL_law_566 rfl ?_
  refine y_sld hg hX (hv 1 (by decide)) dL_law_567 rfl ?_
  refine y_call (S := shM) (wx := wm) hg hsm hd1 hd2 hd3 (As := [.int (xs (ix (x3 + 1)))]) (xM_untell (w := wm) (gL g) hR) kM_0 (by decide) rfl im_X8_untell se_X8_untell mi_X8_untell ml_L_66 rfl rfl hk1 hk2 rfl rfl rfl dL_law_568 rfl (fun r2 τ hR => ?_)
  refine y_swap ?_
  exact y_eqT hg dL_law_571 (tg := 1344) (by decide) hR.1 (hback _ _ hR.2)
set_option maxRecDepth 100000 in
set_option maxHeartbeats 4000000 in
theorem lc_12 {w wm : Wc} {A : Nat → Prop} {g : Gx} {Q : State → Prop} (hg : OY w A g 2000 600000 7302250 cL_law "BagBottomLaw" 4) (hsw : YS A w g) (hsm : YS A wm g) (hd1 : dG wm = dG w) (hd2 : tys wm = tys w) (hd3 : ∀ s, SR w s → SR wm s) {b L : Nat} {xs : Nat → Int32} (hX : YX A g b L xs) {x3 : Int32} {k n : Nat} (hk1 : Nat.ble k 600000 = true) (hk2 : Nat.ble n 7302250 = true) (hv : ∀ c : Int32, c ∈ [(1 : Int32), 2, 3, 4, 5] → vp_in (x3 + c) L) {σ τ : Sg} (hR : Rel σ τ) (hback : ∀ σ τ, Rel σ τ → Y w A g Q 1344 [some (.ref b), some (.ref (ad w 0)), some (.ref (ad wm 0)), some (.int x3)] [] k n (wsL shC w σ ++ wsL shM wm τ)) : Y w A g Q 576 [some (.ref b), some (.ref (ad w 0)), some (.ref (ad wm 0)), some (.int x3)] [] k n (wsL shC w σ ++ wsL shM wm τ) := by
  refine y_aload1 hg dL_law_576 rfl ?_
  refine y_aload0 hg dL_law_577 rfl ?_
  refine y_iload3 hg dL_law_578 rfl ?_
  refine y_ic hg dL_law_579 ic_1 rfl ?_
  refine y_iadd hg dL_law_580 rfl ?_
  refine y_sld hg hX (hv 1 (by decide)) dL_law_581 rfl ?_
  refine y_aload0 hg dL_law_582 rfl ?_
  refine y_iload3 hg dL_law_583 rfl ?_
  refine y_ic hg dL_law_584 ic_2 rfl ?_
  refine y_iadd hg dL_law_585 rfl ?_
  refine y_sld hg hX (hv 2 (by decide)) dL_law_586 rfl ?_
  refine y_aload0 hg dL_law_587 rfl ?_
  refine y_iload3 hg dL_law_588 rfl ?_
  refine y_ic hg dL_law_589 ic_3 rfl ?_
  refine y_iadd hg dL_law_590 rfl ?_
  refine y_sld hg hX (hv 3 (by decide)) dL_law_591 rfl ?_
  refine y_aload0 hg dL_law_592 rfl ?_
  refine y_iload3 hg dL_law_593 rfl ?_
  refine y_ic hg dL_law_594 ic_4 rfl ?_
  refine y_iadd hg dL_law_595 rfl ?_
  refine y_sld hg hX (hv 4 (by decide)) dL_law_596 rfl ?_
  refine y_call (S := shC) (wx := w) hg hsw rfl rfl (fun _ h => h) (As := [.int (xs (ix (x3 + 1))), .int (xs (ix (x3 + 2))), .int (xs (ix (x3 + 3))), .int (xs (ix (x3 + 4)))]) (xB_law (w := w) (gL g) (eq_law hR)) kC_0 (by decide) rfl im_X7_law se_X7_law mi_X7_law ml_L_67 rfl rfl hk1 hk2 rfl rfl rfl dL_law_597 rfl (fun r1 σ hR => ?_)
  refine y_swap ?_
  refine y_aload2 hg dL_law_600 rfl ?_
  refine y_aload0 hg dL_law_601 rfl ?_
  refine y_iload3 hg dL_law_602 rfl ?_
  refine y_ic hg dL_law_603 ic_1 rfl ?_
  refine y_iadd hg dL_law_604 rfl ?_
  refine y_sld hg hX (hv 1 (by decide)) dL_law_605 rfl ?_
  refine y_aload0 hg dL_law_606 rfl ?_
  refine y_iload3 hg dL_law_607 rfl ?_
  refine y_ic hg dL_law_608 ic_2 rfl ?_
  refine y_iadd hg dL_law_609 rfl ?_
  refine y_sld hg hX (hv 2 (by decide)) dL_law_610 rfl ?_
  refine y_aload0 hg dL_law_611 rfl ?_
  refine y_iload3 hg dL_law_612 rfl ?_
  refine y_ic hg dL_law_613 ic_3 rfl ?_
  refine y_iadd hg dL_law_614 rfl ?_
  refine y_sld hg hX (hv 3 (by decide)) dL_law_615 rfl ?_
  refine y_aload0 hg dL_law_616 rfl ?_
  refine y_iload3 hg dL_law_617 rfl ?_
  refine y_ic hg dL_law_618 ic_4 rfl ?_
  refine y_iadd hg dL_law_619 rfl ?_
  refine y_sld hg hX (hv 4 (by decide)) dL_law_620 rfl ?_
  refine y_call (S := shM) (wx := wm) hg hsm hd1 hd2 hd3 (As := [.int (xs (ix (x3 + 1))), .int (xs (ix (x3 + 2))), .int (xs (ix (x3 + 3))), .int (xs (ix (x3 + 4)))]) (xM_law (w := wm) (gL g) hR) kM_0 (by decide) rfl im_X8_law se_X8_law mi_X8_law ml_L_71 rfl rfl hk1 hk2 rfl rfl rfl dL_law_621 rfl (fun r2 τ hR => ?_)
  refine y_swap ?_
  exact y_eqT hg dL_law_624 (tg := 1344) (by decide) hR.1 (hback _ _ hR.2)
set_option maxRecDepth 100000 in
set_option maxHeartbeats 4000000 in
theorem lc_13 {w wm : Wc} {A : Nat → Prop} {g : Gx} {Q : State → Prop} (hg : OY w A g 2000 600000 7302250 cL_law "BagBottomLaw" 4) (hsw : YS A w g) (hsm : YS A wm g) (hd1 : dG wm = dG w) (hd2 : tys wm = tys w) (hd3 : ∀ s, SR w s → SR wm s) {b L : Nat} {xs : Nat → Int32} (hX : YX A g b L xs) {x3 : Int32} {k n : Nat} (hk1 : Nat.ble k 600000 = true) (hk2 : Nat.ble n 7302250 = true) (hv : ∀ c : Int32, c ∈ [(1 : Int32), 2, 3, 4, 5] → vp_in (x3 + c) L) {σ τ : Sg} (hR : Rel σ τ) (hback : ∀ σ τ, Rel σ τ → Y w A g Q 1344 [some (.ref b), some (.ref (ad w 0)), some (.ref (ad wm 0)), some (.int x3)] [] k n (wsL shC w σ ++ wsL shM wm τ)) : Y w A g Q 629 [some (.ref b), some (.ref (ad w 0)), some (.ref (ad wm 0)), some (.int x3)] [] k n (wsL shC w σ ++ wsL shM wm τ) := by
  refine y_aload1 hg dL_law_629 rfl ?_
  refine y_aload0 hg dL_law_630 rfl ?_
  refine y_iload3 hg dL_law_631 rfl ?_
  refine y_ic hg dL_law_632 ic_1 rfl ?_
  refine y_iadd hg dL_law_633 rfl ?_
  refine y_sld hg hX (hv 1 (by decide)) dL_law_634 rfl ?_
  refine y_aload0 hg dL_law_635 rfl ?_
  refine y_iload3 hg dL_law_636 rfl ?_
  refine y_ic hg dL_law_637 ic_2 rfl ?_
  refine y_iadd hg dL_law_638 rfl ?_
  refine y_sld hg hX (hv 2 (by decide)) dL_law_639 rfl ?_
  refine y_call (S := shC) (wx := w) hg hsw rfl rfl (fun _ h => h) (As := [.int (xs (ix (x3 + 1))), .int (xs (ix (x3 + 2)))]) (xB_seconds (w := w) (gL g) (eq_seconds hR)) kC_0 (by decide) rfl im_X7_seconds se_X7_seconds mi_X7_seconds ml_L_72 rfl rfl hk1 hk2 rfl rfl rfl dL_law_640 rfl (fun r1 σ hR => ?_)
  refine y_swap ?_
  refine y_aload2 hg dL_law_643 rfl ?_
  refine y_aload0 hg dL_law_644 rfl ?_
  refine y_iload3 hg dL_law_645 rfl ?_
  refine y_ic hg dL_law_646 ic_1 rfl ?_
  refine y_iadd hg dL_law_647 rfl ?_
  refine y_sld hg hX (hv 1 (by decide)) dL_law_648 rfl ?_
  refine y_aload0 hg dL_law_649 rfl ?_
  refine y_iload3 hg dL_law_650 rfl ?_
  refine y_ic hg dL_law_651 ic_2 rfl ?_
  refine y_iadd hg dL_law_652 rfl ?_
  refine y_sld hg hX (hv 2 (by decide)) dL_law_653 rfl ?_
  refine y_call (S := shM) (wx := wm) hg hsm hd1 hd2 hd3 (As := [.int (xs (ix (x3 + 1))), .int (xs (ix (x3 + 2)))]) (xM_seconds (w := wm) (gL g) hR) kM_0 (by decide) rfl im_X8_seconds se_X8_seconds mi_X8_seconds ml_L_75 rfl rfl hk1 hk2 rfl rfl rfl dL_law_654 rfl (fun r2 τ hR => ?_)
  refine y_swap ?_
  exact y_eqT hg dL_law_657 (tg := 1344) (by decide) hR.1 (hback _ _ hR.2)
set_option maxRecDepth 100000 in
set_option maxHeartbeats 4000000 in
theorem lc_14 {w wm : Wc} {A : Nat → Prop} {g : Gx} {Q : State → Prop} (hg : OY w A g 2000 600000 7302250 cL_law "BagBottomLaw" 4) (hsw : YS A w g) (hsm : YS A wm g) (hd1 : dG wm = dG w) (hd2 : tys wm = tys w) (hd3 : ∀ s, SR w s → SR wm s) {b L : Nat} {xs : Nat → Int32} (hX : YX A g b L xs) {x3 : Int32} {k n : Nat} (hk1 : Nat.ble k 600000 = true) (hk2 : Nat.ble n 7302250 = true) (hv : ∀ c : Int32, c ∈ [(1 : Int32), 2, 3, 4, 5] → vp_in (x3 + c) L) {σ τ : Sg} (hR : Rel σ τ) (hback : ∀ σ τ, Rel σ τ → Y w A g Q 1344 [some (.ref b), some (.ref (ad w 0)), some (.ref (ad wm 0)), some (.int x3)] [] k n (wsL shC w σ ++ wsL shM wm τ)) : Y w A g Q 662 [some (.ref b), some (.ref (ad w 0)), some (.ref (ad wm 0)), some (.int x3)] [] k n (wsL shC w σ ++ wsL shM wm τ) := by
  refine y_aload1 hg dL_law_662 rfl ?_
  refine y_aload0 hg dL_law_663 rfl ?_
  refine y_iload3 hg dL_law_664 rfl ?_
  refine y_ic hg dL_law_665 ic_1 rfl ?_
  refine y_iadd hg dL_law_666 rfl ?_
  refine y_sld hg hX (hv 1 (by decide)) dL_law_667 rfl ?_
  refine y_aload0 hg dL_law_668 rfl ?_
  refine y_iload3 hg dL_law_669 rfl ?_
  refine y_ic hg dL_law_670 ic_2 rfl ?_
  refine y_iadd hg dL_law_671 rfl ?_
  refine y_sld hg hX (hv 2 (by decide)) dL_law_672 rfl ?_
  refine y_call (S := shC) (wx := w) hg hsw rfl rfl (fun _ h => h) (As := [.int (xs (ix (x3 + 1))), .int (xs (ix (x3 + 2)))]) (xB_best (w := w) (gL g) (eq_best hR)) kC_0 (by decide) rfl im_X7_best se_X7_best mi_X7_best ml_L_76 rfl rfl hk1 hk2 rfl rfl rfl dL_law_673 rfl (fun r1 σ hR => ?_)
  refine y_swap ?_
  refine y_aload2 hg dL_law_676 rfl ?_
  refine y_aload0 hg dL_law_677 rfl ?_
  refine y_iload3 hg dL_law_678 rfl ?_
  refine y_ic hg dL_law_679 ic_1 rfl ?_
  refine y_iadd hg dL_law_680 rfl ?_
  refine y_sld hg hX (hv 1 (by decide)) dL_law_681 rfl ?_
  refine y_aload0 hg dL_law_682 rfl ?_
  refine y_iload3 hg dL_law_683 rfl ?_
  refine y_ic hg dL_law_684 ic_2 rfl ?_
  refine y_iadd hg dL_law_685 rfl ?_
  refine y_sld hg hX (hv 2 (by decide)) dL_law_686 rfl ?_
  refine y_call (S := shM) (wx := wm) hg hsm hd1 hd2 hd3 (As := [.int (xs (ix (x3 + 1))), .int (xs (ix (x3 + 2)))]) (xM_best (w := wm) (gL g) hR) kM_0 (by decide) rfl im_X8_best se_X8_best mi_X8_best ml_L_79 rfl rfl hk1 hk2 rfl rfl rfl dL_law_687 rfl (fun r2 τ hR => ?_)
  refine y_swap ?_
  exact y_eqT hg dL_law_690 (tg := 1344) (by decide) hR.1 (hback _ _ hR.2)
set_option maxRecDepth 100000 in
set_option maxHeartbeats 4000000 in
theorem lc_15 {w wm : Wc} {A : Nat → Prop} {g : Gx} {Q : State → Prop} (hg : OY w A g 2000 600000 7302250 cL_law "BagBottomLaw" 4) (hsw : YS A w g) (hsm : YS A wm g) (hd1 : dG wm = dG w) (hd2 : tys wm = tys w) (hd3 : ∀ s, SR w s → SR wm s) {b L : Nat} {xs : Nat → Int32} (hX : YX A g b L xs) {x3 : Int32} {k n : Nat} (hk1 : Nat.ble k 600000 = true) (hk2 : Nat.ble n 7302250 = true) (hv : ∀ c : Int32, c ∈ [(1 : Int32), 2, 3, 4, 5] → vp_in (x3 + c) L) {σ τ : Sg} (hR : Rel σ τ) (hback : ∀ σ τ, Rel σ τ → Y w A g Q 1344 [some (.ref b), some (.ref (ad w 0)), some (.ref (ad wm 0)), some (.int x3)] [] k n (wsL shC w σ ++ wsL shM wm τ)) : Y w A g Q 695 [some (.ref b), some (.ref (ad w 0)), some (.ref (ad wm 0)), some (.int x3)] [] k n (wsL shC w σ ++ wsL shM wm τ) := by
  refine y_aload1 hg dL_law_695 rfl ?_
  refine y_aload0 hg dL_law_696 rfl ?_
  refine y_iload3 hg dL_law_697 rfl ?_
  refine y_ic hg dL_law_698 ic_1 rfl ?_
  refine y_iadd hg dL_law_699 rfl ?_
  refine y_sld hg hX (hv 1 (by decide)) dL_law_700 rfl ?_
  refine y_aload0 hg dL_law_701 rfl ?_
  refine y_iload3 hg dL_law_702 rfl ?_
  refine y_ic hg dL_law_703 ic_2 rfl ?_
  refine y_iadd hg dL_law_704 rfl ?_
  refine y_sld hg hX (hv 2 (by decide)) dL_law_705 rfl ?_
  refine y_call (S := shC) (wx := w) hg hsw rfl rfl (fun _ h => h) (As := [.int (xs (ix (x3 + 1))), .int (xs (ix (x3 + 2)))]) (xB_takes (w := w) (gL g) (eq_takes hR)) kC_0 (by decide) rfl im_X7_takes se_X7_takes mi_X7_takes ml_L_80 rfl rfl hk1 hk2 rfl rfl rfl dL_law_706 rfl (fun r1 σ hR => ?_)
  refine y_swap ?_
  refine y_aload2 hg dL_law_709 rfl ?_
  refine y_aload0 hg dL_law_710 rfl ?_
  refine y_iload3 hg dL_law_711 rfl ?_
  refine y_ic hg dL_law_712 ic_1 rfl ?_
  refine y_iadd hg dL_law_713 rfl ?_
  refine y_sld hg hX (hv 1 (by decide)) dL_law_714 rfl ?_
  refine y_aload0 hg dL_law_715 rfl ?_
  refine y_iload3 hg dL_law_716 rfl ?_
  refine y_ic hg dL_law_717 ic_2 rfl ?_
  refine y_iadd hg dL_law_718 rfl ?_
  refine y_sld hg hX (hv 2 (by decide)) dL_law_719 rfl ?_
  refine y_call (S := shM) (wx := wm) hg hsm hd1 hd2 hd3 (As := [.int (xs (ix (x3 + 1))), .int (xs (ix (x3 + 2)))]) (xM_takes (w := wm) (gL g) hR) kM_0 (by decide) rfl im_X8_takes se_X8_takes mi_X8_takes ml_L_83 rfl rfl hk1 hk2 rfl rfl rfl dL_law_720 rfl (fun r2 τ hR => ?_)
  refine y_swap ?_
  exact y_eqT hg dL_law_723 (tg := 1344) (by decide) hR.1 (hback _ _ hR.2)
set_option maxRecDepth 100000 in
set_option maxHeartbeats 4000000 in
theorem lc_16 {w wm : Wc} {A : Nat → Prop} {g : Gx} {Q : State → Prop} (hg : OY w A g 2000 600000 7302250 cL_law "BagBottomLaw" 4) (hsw : YS A w g) (hsm : YS A wm g) (hd1 : dG wm = dG w) (hd2 : tys wm = tys w) (hd3 : ∀ s, SR w s → SR wm s) {b L : Nat} {xs : Nat → Int32} (hX : YX A g b L xs) {x3 : Int32} {k n : Nat} (hk1 : Nat.ble k 600000 = true) (hk2 : Nat.ble n 7302250 = true) (hv : ∀ c : Int32, c ∈ [(1 : Int32), 2, 3, 4, 5] → vp_in (x3 + c) L) {σ τ : Sg} (hR : Rel σ τ) (hback : ∀ σ τ, Rel σ τ → Y w A g Q 1344 [some (.ref b), some (.ref (ad w 0)), some (.ref (ad wm 0)), some (.int x3)] [] k n (wsL shC w σ ++ wsL shM wm τ)) : Y w A g Q 728 [some (.ref b), some (.ref (ad w 0)), some (.ref (ad wm 0)), some (.int x3)] [] k n (wsL shC w σ ++ wsL shM wm τ) := by
  refine y_aload1 hg dL_law_728 rfl ?_
  refine y_aload0 hg dL_law_729 rfl ?_
  refine y_iload3 hg dL_law_730 rfl ?_
  refine y_ic hg dL_law_731 ic_1 rfl ?_
  refine y_iadd hg dL_law_732 rfl ?_
  refine y_sld hg hX (hv 1 (by decide)) dL_law_733 rfl ?_
  refine y_call (S := shC) (wx := w) hg hsw rfl rfl (fun _ h => h) (As := [.int (xs (ix (x3 + 1)))]) (xB_walks (w := w) (gL g) (eq_walks hR)) kC_0 (by decide) rfl im_X7_walks se_X7_walks mi_X7_walks ml_L_84 rfl rfl hk1 hk2 rfl rfl rfl dL_law_734 rfl (fun r1 σ hR => ?_)
  refine y_swap ?_
  refine y_aload2 hg dL_law_737 rfl ?_
  refine y_aload0 hg dL_law_738 rfl ?_
  refine y_iload3 hg dL_law_739 rfl ?_
  refine y_ic hg dL_law_740 ic_1 rfl ?_
  refine y_iadd hg dL_law_741 rfl ?_
  refine y_sld hg hX (hv 1 (by decide)) dL_law_742 rfl ?_
  refine y_call (S := shM) (wx := wm) hg hsm hd1 hd2 hd3 (As := [.int (xs (ix (x3 + 1)))]) (xM_walks (w := wm) (gL g) hR) kM_0 (by decide) rfl im_X8_walks se_X8_walks mi_X8_walks ml_L_87 rfl rfl hk1 hk2 rfl rfl rfl dL_law_743 rfl (fun r2 τ hR => ?_)
  refine y_swap ?_
  exact y_eqT hg dL_law_746 (tg := 1344) (by decide) hR.1 (hback _ _ hR.2)
set_option maxRecDepth 100000 in
set_option maxHeartbeats 4000000 in
theorem lc_17 {w wm : Wc} {A : Nat → Prop} {g : Gx} {Q : State → Prop} (hg : OY w A g 2000 600000 7302250 cL_law "BagBottomLaw" 4) (hsw : YS A w g) (hsm : YS A wm g) (hd1 : dG wm = dG w) (hd2 : tys wm = tys w) (hd3 : ∀ s, SR w s → SR wm s) {b L : Nat} {xs : Nat → Int32} (hX : YX A g b L xs) {x3 : Int32} {k n : Nat} (hk1 : Nat.ble k 600000 = true) (hk2 : Nat.ble n 7302250 = true) (hv : ∀ c : Int32, c ∈ [(1 : Int32), 2, 3, 4, 5] → vp_in (x3 + c) L) {σ τ : Sg} (hR : Rel σ τ) (hback : ∀ σ τ, Rel σ τ → Y w A g Q 1344 [some (.ref b), some (.ref (ad w 0)), some (.ref (ad wm 0)), some (.int x3)] [] k n (wsL shC w σ ++ wsL shM wm τ)) : Y w A g Q 751 [some (.ref b), some (.ref (ad w 0)), some (.ref (ad wm 0)), some (.int x3)] [] k n (wsL shC w σ ++ wsL shM wm τ) := by
  refine y_aload1 hg dL_law_751 rfl ?_
  refine y_aload0 hg dL_law_752 rfl ?_
  refine y_iload3 hg dL_law_753 rfl ?_
  refine y_ic hg dL_law_754 ic_1 rfl ?_
  refine y_iadd hg dL_law_755 rfl ?_
  refine y_sld hg hX (hv 1 (by decide)) dL_law_756 rfl ?_
  refine y_call (S := shC) (wx := w) hg hsw rfl rfl (fun _ h => h) (As := [.int (xs (ix (x3 + 1)))]) (xB_loose (w := w) (gL g) (eq_loose hR)) kC_0 (by decide) rfl im_X7_loose se_X7_loose mi_X7_loose ml_L_88 rfl rfl hk1 hk2 rfl rfl rfl dL_law_757 rfl (fun r1 σ hR => ?_)
  refine y_swap ?_
  refine y_aload2 hg dL_law_760 rfl ?_
  refine y_aload0 hg dL_law_761 rfl ?_
  refine y_iload3 hg dL_law_762 rfl ?_
  refine y_ic hg dL_law_763 ic_1 rfl ?_
  refine y_iadd hg dL_law_764 rfl ?_
  refine y_sld hg hX (hv 1 (by decide)) dL_law_765 rfl ?_
  refine y_call (S := shM) (wx := wm) hg hsm hd1 hd2 hd3 (As := [.int (xs (ix (x3 + 1)))]) (xM_loose (w := wm) (gL g) hR) kM_0 (by decide) rfl im_X8_loose se_X8_loose mi_X8_loose ml_L_91 rfl rfl hk1 hk2 rfl rfl rfl dL_law_766 rfl (fun r2 τ hR => ?_)
  refine y_swap ?_
  exact y_eqT hg dL_law_769 (tg := 1344) (by decide) hR.1 (hback _ _ hR.2)
set_option maxRecDepth 100000 in
set_option maxHeartbeats 4000000 in
theorem lc_18 {w wm : Wc} {A : Nat → Prop} {g : Gx} {Q : State → Prop} (hg : OY w A g 2000 600000 7302250 cL_law "BagBottomLaw" 4) (hsw : YS A w g) (hsm : YS A wm g) (hd1 : dG wm = dG w) (hd2 : tys wm = tys w) (hd3 : ∀ s, SR w s → SR wm s) {b L : Nat} {xs : Nat → Int32} (hX : YX A g b L xs) {x3 : Int32} {k n : Nat} (hk1 : Nat.ble k 600000 = true) (hk2 : Nat.ble n 7302250 = true) (hv : ∀ c : Int32, c ∈ [(1 : Int32), 2, 3, 4, 5] → vp_in (x3 + c) L) {σ τ : Sg} (hR : Rel σ τ) (hback : ∀ σ τ, Rel σ τ → Y w A g Q 1344 [some (.ref b), some (.ref (ad w 0)), some (.ref (ad wm 0)), some (.int x3)] [] k n (wsL shC w σ ++ wsL shM wm τ)) : Y w A g Q 774 [some (.ref b), some (.ref (ad w 0)), some (.ref (ad wm 0)), some (.int x3)] [] k n (wsL shC w σ ++ wsL shM wm τ) := by
  refine y_aload1 hg dL_law_774 rfl ?_
  refine y_aload0 hg dL_law_775 rfl ?_
  refine y_iload3 hg dL_law_776 rfl ?_
  refine y_ic hg dL_law_777 ic_1 rfl ?_
  refine y_iadd hg dL_law_778 rfl ?_
  refine y_sld hg hX (hv 1 (by decide)) dL_law_779 rfl ?_
  refine y_call (S := shC) (wx := w) hg hsw rfl rfl (fun _ h => h) (As := [.int (xs (ix (x3 + 1)))]) (xB_seed (w := w) (gL g) (eq_seed hR)) kC_0 (by decide) rfl im_X7_seed se_X7_seed mi_X7_seed ml_L_92 rfl rfl hk1 hk2 rfl rfl rfl dL_law_780 rfl (fun r1 σ hR => ?_)
  refine y_swap ?_
  refine y_aload2 hg dL_law_783 rfl ?_
  refine y_aload0 hg dL_law_784 rfl ?_
  refine y_iload3 hg dL_law_785 rfl ?_
  refine y_ic hg dL_law_786 ic_1 rfl ?_
  refine y_iadd hg dL_law_787 rfl ?_
  refine y_sld hg hX (hv 1 (by decide)) dL_law_788 rfl ?_
  refine y_call (S := shM) (wx := wm) hg hsm hd1 hd2 hd3 (As := [.int (xs (ix (x3 + 1)))]) (xM_seed (w := wm) (gL g) hR) kM_0 (by decide) rfl im_X8_seed se_X8_seed mi_X8_seed ml_L_95 rfl rfl hk1 hk2 rfl rfl rfl dL_law_789 rfl (fun r2 τ hR => ?_)
  refine y_swap ?_
  exact y_eqT hg dL_law_792 (tg := 1344) (by decide) hR.1 (hback _ _ hR.2)
set_option maxRecDepth 100000 in
set_option maxHeartbeats 4000000 in
theorem lc_19 {w wm : Wc} {A : Nat → Prop} {g : Gx} {Q : State → Prop} (hg : OY w A g 2000 600000 7302250 cL_law "BagBottomLaw" 4) (hsw : YS A w g) (hsm : YS A wm g) (hd1 : dG wm = dG w) (hd2 : tys wm = tys w) (hd3 : ∀ s, SR w s → SR wm s) {b L : Nat} {xs : Nat → Int32} (hX : YX A g b L xs) {x3 : Int32} {k n : Nat} (hk1 : Nat.ble k 600000 = true) (hk2 : Nat.ble n 7302250 = true) (hv : ∀ c : Int32, c ∈ [(1 : Int32), 2, 3, 4, 5] → vp_in (x3 + c) L) {σ τ : Sg} (hR : Rel σ τ) (hback : ∀ σ τ, Rel σ τ → Y w A g Q 1344 [some (.ref b), some (.ref (ad w 0)), some (.ref (ad wm 0)), some (.int x3)] [] k n (wsL shC w σ ++ wsL shM wm τ)) : Y w A g Q 797 [some (.ref b), some (.ref (ad w 0)), some (.ref (ad wm 0)), some (.int x3)] [] k n (wsL shC w σ ++ wsL shM wm τ) := by
  refine y_aload1 hg dL_law_797 rfl ?_
  refine y_aload0 hg dL_law_798 rfl ?_
  refine y_iload3 hg dL_law_799 rfl ?_
  refine y_ic hg dL_law_800 ic_1 rfl ?_
  refine y_iadd hg dL_law_801 rfl ?_
  refine y_sld hg hX (hv 1 (by decide)) dL_law_802 rfl ?_
  refine y_aload0 hg dL_law_803 rfl ?_
  refine y_iload3 hg dL_law_804 rfl ?_
  refine y_ic hg dL_law_805 ic_2 rfl ?_
  refine y_iadd hg dL_law_806 rfl ?_
  refine y_sld hg hX (hv 2 (by decide)) dL_law_807 rfl ?_
  refine y_call (S := shC) (wx := w) hg hsw rfl rfl (fun _ h => h) (As := [.int (xs (ix (x3 + 1))), .int (xs (ix (x3 + 2)))]) (xB_then (w := w) (gL g) (eq_then hR)) kC_0 (by decide) rfl im_X7_then se_X7_then mi_X7_then ml_L_96 rfl rfl hk1 hk2 rfl rfl rfl dL_law_808 rfl (fun r1 σ hR => ?_)
  refine y_swap ?_
  refine y_aload2 hg dL_law_811 rfl ?_
  refine y_aload0 hg dL_law_812 rfl ?_
  refine y_iload3 hg dL_law_813 rfl ?_
  refine y_ic hg dL_law_814 ic_1 rfl ?_
  refine y_iadd hg dL_law_815 rfl ?_
  refine y_sld hg hX (hv 1 (by decide)) dL_law_816 rfl ?_
  refine y_aload0 hg dL_law_817 rfl ?_
  refine y_iload3 hg dL_law_818 rfl ?_
  refine y_ic hg dL_law_819 ic_2 rfl ?_
  refine y_iadd hg dL_law_820 rfl ?_
  refine y_sld hg hX (hv 2 (by decide)) dL_law_821 rfl ?_
  refine y_call (S := shM) (wx := wm) hg hsm hd1 hd2 hd3 (As := [.int (xs (ix (x3 + 1))), .int (xs (ix (x3 + 2)))]) (xM_then (w := wm) (gL g) hR) kM_0 (by decide) rfl im_X8_then se_X8_then mi_X8_then ml_L_99 rfl rfl hk1 hk2 rfl rfl rfl dL_law_822 rfl (fun r2 τ hR => ?_)
  refine y_swap ?_
  exact y_eqT hg dL_law_825 (tg := 1344) (by decide) hR.1 (hback _ _ hR.2)
set_option maxRecDepth 100000 in
set_option maxHeartbeats 4000000 in
theorem lc_20 {w wm : Wc} {A : Nat → Prop} {g : Gx} {Q : State → Prop} (hg : OY w A g 2000 600000 7302250 cL_law "BagBottomLaw" 4) (hsw : YS A w g) (hsm : YS A wm g) (hd1 : dG wm = dG w) (hd2 : tys wm = tys w) (hd3 : ∀ s, SR w s → SR wm s) {b L : Nat} {xs : Nat → Int32} (hX : YX A g b L xs) {x3 : Int32} {k n : Nat} (hk1 : Nat.ble k 600000 = true) (hk2 : Nat.ble n 7302250 = true) (hv : ∀ c : Int32, c ∈ [(1 : Int32), 2, 3, 4, 5] → vp_in (x3 + c) L) {σ τ : Sg} (hR : Rel σ τ) (hback : ∀ σ τ, Rel σ τ → Y w A g Q 1344 [some (.ref b), some (.ref (ad w 0)), some (.ref (ad wm 0)), some (.int x3)] [] k n (wsL shC w σ ++ wsL shM wm τ)) : Y w A g Q 830 [some (.ref b), some (.ref (ad w 0)), some (.ref (ad wm 0)), some (.int x3)] [] k n (wsL shC w σ ++ wsL shM wm τ) := by
  refine y_aload1 hg dL_law_830 rfl ?_
  refine y_call (S := shC) (wx := w) hg hsw rfl rfl (fun _ h => h) (As := []) (xB_settles (w := w) (gL g) (eq_settles hR)) kC_0 (by decide) rfl im_X7_settles se_X7_settles mi_X7_settles ml_L_100 rfl rfl hk1 hk2 rfl rfl rfl dL_law_831 rfl (fun r1 σ hR => ?_)
  refine y_swap ?_
  refine y_aload2 hg dL_law_834 rfl ?_
  refine y_call (S := shM) (wx := wm) hg hsm hd1 hd2 hd3 (As := []) (xM_settles (w := wm) (gL g) hR) kM_0 (by decide) rfl im_X8_settles se_X8_settles mi_X8_settles ml_L_104 rfl rfl hk1 hk2 rfl rfl rfl dL_law_835 rfl (fun r2 τ hR => ?_)
  refine y_swap ?_
  exact y_eqT hg dL_law_838 (tg := 1344) (by decide) hR.1 (hback _ _ hR.2)
set_option maxRecDepth 100000 in
set_option maxHeartbeats 4000000 in
theorem lc_21 {w wm : Wc} {A : Nat → Prop} {g : Gx} {Q : State → Prop} (hg : OY w A g 2000 600000 7302250 cL_law "BagBottomLaw" 4) (hsw : YS A w g) (hsm : YS A wm g) (hd1 : dG wm = dG w) (hd2 : tys wm = tys w) (hd3 : ∀ s, SR w s → SR wm s) {b L : Nat} {xs : Nat → Int32} (hX : YX A g b L xs) {x3 : Int32} {k n : Nat} (hk1 : Nat.ble k 600000 = true) (hk2 : Nat.ble n 7302250 = true) (hv : ∀ c : Int32, c ∈ [(1 : Int32), 2, 3, 4, 5] → vp_in (x3 + c) L) {σ τ : Sg} (hR : Rel σ τ) (hback : ∀ σ τ, Rel σ τ → Y w A g Q 1344 [some (.ref b), some (.ref (ad w 0)), some (.ref (ad wm 0)), some (.int x3)] [] k n (wsL shC w σ ++ wsL shM wm τ)) : Y w A g Q 843 [some (.ref b), some (.ref (ad w 0)), some (.ref (ad wm 0)), some (.int x3)] [] k n (wsL shC w σ ++ wsL shM wm τ) := by
  refine y_aload1 hg dL_law_843 rfl ?_
  refine y_aload0 hg dL_law_844 rfl ?_
  refine y_iload3 hg dL_law_845 rfl ?_
  refine y_ic hg dL_law_846 ic_1 rfl ?_
  refine y_iadd hg dL_law_847 rfl ?_
  refine y_sld hg hX (hv 1 (by decide)) dL_law_848 rfl ?_
  refine y_aload0 hg dL_law_849 rfl ?_
  refine y_iload3 hg dL_law_850 rfl ?_
  refine y_ic hg dL_law_851 ic_2 rfl ?_
  refine y_iadd hg dL_law_852 rfl ?_
  refine y_sld hg hX (hv 2 (by decide)) dL_law_853 rfl ?_
  refine y_call (S := shC) (wx := w) hg hsw rfl rfl (fun _ h => h) (As := [.int (xs (ix (x3 + 1))), .int (xs (ix (x3 + 2)))]) (xB_pack (w := w) (gL g) (eq_pack hR)) kC_0 (by decide) rfl im_X7_pack se_X7_pack mi_X7_pack ml_L_105 rfl rfl hk1 hk2 rfl rfl rfl dL_law_854 rfl (fun r1 σ hR => ?_)
  refine y_swap ?_
  refine y_aload2 hg dL_law_857 rfl ?_
  refine y_aload0 hg dL_law_858 rfl ?_
  refine y_iload3 hg dL_law_859 rfl ?_
  refine y_ic hg dL_law_860 ic_1 rfl ?_
  refine y_iadd hg dL_law_861 rfl ?_
  refine y_sld hg hX (hv 1 (by decide)) dL_law_862 rfl ?_
  refine y_aload0 hg dL_law_863 rfl ?_
  refine y_iload3 hg dL_law_864 rfl ?_
  refine y_ic hg dL_law_865 ic_2 rfl ?_
  refine y_iadd hg dL_law_866 rfl ?_
  refine y_sld hg hX (hv 2 (by decide)) dL_law_867 rfl ?_
  refine y_call (S := shM) (wx := wm) hg hsm hd1 hd2 hd3 (As := [.int (xs (ix (x3 + 1))), .int (xs (ix (x3 + 2)))]) (xM_pack (w := wm) (gL g) hR) kM_0 (by decide) rfl im_X8_pack se_X8_pack mi_X8_pack ml_L_108 rfl rfl hk1 hk2 rfl rfl rfl dL_law_868 rfl (fun r2 τ hR => ?_)
  refine y_swap ?_
  exact y_eqT hg dL_law_871 (tg := 1344) (by decide) hR.1 (hback _ _ hR.2)
set_option maxRecDepth 100000 in
set_option maxHeartbeats 4000000 in
theorem lc_22 {w wm : Wc} {A : Nat → Prop} {g : Gx} {Q : State → Prop} (hg : OY w A g 2000 600000 7302250 cL_law "BagBottomLaw" 4) (hsw : YS A w g) (hsm : YS A wm g) (hd1 : dG wm = dG w) (hd2 : tys wm = tys w) (hd3 : ∀ s, SR w s → SR wm s) {b L : Nat} {xs : Nat → Int32} (hX : YX A g b L xs) {x3 : Int32} {k n : Nat} (hk1 : Nat.ble k 600000 = true) (hk2 : Nat.ble n 7302250 = true) (hv : ∀ c : Int32, c ∈ [(1 : Int32), 2, 3, 4, 5] → vp_in (x3 + c) L) {σ τ : Sg} (hR : Rel σ τ) (hback : ∀ σ τ, Rel σ τ → Y w A g Q 1344 [some (.ref b), some (.ref (ad w 0)), some (.ref (ad wm 0)), some (.int x3)] [] k n (wsL shC w σ ++ wsL shM wm τ)) : Y w A g Q 876 [some (.ref b), some (.ref (ad w 0)), some (.ref (ad wm 0)), some (.int x3)] [] k n (wsL shC w σ ++ wsL shM wm τ) := by
  refine y_aload1 hg dL_law_876 rfl ?_
  refine y_aload0 hg dL_law_877 rfl ?_
  refine y_iload3 hg dL_law_878 rfl ?_
  refine y_ic hg dL_law_879 ic_1 rfl ?_
  refine y_iadd hg dL_law_880 rfl ?_
  refine y_sld hg hX (hv 1 (by decide)) dL_law_881 rfl ?_
  refine y_aload0 hg dL_law_882 rfl ?_
  refine y_iload3 hg dL_law_883 rfl ?_
  refine y_ic hg dL_law_884 ic_2 rfl ?_
  refine y_iadd hg dL_law_885 rfl ?_
  refine y_sld hg hX (hv 2 (by decide)) dL_law_886 rfl ?_
  refine y_aload0 hg dL_law_887 rfl ?_
  refine y_iload3 hg dL_law_888 rfl ?_
  refine y_ic hg dL_law_889 ic_3 rfl ?_
  refine y_iadd hg dL_law_890 rfl ?_
  refine y_sld hg hX (hv 3 (by decide)) dL_law_891 rfl ?_
  refine y_call (S := shC) (wx := w) hg hsw rfl rfl (fun _ h => h) (As := [.int (xs (ix (x3 + 1))), .int (xs (ix (x3 + 2))), .int (xs (ix (x3 + 3)))]) (xB_out (w := w) (gL g) (eq_out hR)) kC_0 (by decide) rfl im_X7_out se_X7_out mi_X7_out ml_L_109 rfl rfl hk1 hk2 rfl rfl rfl dL_law_892 rfl (fun r1 σ hR => ?_)
  refine y_swap ?_
  refine y_aload2 hg dL_law_895 rfl ?_
  refine y_aload0 hg dL_law_896 rfl ?_
  refine y_iload3 hg dL_law_897 rfl ?_
  refine y_ic hg dL_law_898 ic_1 rfl ?_
  refine y_iadd hg dL_law_899 rfl ?_
  refine y_sld hg hX (hv 1 (by decide)) dL_law_900 rfl ?_
  refine y_aload0 hg dL_law_901 rfl ?_
  refine y_iload3 hg dL_law_902 rfl ?_
  refine y_ic hg dL_law_903 ic_2 rfl ?_
  refine y_iadd hg dL_law_904 rfl ?_
  refine y_sld hg hX (hv 2 (by decide)) dL_law_905 rfl ?_
  refine y_aload0 hg dL_law_906 rfl ?_
  refine y_iload3 hg dL_law_907 rfl ?_
  refine y_ic hg dL_law_908 ic_3 rfl ?_
  refine y_iadd hg dL_law_909 rfl ?_
  refine y_sld hg hX (hv 3 (by decide)) dL_law_910 rfl ?_
  refine y_call (S := shM) (wx := wm) hg hsm hd1 hd2 hd3 (As := [.int (xs (ix (x3 + 1))), .int (xs (ix (x3 + 2))), .int (xs (ix (x3 + 3)))]) (xM_out (w := wm) (gL g) hR) kM_0 (by decide) rfl im_X8_out se_X8_out mi_X8_out ml_L_112 rfl rfl hk1 hk2 rfl rfl rfl dL_law_911 rfl (fun r2 τ hR => ?_)
  refine y_swap ?_
  exact y_eqT hg dL_law_914 (tg := 1344) (by decide) hR.1 (hback _ _ hR.2)
set_option maxRecDepth 100000 in
set_option maxHeartbeats 4000000 in
theorem lc_23 {w wm : Wc} {A : Nat → Prop} {g : Gx} {Q : State → Prop} (hg : OY w A g 2000 600000 7302250 cL_law "BagBottomLaw" 4) (hsw : YS A w g) (hsm : YS A wm g) (hd1 : dG wm = dG w) (hd2 : tys wm = tys w) (hd3 : ∀ s, SR w s → SR wm s) {b L : Nat} {xs : Nat → Int32} (hX : YX A g b L xs) {x3 : Int32} {k n : Nat} (hk1 : Nat.ble k 600000 = true) (hk2 : Nat.ble n 7302250 = true) (hv : ∀ c : Int32, c ∈ [(1 : Int32), 2, 3, 4, 5] → vp_in (x3 + c) L) {σ τ : Sg} (hR : Rel σ τ) (hback : ∀ σ τ, Rel σ τ → Y w A g Q 1344 [some (.ref b), some (.ref (ad w 0)), some (.ref (ad wm 0)), some (.int x3)] [] k n (wsL shC w σ ++ wsL shM wm τ)) : Y w A g Q 919 [some (.ref b), some (.ref (ad w 0)), some (.ref (ad wm 0)), some (.int x3)] [] k n (wsL shC w σ ++ wsL shM wm τ) := by
  refine y_aload1 hg dL_law_919 rfl ?_
  refine y_aload0 hg dL_law_920 rfl ?_
  refine y_iload3 hg dL_law_921 rfl ?_
  refine y_ic hg dL_law_922 ic_1 rfl ?_
  refine y_iadd hg dL_law_923 rfl ?_
  refine y_sld hg hX (hv 1 (by decide)) dL_law_924 rfl ?_
  refine y_aload0 hg dL_law_925 rfl ?_
  refine y_iload3 hg dL_law_926 rfl ?_
  refine y_ic hg dL_law_927 ic_2 rfl ?_
  refine y_iadd hg dL_law_928 rfl ?_
  refine y_sld hg hX (hv 2 (by decide)) dL_law_929 rfl ?_
  refine y_call (S := shC) (wx := w) hg hsw rfl rfl (fun _ h => h) (As := [.int (xs (ix (x3 + 1))), .int (xs (ix (x3 + 2)))]) (xB_odds (w := w) (gL g) (eq_odds hR)) kC_0 (by decide) rfl im_X7_odds se_X7_odds mi_X7_odds ml_L_113 rfl rfl hk1 hk2 rfl rfl rfl dL_law_930 rfl (fun r1 σ hR => ?_)
  refine y_swap ?_
  refine y_aload2 hg dL_law_933 rfl ?_
  refine y_aload0 hg dL_law_934 rfl ?_
  refine y_iload3 hg dL_law_935 rfl ?_
  refine y_ic hg dL_law_936 ic_1 rfl ?_
  refine y_iadd hg dL_law_937 rfl ?_
  refine y_sld hg hX (hv 1 (by decide)) dL_law_938 rfl ?_
  refine y_aload0 hg dL_law_939 rfl ?_
  refine y_iload3 hg dL_law_940 rfl ?_
  refine y_ic hg dL_law_941 ic_2 rfl ?_
  refine y_iadd hg dL_law_942 rfl ?_
  refine y_sld hg hX (hv 2 (by decide)) dL_law_943 rfl ?_
  refine y_call (S := shM) (wx := wm) hg hsm hd1 hd2 hd3 (As := [.int (xs (ix (x3 + 1))), .int (xs (ix (x3 + 2)))]) (xM_odds (w := wm) (gL g) hR) kM_0 (by decide) rfl im_X8_odds se_X8_odds mi_X8_odds ml_L_116 rfl rfl hk1 hk2 rfl rfl rfl dL_law_944 rfl (fun r2 τ hR => ?_)
  refine y_swap ?_
  exact y_eqT hg dL_law_947 (tg := 1344) (by decide) hR.1 (hback _ _ hR.2)
set_option maxRecDepth 100000 in
set_option maxHeartbeats 4000000 in
theorem lc_24 {w wm : Wc} {A : Nat → Prop} {g : Gx} {Q : State → Prop} (hg : OY w A g 2000 600000 7302250 cL_law "BagBottomLaw" 4) (hsw : YS A w g) (hsm : YS A wm g) (hd1 : dG wm = dG w) (hd2 : tys wm = tys w) (hd3 : ∀ s, SR w s → SR wm s) {b L : Nat} {xs : Nat → Int32} (hX : YX A g b L xs) {x3 : Int32} {k n : Nat} (hk1 : Nat.ble k 600000 = true) (hk2 : Nat.ble n 7302250 = true) (hv : ∀ c : Int32, c ∈ [(1 : Int32), 2, 3, 4, 5] → vp_in (x3 + c) L) {σ τ : Sg} (hR : Rel σ τ) (hback : ∀ σ τ, Rel σ τ → Y w A g Q 1344 [some (.ref b), some (.ref (ad w 0)), some (.ref (ad wm 0)), some (.int x3)] [] k n (wsL shC w σ ++ wsL shM wm τ)) : Y w A g Q 952 [some (.ref b), some (.ref (ad w 0)), some (.ref (ad wm 0)), some (.int x3)] [] k n (wsL shC w σ ++ wsL shM wm τ) := by
  refine y_aload1 hg dL_law_952 rfl ?_
  refine y_aload0 hg dL_law_953 rfl ?_
  refine y_iload3 hg dL_law_954 rfl ?_
  refine y_ic hg dL_law_955 ic_1 rfl ?_
  refine y_iadd hg dL_law_956 rfl ?_
  refine y_sld hg hX (hv 1 (by decide)) dL_law_957 rfl ?_
  refine y_call (S := shC) (wx := w) hg hsw rfl rfl (fun _ h => h) (As := [.int (xs (ix (x3 + 1)))]) (xB_fits (w := w) (gL g) (eq_fits hR)) kC_0 (by decide) rfl im_X7_fits se_X7_fits mi_X7_fits ml_L_117 rfl rfl hk1 hk2 rfl rfl rfl dL_law_958 rfl (fun r1 σ hR => ?_)
  refine y_swap ?_
  refine y_aload2 hg dL_law_961 rfl ?_
  refine y_aload0 hg dL_law_962 rfl ?_
  refine y_iload3 hg dL_law_963 rfl ?_
  refine y_ic hg dL_law_964 ic_1 rfl ?_
  refine y_iadd hg dL_law_965 rfl ?_
  refine y_sld hg hX (hv 1 (by decide)) dL_law_966 rfl ?_
  refine y_call (S := shM) (wx := wm) hg hsm hd1 hd2 hd3 (As := [.int (xs (ix (x3 + 1)))]) (xM_fits (w := wm) (gL g) hR) kM_0 (by decide) rfl im_X8_fits se_X8_fits mi_X8_fits ml_L_120 rfl rfl hk1 hk2 rfl rfl rfl dL_law_967 rfl (fun r2 τ hR => ?_)
  refine y_swap ?_
  exact y_eqT hg dL_law_970 (tg := 1344) (by decide) hR.1 (hback _ _ hR.2)
set_option maxRecDepth 100000 in
set_option maxHeartbeats 4000000 in
theorem lc_25 {w wm : Wc} {A : Nat → Prop} {g : Gx} {Q : State → Prop} (hg : OY w A g 2000 600000 7302250 cL_law "BagBottomLaw" 4) (hsw : YS A w g) (hsm : YS A wm g) (hd1 : dG wm = dG w) (hd2 : tys wm = tys w) (hd3 : ∀ s, SR w s → SR wm s) {b L : Nat} {xs : Nat → Int32} (hX : YX A g b L xs) {x3 : Int32} {k n : Nat} (hk1 : Nat.ble k 600000 = true) (hk2 : Nat.ble n 7302250 = true) (hv : ∀ c : Int32, c ∈ [(1 : Int32), 2, 3, 4, 5] → vp_in (x3 + c) L) {σ τ : Sg} (hR : Rel σ τ) (hback : ∀ σ τ, Rel σ τ → Y w A g Q 1344 [some (.ref b), some (.ref (ad w 0)), some (.ref (ad wm 0)), some (.int x3)] [] k n (wsL shC w σ ++ wsL shM wm τ)) : Y w A g Q 975 [some (.ref b), some (.ref (ad w 0)), some (.ref (ad wm 0)), some (.int x3)] [] k n (wsL shC w σ ++ wsL shM wm τ) := by
  refine y_aload1 hg dL_law_975 rfl ?_
  refine y_aload0 hg dL_law_976 rfl ?_
  refine y_iload3 hg dL_law_977 rfl ?_
  refine y_ic hg dL_law_978 ic_1 rfl ?_
  refine y_iadd hg dL_law_979 rfl ?_
  refine y_sld hg hX (hv 1 (by decide)) dL_law_980 rfl ?_
  refine y_aload0 hg dL_law_981 rfl ?_
  refine y_iload3 hg dL_law_982 rfl ?_
  refine y_ic hg dL_law_983 ic_2 rfl ?_
  refine y_iadd hg dL_law_984 rfl ?_
  refine y_sld hg hX (hv 2 (by decide)) dL_law_985 rfl ?_
  refine y_aload0 hg dL_law_986 rfl ?_
  refine y_iload3 hg dL_law_987 rfl ?_
  refine y_ic hg dL_law_988 ic_3 rfl ?_
  refine y_iadd hg dL_law_989 rfl ?_
  refine y_sld hg hX (hv 3 (by decide)) dL_law_990 rfl ?_
  refine y_call (S := shC) (wx := w) hg hsw rfl rfl (fun _ h => h) (As := [.int (xs (ix (x3 + 1))), .int (xs (ix (x3 + 2))), .int (xs (ix (x3 + 3)))]) (xB_voice (w := w) (gL g) (eq_voice hR)) kC_0 (by decide) rfl im_X7_voice se_X7_voice mi_X7_voice ml_L_121 rfl rfl hk1 hk2 rfl rfl rfl dL_law_991 rfl (fun r1 σ hR => ?_)
  refine y_swap ?_
  refine y_aload2 hg dL_law_994 rfl ?_
  refine y_aload0 hg dL_law_995 rfl ?_
  refine y_iload3 hg dL_law_996 rfl ?_
  refine y_ic hg dL_law_997 ic_1 rfl ?_
  refine y_iadd hg dL_law_998 rfl ?_
  refine y_sld hg hX (hv 1 (by decide)) dL_law_999 rfl ?_
  refine y_aload0 hg dL_law_1000 rfl ?_
  refine y_iload3 hg dL_law_1001 rfl ?_
  refine y_ic hg dL_law_1002 ic_2 rfl ?_
  refine y_iadd hg dL_law_1003 rfl ?_
  refine y_sld hg hX (hv 2 (by decide)) dL_law_1004 rfl ?_
  refine y_aload0 hg dL_law_1005 rfl ?_
  refine y_iload3 hg dL_law_1006 rfl ?_
  refine y_ic hg dL_law_1007 ic_3 rfl ?_
  refine y_iadd hg dL_law_1008 rfl ?_
  refine y_sld hg hX (hv 3 (by decide)) dL_law_1009 rfl ?_
  refine y_call (S := shM) (wx := wm) hg hsm hd1 hd2 hd3 (As := [.int (xs (ix (x3 + 1))), .int (xs (ix (x3 + 2))), .int (xs (ix (x3 + 3)))]) (xM_voice (w := wm) (gL g) hR) kM_0 (by decide) rfl im_X8_voice se_X8_voice mi_X8_voice ml_L_124 rfl rfl hk1 hk2 rfl rfl rfl dL_law_1010 rfl (fun r2 τ hR => ?_)
  refine y_swap ?_
  exact y_eqT hg dL_law_1013 (tg := 1344) (by decide) hR.1 (hback _ _ hR.2)
set_option maxRecDepth 100000 in
set_option maxHeartbeats 4000000 in
theorem lc_26 {w wm : Wc} {A : Nat → Prop} {g : Gx} {Q : State → Prop} (hg : OY w A g 2000 600000 7302250 cL_law "BagBottomLaw" 4) (hsw : YS A w g) (hsm : YS A wm g) (hd1 : dG wm = dG w) (hd2 : tys wm = tys w) (hd3 : ∀ s, SR w s → SR wm s) {b L : Nat} {xs : Nat → Int32} (hX : YX A g b L xs) {x3 : Int32} {k n : Nat} (hk1 : Nat.ble k 600000 = true) (hk2 : Nat.ble n 7302250 = true) (hv : ∀ c : Int32, c ∈ [(1 : Int32), 2, 3, 4, 5] → vp_in (x3 + c) L) {σ τ : Sg} (hR : Rel σ τ) (hback : ∀ σ τ, Rel σ τ → Y w A g Q 1344 [some (.ref b), some (.ref (ad w 0)), some (.ref (ad wm 0)), some (.int x3)] [] k n (wsL shC w σ ++ wsL shM wm τ)) : Y w A g Q 1018 [some (.ref b), some (.ref (ad w 0)), some (.ref (ad wm 0)), some (.int x3)] [] k n (wsL shC w σ ++ wsL shM wm τ) := by
  refine y_aload1 hg dL_law_1018 rfl ?_
  refine y_aload0 hg dL_law_1019 rfl ?_
  refine y_iload3 hg dL_law_1020 rfl ?_
  refine y_ic hg dL_law_1021 ic_1 rfl ?_
  refine y_iadd hg dL_law_1022 rfl ?_
  refine y_sld hg hX (hv 1 (by decide)) dL_law_1023 rfl ?_
  refine y_call (S := shC) (wx := w) hg hsw rfl rfl (fun _ h => h) (As := [.int (xs (ix (x3 + 1)))]) (xB_body (w := w) (gL g) (eq_body hR)) kC_0 (by decide) rfl im_X7_body se_X7_body mi_X7_body ml_L_125 rfl rfl hk1 hk2 rfl rfl rfl dL_law_1024 rfl (fun r1 σ hR => ?_)
  refine y_swap ?_
  refine y_aload2 hg dL_law_1027 rfl ?_
  refine y_aload0 hg dL_law_1028 rfl ?_
  refine y_iload3 hg dL_law_1029 rfl ?_
  refine y_ic hg dL_law_1030 ic_1 rfl ?_
  refine y_iadd hg dL_law_1031 rfl ?_
  refine y_sld hg hX (hv 1 (by decide)) dL_law_1032 rfl ?_
  refine y_call (S := shM) (wx := wm) hg hsm hd1 hd2 hd3 (As := [.int (xs (ix (x3 + 1)))]) (xM_body (w := wm) (gL g) hR) kM_0 (by decide) rfl im_X8_body se_X8_body mi_X8_body ml_L_128 rfl rfl hk1 hk2 rfl rfl rfl dL_law_1033 rfl (fun r2 τ hR => ?_)
  refine y_swap ?_
  exact y_eqT hg dL_law_1036 (tg := 1344) (by decide) hR.1 (hback _ _ hR.2)
set_option maxRecDepth 100000 in
set_option maxHeartbeats 4000000 in
theorem lc_27 {w wm : Wc} {A : Nat → Prop} {g : Gx} {Q : State → Prop} (hg : OY w A g 2000 600000 7302250 cL_law "BagBottomLaw" 4) (hsw : YS A w g) (hsm : YS A wm g) (hd1 : dG wm = dG w) (hd2 : tys wm = tys w) (hd3 : ∀ s, SR w s → SR wm s) {b L : Nat} {xs : Nat → Int32} (hX : YX A g b L xs) {x3 : Int32} {k n : Nat} (hk1 : Nat.ble k 600000 = true) (hk2 : Nat.ble n 7302250 = true) (hv : ∀ c : Int32, c ∈ [(1 : Int32), 2, 3, 4, 5] → vp_in (x3 + c) L) {σ τ : Sg} (hR : Rel σ τ) (hback : ∀ σ τ, Rel σ τ → Y w A g Q 1344 [some (.ref b), some (.ref (ad w 0)), some (.ref (ad wm 0)), some (.int x3)] [] k n (wsL shC w σ ++ wsL shM wm τ)) : Y w A g Q 1041 [some (.ref b), some (.ref (ad w 0)), some (.ref (ad wm 0)), some (.int x3)] [] k n (wsL shC w σ ++ wsL shM wm τ) := by
  refine y_aload1 hg dL_law_1041 rfl ?_
  refine y_aload0 hg dL_law_1042 rfl ?_
  refine y_iload3 hg dL_law_1043 rfl ?_
  refine y_ic hg dL_law_1044 ic_1 rfl ?_
  refine y_iadd hg dL_law_1045 rfl ?_
  refine y_sld hg hX (hv 1 (by decide)) dL_law_1046 rfl ?_
  refine y_aload0 hg dL_law_1047 rfl ?_
  refine y_iload3 hg dL_law_1048 rfl ?_
  refine y_ic hg dL_law_1049 ic_2 rfl ?_
  refine y_iadd hg dL_law_1050 rfl ?_
  refine y_sld hg hX (hv 2 (by decide)) dL_law_1051 rfl ?_
  refine y_aload0 hg dL_law_1052 rfl ?_
  refine y_iload3 hg dL_law_1053 rfl ?_
  refine y_ic hg dL_law_1054 ic_3 rfl ?_
  refine y_iadd hg dL_law_1055 rfl ?_
  refine y_sld hg hX (hv 3 (by decide)) dL_law_1056 rfl ?_
  refine y_call (S := shC) (wx := w) hg hsw rfl rfl (fun _ h => h) (As := [.int (xs (ix (x3 + 1))), .int (xs (ix (x3 + 2))), .int (xs (ix (x3 + 3)))]) (xB_sheet (w := w) (gL g) (eq_sheet hR)) kC_0 (by decide) rfl im_X7_sheet se_X7_sheet mi_X7_sheet ml_L_129 rfl rfl hk1 hk2 rfl rfl rfl dL_law_1057 rfl (fun r1 σ hR => ?_)
  refine y_swap ?_
  refine y_aload2 hg dL_law_1060 rfl ?_
  refine y_aload0 hg dL_law_1061 rfl ?_
  refine y_iload3 hg dL_law_1062 rfl ?_
  refine y_ic hg dL_law_1063 ic_1 rfl ?_
  refine y_iadd hg dL_law_1064 rfl ?_
  refine y_sld hg hX (hv 1 (by decide)) dL_law_1065 rfl ?_
  refine y_aload0 hg dL_law_1066 rfl ?_
  refine y_iload3 hg dL_law_1067 rfl ?_
  refine y_ic hg dL_law_1068 ic_2 rfl ?_
  refine y_iadd hg dL_law_1069 rfl ?_
  refine y_sld hg hX (hv 2 (by decide)) dL_law_1070 rfl ?_
  refine y_aload0 hg dL_law_1071 rfl ?_
  refine y_iload3 hg dL_law_1072 rfl ?_
  refine y_ic hg dL_law_1073 ic_3 rfl ?_
  refine y_iadd hg dL_law_1074 rfl ?_
  refine y_sld hg hX (hv 3 (by decide)) dL_law_1075 rfl ?_
  refine y_call (S := shM) (wx := wm) hg hsm hd1 hd2 hd3 (As := [.int (xs (ix (x3 + 1))), .int (xs (ix (x3 + 2))), .int (xs (ix (x3 + 3)))]) (xM_sheet (w := wm) (gL g) hR) kM_0 (by decide) rfl im_X8_sheet se_X8_sheet mi_X8_sheet ml_L_132 rfl rfl hk1 hk2 rfl rfl rfl dL_law_1076 rfl (fun r2 τ hR => ?_)
  refine y_swap ?_
  exact y_eqT hg dL_law_1079 (tg := 1344) (by decide) hR.1 (hback _ _ hR.2)
set_option maxRecDepth 100000 in
set_option maxHeartbeats 4000000 in
theorem lc_28 {w wm : Wc} {A : Nat → Prop} {g : Gx} {Q : State → Prop} (hg : OY w A g 2000 600000 7302250 cL_law "BagBottomLaw" 4) (hsw : YS A w g) (hsm : YS A wm g) (hd1 : dG wm = dG w) (hd2 : tys wm = tys w) (hd3 : ∀ s, SR w s → SR wm s) {b L : Nat} {xs : Nat → Int32} (hX : YX A g b L xs) {x3 : Int32} {k n : Nat} (hk1 : Nat.ble k 600000 = true) (hk2 : Nat.ble n 7302250 = true) (hv : ∀ c : Int32, c ∈ [(1 : Int32), 2, 3, 4, 5] → vp_in (x3 + c) L) {σ τ : Sg} (hR : Rel σ τ) (hback : ∀ σ τ, Rel σ τ → Y w A g Q 1344 [some (.ref b), some (.ref (ad w 0)), some (.ref (ad wm 0)), some (.int x3)] [] k n (wsL shC w σ ++ wsL shM wm τ)) : Y w A g Q 1084 [some (.ref b), some (.ref (ad w 0)), some (.ref (ad wm 0)), some (.int x3)] [] k n (wsL shC w σ ++ wsL shM wm τ) := by
  refine y_aload1 hg dL_law_1084 rfl ?_
  refine y_aload0 hg dL_law_1085 rfl ?_
  refine y_iload3 hg dL_law_1086 rfl ?_
  refine y_ic hg dL_law_1087 ic_1 rfl ?_
  refine y_iadd hg dL_law_1088 rfl ?_
  refine y_sld hg hX (hv 1 (by decide)) dL_law_1089 rfl ?_
  refine y_aload0 hg dL_law_1090 rfl ?_
  refine y_iload3 hg dL_law_1091 rfl ?_
  refine y_ic hg dL_law_1092 ic_2 rfl ?_
  refine y_iadd hg dL_law_1093 rfl ?_
  refine y_sld hg hX (hv 2 (by decide)) dL_law_1094 rfl ?_
  refine y_aload0 hg dL_law_1095 rfl ?_
  refine y_iload3 hg dL_law_1096 rfl ?_
  refine y_ic hg dL_law_1097 ic_3 rfl ?_
  refine y_iadd hg dL_law_1098 rfl ?_
  refine y_sld hg hX (hv 3 (by decide)) dL_law_1099 rfl ?_
  refine y_call (S := shC) (wx := w) hg hsw rfl rfl (fun _ h => h) (As := [.int (xs (ix (x3 + 1))), .int (xs (ix (x3 + 2))), .int (xs (ix (x3 + 3)))]) (xB_put (w := w) (gL g) (eq_put hR)) kC_0 (by decide) rfl im_X7_put se_X7_put mi_X7_put ml_L_133 rfl rfl hk1 hk2 rfl rfl rfl dL_law_1100 rfl (fun r1 σ hR => ?_)
  refine y_swap ?_
  refine y_aload2 hg dL_law_1103 rfl ?_
  refine y_aload0 hg dL_law_1104 rfl ?_
  refine y_iload3 hg dL_law_1105 rfl ?_
  refine y_ic hg dL_law_1106 ic_1 rfl ?_
  refine y_iadd hg dL_law_1107 rfl ?_
  refine y_sld hg hX (hv 1 (by decide)) dL_law_1108 rfl ?_
  refine y_aload0 hg dL_law_1109 rfl ?_
  refine y_iload3 hg dL_law_1110 rfl ?_
  refine y_ic hg dL_law_1111 ic_2 rfl ?_
  refine y_iadd hg dL_law_1112 rfl ?_
  refine y_sld hg hX (hv 2 (by decide)) dL_law_1113 rfl ?_
  refine y_aload0 hg dL_law_1114 rfl ?_
  refine y_iload3 hg dL_law_1115 rfl ?_
  refine y_ic hg dL_law_1116 ic_3 rfl ?_
  refine y_iadd hg dL_law_1117 rfl ?_
  refine y_sld hg hX (hv 3 (by decide)) dL_law_1118 rfl ?_
  refine y_call (S := shM) (wx := wm) hg hsm hd1 hd2 hd3 (As := [.int (xs (ix (x3 + 1))), .int (xs (ix (x3 + 2))), .int (xs (ix (x3 + 3)))]) (xM_put (w := wm) (gL g) hR) kM_0 (by decide) rfl im_X8_put se_X8_put mi_X8_put ml_L_136 rfl rfl hk1 hk2 rfl rfl rfl dL_law_1119 rfl (fun r2 τ hR => ?_)
  refine y_swap ?_
  exact y_eqT hg dL_law_1122 (tg := 1344) (by decide) hR.1 (hback _ _ hR.2)
set_option maxRecDepth 100000 in
set_option maxHeartbeats 4000000 in
theorem lc_29 {w wm : Wc} {A : Nat → Prop} {g : Gx} {Q : State → Prop} (hg : OY w A g 2000 600000 7302250 cL_law "BagBottomLaw" 4) (hsw : YS A w g) (hsm : YS A wm g) (hd1 : dG wm = dG w) (hd2 : tys wm = tys w) (hd3 : ∀ s, SR w s → SR wm s) {b L : Nat} {xs : Nat → Int32} (hX : YX A g b L xs) {x3 : Int32} {k n : Nat} (hk1 : Nat.ble k 600000 = true) (hk2 : Nat.ble n 7302250 = true) (hv : ∀ c : Int32, c ∈ [(1 : Int32), 2, 3, 4, 5] → vp_in (x3 + c) L) {σ τ : Sg} (hR : Rel σ τ) (hback : ∀ σ τ, Rel σ τ → Y w A g Q 1344 [some (.ref b), some (.ref (ad w 0)), some (.ref (ad wm 0)), some (.int x3)] [] k n (wsL shC w σ ++ wsL shM wm τ)) : Y w A g Q 1127 [some (.ref b), some (.ref (ad w 0)), some (.ref (ad wm 0)), some (.int x3)] [] k n (wsL shC w σ ++ wsL shM wm τ) := by
  refine y_aload1 hg dL_law_1127 rfl ?_
  refine y_aload0 hg dL_law_1128 rfl ?_
  refine y_iload3 hg dL_law_1129 rfl ?_
  refine y_ic hg dL_law_1130 ic_1 rfl ?_
  refine y_iadd hg dL_law_1131 rfl ?_
  refine y_sld hg hX (hv 1 (by decide)) dL_law_1132 rfl ?_
  refine y_aload0 hg dL_law_1133 rfl ?_
  refine y_iload3 hg dL_law_1134 rfl ?_
  refine y_ic hg dL_law_1135 ic_2 rfl ?_
  refine y_iadd hg dL_law_1136 rfl ?_
  refine y_sld hg hX (hv 2 (by decide)) dL_law_1137 rfl ?_
  refine y_aload0 hg dL_law_1138 rfl ?_
  refine y_iload3 hg dL_law_1139 rfl ?_
  refine y_ic hg dL_law_1140 ic_3 rfl ?_
  refine y_iadd hg dL_law_1141 rfl ?_
  refine y_sld hg hX (hv 3 (by decide)) dL_law_1142 rfl ?_
  refine y_aload0 hg dL_law_1143 rfl ?_
  refine y_iload3 hg dL_law_1144 rfl ?_
  refine y_ic hg dL_law_1145 ic_4 rfl ?_
  refine y_iadd hg dL_law_1146 rfl ?_
  refine y_sld hg hX (hv 4 (by decide)) dL_law_1147 rfl ?_
  refine y_aload0 hg dL_law_1148 rfl ?_
  refine y_iload3 hg dL_law_1149 rfl ?_
  refine y_ic hg dL_law_1150 ic_5 rfl ?_
  refine y_iadd hg dL_law_1151 rfl ?_
  refine y_sld hg hX (hv 5 (by decide)) dL_law_1152 rfl ?_
  refine y_call (S := shC) (wx := w) hg hsw rfl rfl (fun _ h => h) (As := [.int (xs (ix (x3 + 1))), .int (xs (ix (x3 + 2))), .int (xs (ix (x3 + 3))), .int (xs (ix (x3 + 4))), .int (xs (ix (x3 + 5)))]) (xB_move (w := w) (gL g) (eq_move hR)) kC_0 (by decide) rfl im_X7_move se_X7_move mi_X7_move ml_L_137 rfl rfl hk1 hk2 rfl rfl rfl dL_law_1153 rfl (fun r1 σ hR => ?_)
  refine y_swap ?_
  refine y_aload2 hg dL_law_1156 rfl ?_
  refine y_aload0 hg dL_law_1157 rfl ?_
  refine y_iload3 hg dL_law_1158 rfl ?_
  refine y_ic hg dL_law_1159 ic_1 rfl ?_
  refine y_iadd hg dL_law_1160 rfl ?_
  refine y_sld hg hX (hv 1 (by decide)) dL_law_1161 rfl ?_
  refine y_aload0 hg dL_law_1162 rfl ?_
  refine y_iload3 hg dL_law_1163 rfl ?_
  refine y_ic hg dL_law_1164 ic_2 rfl ?_
  refine y_iadd hg dL_law_1165 rfl ?_
  refine y_sld hg hX (hv 2 (by decide)) dL_law_1166 rfl ?_
  refine y_aload0 hg dL_law_1167 rfl ?_
  refine y_iload3 hg dL_law_1168 rfl ?_
  refine y_ic hg dL_law_1169 ic_3 rfl ?_
  refine y_iadd hg dL_law_1170 rfl ?_
  refine y_sld hg hX (hv 3 (by decide)) dL_law_1171 rfl ?_
  refine y_aload0 hg dL_law_1172 rfl ?_
  refine y_iload3 hg dL_law_1173 rfl ?_
  refine y_ic hg dL_law_1174 ic_4 rfl ?_
  refine y_iadd hg dL_law_1175 rfl ?_
  refine y_sld hg hX (hv 4 (by decide)) dL_law_1176 rfl ?_
  refine y_aload0 hg dL_law_1177 rfl ?_
  refine y_iload3 hg dL_law_1178 rfl ?_
  refine y_ic hg dL_law_1179 ic_5 rfl ?_
  refine y_iadd hg dL_law_1180 rfl ?_
  refine y_sld hg hX (hv 5 (by decide)) dL_law_1181 rfl ?_
  refine y_call (S := shM) (wx := wm) hg hsm hd1 hd2 hd3 (As := [.int (xs (ix (x3 + 1))), .int (xs (ix (x3 + 2))), .int (xs (ix (x3 + 3))), .int (xs (ix (x3 + 4))), .int (xs (ix (x3 + 5)))]) (xM_move (w := wm) (gL g) hR) kM_0 (by decide) rfl im_X8_move se_X8_move mi_X8_move ml_L_141 rfl rfl hk1 hk2 rfl rfl rfl dL_law_1182 rfl (fun r2 τ hR => ?_)
  refine y_swap ?_
  exact y_eqT hg dL_law_1185 (tg := 1344) (by decide) hR.1 (hback _ _ hR.2)
set_option maxRecDepth 100000 in
set_option maxHeartbeats 4000000 in
theorem lc_30 {w wm : Wc} {A : Nat → Prop} {g : Gx} {Q : State → Prop} (hg : OY w A g 2000 600000 7302250 cL_law "BagBottomLaw" 4) (hsw : YS A w g) (hsm : YS A wm g) (hd1 : dG wm = dG w) (hd2 : tys wm = tys w) (hd3 : ∀ s, SR w s → SR wm s) {b L : Nat} {xs : Nat → Int32} (hX : YX A g b L xs) {x3 : Int32} {k n : Nat} (hk1 : Nat.ble k 600000 = true) (hk2 : Nat.ble n 7302250 = true) (hv : ∀ c : Int32, c ∈ [(1 : Int32), 2, 3, 4, 5] → vp_in (x3 + c) L) {σ τ : Sg} (hR : Rel σ τ) (hback : ∀ σ τ, Rel σ τ → Y w A g Q 1344 [some (.ref b), some (.ref (ad w 0)), some (.ref (ad wm 0)), some (.int x3)] [] k n (wsL shC w σ ++ wsL shM wm τ)) : Y w A g Q 1190 [some (.ref b), some (.ref (ad w 0)), some (.ref (ad wm 0)), some (.int x3)] [] k n (wsL shC w σ ++ wsL shM wm τ) := by
  refine y_aload1 hg dL_law_1190 rfl ?_
  refine y_aload0 hg dL_law_1191 rfl ?_
  refine y_iload3 hg dL_law_1192 rfl ?_
  refine y_ic hg dL_law_1193 ic_1 rfl ?_
  refine y_iadd hg dL_law_1194 rfl ?_
  refine y_sld hg hX (hv 1 (by decide)) dL_law_1195 rfl ?_
  refine y_call (S := shC) (wx := w) hg hsw rfl rfl (fun _ h => h) (As := [.int (xs (ix (x3 + 1)))]) (xB_weights (w := w) (gL g) (eq_weights hR)) kC_0 (by decide) rfl im_X7_weights se_X7_weights mi_X7_weights ml_L_142 rfl rfl hk1 hk2 rfl rfl rfl dL_law_1196 rfl (fun r1 σ hR => ?_)
  refine y_swap ?_
  refine y_aload2 hg dL_law_1199 rfl ?_
  refine y_aload0 hg dL_law_1200 rfl ?_
  refine y_iload3 hg dL_law_1201 rfl ?_
  refine y_ic hg dL_law_1202 ic_1 rfl ?_
  refine y_iadd hg dL_law_1203 rfl ?_
  refine y_sld hg hX (hv 1 (by decide)) dL_law_1204 rfl ?_
  refine y_call (S := shM) (wx := wm) hg hsm hd1 hd2 hd3 (As := [.int (xs (ix (x3 + 1)))]) (xM_weights (w := wm) (gL g) hR) kM_0 (by decide) rfl im_X8_weights se_X8_weights mi_X8_weights ml_L_145 rfl rfl hk1 hk2 rfl rfl rfl dL_law_1205 rfl (fun r2 τ hR => ?_)
  refine y_swap ?_
  exact y_eqT hg dL_law_1208 (tg := 1344) (by decide) hR.1 (hback _ _ hR.2)
set_option maxRecDepth 100000 in
set_option maxHeartbeats 4000000 in
theorem lc_31 {w wm : Wc} {A : Nat → Prop} {g : Gx} {Q : State → Prop} (hg : OY w A g 2000 600000 7302250 cL_law "BagBottomLaw" 4) (hsw : YS A w g) (hsm : YS A wm g) (hd1 : dG wm = dG w) (hd2 : tys wm = tys w) (hd3 : ∀ s, SR w s → SR wm s) {b L : Nat} {xs : Nat → Int32} (hX : YX A g b L xs) {x3 : Int32} {k n : Nat} (hk1 : Nat.ble k 600000 = true) (hk2 : Nat.ble n 7302250 = true) (hv : ∀ c : Int32, c ∈ [(1 : Int32), 2, 3, 4, 5] → vp_in (x3 + c) L) {σ τ : Sg} (hR : Rel σ τ) (hback : ∀ σ τ, Rel σ τ → Y w A g Q 1344 [some (.ref b), some (.ref (ad w 0)), some (.ref (ad wm 0)), some (.int x3)] [] k n (wsL shC w σ ++ wsL shM wm τ)) : Y w A g Q 1213 [some (.ref b), some (.ref (ad w 0)), some (.ref (ad wm 0)), some (.int x3)] [] k n (wsL shC w σ ++ wsL shM wm τ) := by
  refine y_aload1 hg dL_law_1213 rfl ?_
  refine y_aload0 hg dL_law_1214 rfl ?_
  refine y_iload3 hg dL_law_1215 rfl ?_
  refine y_ic hg dL_law_1216 ic_1 rfl ?_
  refine y_iadd hg dL_law_1217 rfl ?_
  refine y_sld hg hX (hv 1 (by decide)) dL_law_1218 rfl ?_
  refine y_call (S := shC) (wx := w) hg hsw rfl rfl (fun _ h => h) (As := [.int (xs (ix (x3 + 1)))]) (xB_judge (w := w) (gL g) (eq_judge hR)) kC_0 (by decide) rfl im_X7_judge se_X7_judge mi_X7_judge ml_L_146 rfl rfl hk1 hk2 rfl rfl rfl dL_law_1219 rfl (fun r1 σ hR => ?_)
  refine y_swap ?_
  refine y_aload2 hg dL_law_1222 rfl ?_
  refine y_aload0 hg dL_law_1223 rfl ?_
  refine y_iload3 hg dL_law_1224 rfl ?_
  refine y_ic hg dL_law_1225 ic_1 rfl ?_
  refine y_iadd hg dL_law_1226 rfl ?_
  refine y_sld hg hX (hv 1 (by decide)) dL_law_1227 rfl ?_
  refine y_call (S := shM) (wx := wm) hg hsm hd1 hd2 hd3 (As := [.int (xs (ix (x3 + 1)))]) (xM_judge (w := wm) (gL g) hR) kM_0 (by decide) rfl im_X8_judge se_X8_judge mi_X8_judge ml_L_149 rfl rfl hk1 hk2 rfl rfl rfl dL_law_1228 rfl (fun r2 τ hR => ?_)
  refine y_swap ?_
  exact y_eqT hg dL_law_1231 (tg := 1344) (by decide) hR.1 (hback _ _ hR.2)
set_option maxRecDepth 100000 in
set_option maxHeartbeats 4000000 in
theorem lc_32 {w wm : Wc} {A : Nat → Prop} {g : Gx} {Q : State → Prop} (hg : OY w A g 2000 600000 7302250 cL_law "BagBottomLaw" 4) (hsw : YS A w g) (hsm : YS A wm g) (hd1 : dG wm = dG w) (hd2 : tys wm = tys w) (hd3 : ∀ s, SR w s → SR wm s) {b L : Nat} {xs : Nat → Int32} (hX : YX A g b L xs) {x3 : Int32} {k n : Nat} (hk1 : Nat.ble k 600000 = true) (hk2 : Nat.ble n 7302250 = true) (hv : ∀ c : Int32, c ∈ [(1 : Int32), 2, 3, 4, 5] → vp_in (x3 + c) L) {σ τ : Sg} (hR : Rel σ τ) (hback : ∀ σ τ, Rel σ τ → Y w A g Q 1344 [some (.ref b), some (.ref (ad w 0)), some (.ref (ad wm 0)), some (.int x3)] [] k n (wsL shC w σ ++ wsL shM wm τ)) : Y w A g Q 1236 [some (.ref b), some (.ref (ad w 0)), some (.ref (ad wm 0)), some (.int x3)] [] k n (wsL shC w σ ++ wsL shM wm τ) := by
  refine y_aload1 hg dL_law_1236 rfl ?_
  refine y_call (S := shC) (wx := w) hg hsw rfl rfl (fun _ h => h) (As := []) (xB_image (w := w) (gL g) (eq_image hR)) kC_0 (by decide) rfl im_X7_image se_X7_image mi_X7_image ml_L_150 rfl rfl hk1 hk2 rfl rfl rfl dL_law_1237 rfl (fun r1 σ hR => ?_)
  refine y_swap ?_
  refine y_aload2 hg dL_law_1240 rfl ?_
  refine y_call (S := shM) (wx := wm) hg hsm hd1 hd2 hd3 (As := []) (xM_image (w := wm) (gL g) hR) kM_0 (by decide) rfl im_X8_image se_X8_image mi_X8_image ml_L_153 rfl rfl hk1 hk2 rfl rfl rfl dL_law_1241 rfl (fun r2 τ hR => ?_)
  refine y_swap ?_
  exact y_eqT hg dL_law_1244 (tg := 1344) (by decide) hR.1 (hback _ _ hR.2)
set_option maxRecDepth 100000 in
set_option maxHeartbeats 4000000 in
theorem lc_33 {w wm : Wc} {A : Nat → Prop} {g : Gx} {Q : State → Prop} (hg : OY w A g 2000 600000 7302250 cL_law "BagBottomLaw" 4) (hsw : YS A w g) (hsm : YS A wm g) (hd1 : dG wm = dG w) (hd2 : tys wm = tys w) (hd3 : ∀ s, SR w s → SR wm s) {b L : Nat} {xs : Nat → Int32} (hX : YX A g b L xs) {x3 : Int32} {k n : Nat} (hk1 : Nat.ble k 600000 = true) (hk2 : Nat.ble n 7302250 = true) (hv : ∀ c : Int32, c ∈ [(1 : Int32), 2, 3, 4, 5] → vp_in (x3 + c) L) {σ τ : Sg} (hR : Rel σ τ) (hback : ∀ σ τ, Rel σ τ → Y w A g Q 1344 [some (.ref b), some (.ref (ad w 0)), some (.ref (ad wm 0)), some (.int x3)] [] k n (wsL shC w σ ++ wsL shM wm τ)) : Y w A g Q 1249 [some (.ref b), some (.ref (ad w 0)), some (.ref (ad wm 0)), some (.int x3)] [] k n (wsL shC w σ ++ wsL shM wm τ) := by
  refine y_aload1 hg dL_law_1249 rfl ?_
  refine y_call (S := shC) (wx := w) hg hsw rfl rfl (fun _ h => h) (As := []) (xB_restore (w := w) (gL g) (eq_restore hR)) kC_0 (by decide) rfl im_X7_restore se_X7_restore mi_X7_restore ml_L_154 rfl rfl hk1 hk2 rfl rfl rfl dL_law_1250 rfl (fun r1 σ hR => ?_)
  refine y_swap ?_
  refine y_aload2 hg dL_law_1253 rfl ?_
  refine y_call (S := shM) (wx := wm) hg hsm hd1 hd2 hd3 (As := []) (xM_restore (w := wm) (gL g) hR) kM_0 (by decide) rfl im_X8_restore se_X8_restore mi_X8_restore ml_L_157 rfl rfl hk1 hk2 rfl rfl rfl dL_law_1254 rfl (fun r2 τ hR => ?_)
  refine y_swap ?_
  exact y_eqT hg dL_law_1257 (tg := 1344) (by decide) hR.1 (hback _ _ hR.2)
set_option maxRecDepth 100000 in
set_option maxHeartbeats 4000000 in
theorem lc_34 {w wm : Wc} {A : Nat → Prop} {g : Gx} {Q : State → Prop} (hg : OY w A g 2000 600000 7302250 cL_law "BagBottomLaw" 4) (hsw : YS A w g) (hsm : YS A wm g) (hd1 : dG wm = dG w) (hd2 : tys wm = tys w) (hd3 : ∀ s, SR w s → SR wm s) {b L : Nat} {xs : Nat → Int32} (hX : YX A g b L xs) {x3 : Int32} {k n : Nat} (hk1 : Nat.ble k 600000 = true) (hk2 : Nat.ble n 7302250 = true) (hv : ∀ c : Int32, c ∈ [(1 : Int32), 2, 3, 4, 5] → vp_in (x3 + c) L) {σ τ : Sg} (hR : Rel σ τ) (hback : ∀ σ τ, Rel σ τ → Y w A g Q 1344 [some (.ref b), some (.ref (ad w 0)), some (.ref (ad wm 0)), some (.int x3)] [] k n (wsL shC w σ ++ wsL shM wm τ)) : Y w A g Q 1262 [some (.ref b), some (.ref (ad w 0)), some (.ref (ad wm 0)), some (.int x3)] [] k n (wsL shC w σ ++ wsL shM wm τ) := by
  refine y_aload1 hg dL_law_1262 rfl ?_
  refine y_aload0 hg dL_law_1263 rfl ?_
  refine y_iload3 hg dL_law_1264 rfl ?_
  refine y_ic hg dL_law_1265 ic_1 rfl ?_
  refine y_iadd hg dL_law_1266 rfl ?_
  refine y_sld hg hX (hv 1 (by decide)) dL_law_1267 rfl ?_
  refine y_call (S := shC) (wx := w) hg hsw rfl rfl (fun _ h => h) (As := [.int (xs (ix (x3 + 1)))]) (xB_tell (w := w) (gL g) (eq_tell hR)) kC_0 (by decide) rfl im_X7_tell se_X7_tell mi_X7_tell ml_L_158 rfl rfl hk1 hk2 rfl rfl rfl dL_law_1268 rfl (fun r1 σ hR => ?_)
  refine y_swap ?_
  refine y_aload2 hg dL_law_1271 rfl ?_
  refine y_aload0 hg dL_law_1272 rfl ?_
  refine y_iload3 hg dL_law_1273 rfl ?_
  refine y_ic hg dL_law_1274 ic_1 rfl ?_
  refine y_iadd hg dL_law_1275 rfl ?_
  refine y_sld hg hX (hv 1 (by decide)) dL_law_1276 rfl ?_
  refine y_call (S := shM) (wx := wm) hg hsm hd1 hd2 hd3 (As := [.int (xs (ix (x3 + 1)))]) (xM_tell (w := wm) (gL g) hR) kM_0 (by decide) rfl im_X8_tell se_X8_tell mi_X8_tell ml_L_161 rfl rfl hk1 hk2 rfl rfl rfl dL_law_1277 rfl (fun r2 τ hR => ?_)
  refine y_swap ?_
  exact y_eqT hg dL_law_1280 (tg := 1344) (by decide) hR.1 (hback _ _ hR.2)
set_option maxRecDepth 100000 in
set_option maxHeartbeats 4000000 in
theorem lc_35 {w wm : Wc} {A : Nat → Prop} {g : Gx} {Q : State → Prop} (hg : OY w A g 2000 600000 7302250 cL_law "BagBottomLaw" 4) (hsw : YS A w g) (hsm : YS A wm g) (hd1 : dG wm = dG w) (hd2 : tys wm = tys w) (hd3 : ∀ s, SR w s → SR wm s) {b L : Nat} {xs : Nat → Int32} (hX : YX A g b L xs) {x3 : Int32} {k n : Nat} (hk1 : Nat.ble k 600000 = true) (hk2 : Nat.ble n 7302250 = true) (hv : ∀ c : Int32, c ∈ [(1 : Int32), 2, 3, 4, 5] → vp_in (x3 + c) L) {σ τ : Sg} (hR : Rel σ τ) (hback : ∀ σ τ, Rel σ τ → Y w A g Q 1344 [some (.ref b), some (.ref (ad w 0)), some (.ref (ad wm 0)), some (.int x3)] [] k n (wsL shC w σ ++ wsL shM wm τ)) : Y w A g Q 1285 [some (.ref b), some (.ref (ad w 0)), some (.ref (ad wm 0)), some (.int x3)] [] k n (wsL shC w σ ++ wsL shM wm τ) := by
  refine y_aload1 hg dL_law_1285 rfl ?_
  refine y_call (S := shC) (wx := w) hg hsw rfl rfl (fun _ h => h) (As := []) (xB_check (w := w) (gL g) (eq_check hR)) kC_0 (by decide) rfl im_X7_check se_X7_check mi_X7_check ml_L_162 rfl rfl hk1 hk2 rfl rfl rfl dL_law_1286 rfl (fun r1 σ hR => ?_)
  refine y_swap ?_
  refine y_aload2 hg dL_law_1289 rfl ?_
  refine y_call (S := shM) (wx := wm) hg hsm hd1 hd2 hd3 (As := []) (xM_check (w := wm) (gL g) hR) kM_0 (by decide) rfl im_X8_check se_X8_check mi_X8_check ml_L_165 rfl rfl hk1 hk2 rfl rfl rfl dL_law_1290 rfl (fun r2 τ hR => ?_)
  refine y_swap ?_
  exact y_eqT hg dL_law_1293 (tg := 1344) (by decide) hR.1 (hback _ _ hR.2)
set_option maxRecDepth 100000 in
set_option maxHeartbeats 4000000 in
theorem lc_36 {w wm : Wc} {A : Nat → Prop} {g : Gx} {Q : State → Prop} (hg : OY w A g 2000 600000 7302250 cL_law "BagBottomLaw" 4) (hsw : YS A w g) (hsm : YS A wm g) (hd1 : dG wm = dG w) (hd2 : tys wm = tys w) (hd3 : ∀ s, SR w s → SR wm s) {b L : Nat} {xs : Nat → Int32} (hX : YX A g b L xs) {x3 : Int32} {k n : Nat} (hk1 : Nat.ble k 600000 = true) (hk2 : Nat.ble n 7302250 = true) (hv : ∀ c : Int32, c ∈ [(1 : Int32), 2, 3, 4, 5] → vp_in (x3 + c) L) {σ τ : Sg} (hR : Rel σ τ) (hback : ∀ σ τ, Rel σ τ → Y w A g Q 1344 [some (.ref b), some (.ref (ad w 0)), some (.ref (ad wm 0)), some (.int x3)] [] k n (wsL shC w σ ++ wsL shM wm τ)) : Y w A g Q 1298 [some (.ref b), some (.ref (ad w 0)), some (.ref (ad wm 0)), some (.int x3)] [] k n (wsL shC w σ ++ wsL shM wm τ) := by
  refine y_aload1 hg dL_law_1298 rfl ?_
  refine y_aload0 hg dL_law_1299 rfl ?_
  refine y_iload3 hg dL_law_1300 rfl ?_
  refine y_ic hg dL_law_1301 ic_1 rfl ?_
  refine y_iadd hg dL_law_1302 rfl ?_
  refine y_sld hg hX (hv 1 (by decide)) dL_law_1303 rfl ?_
  refine y_call (S := shC) (wx := w) hg hsw rfl rfl (fun _ h => h) (As := [.int (xs (ix (x3 + 1)))]) (xB_count (w := w) (gL g) (eq_count hR)) kC_0 (by decide) rfl im_X7_count se_X7_count mi_X7_count ml_L_166 rfl rfl hk1 hk2 rfl rfl rfl dL_law_1304 rfl (fun r1 σ hR => ?_)
  refine y_swap ?_
  refine y_aload2 hg dL_law_1307 rfl ?_
  refine y_aload0 hg dL_law_1308 rfl ?_
  refine y_iload3 hg dL_law_1309 rfl ?_
  refine y_ic hg dL_law_1310 ic_1 rfl ?_
  refine y_iadd hg dL_law_1311 rfl ?_
  refine y_sld hg hX (hv 1 (by decide)) dL_law_1312 rfl ?_
  refine y_call (S := shM) (wx := wm) hg hsm hd1 hd2 hd3 (As := [.int (xs (ix (x3 + 1)))]) (xM_count (w := wm) (gL g) hR) kM_0 (by decide) rfl im_X8_count se_X8_count mi_X8_count ml_L_169 rfl rfl hk1 hk2 rfl rfl rfl dL_law_1313 rfl (fun r2 τ hR => ?_)
  refine y_swap ?_
  exact y_eqT hg dL_law_1316 (tg := 1344) (by decide) hR.1 (hback _ _ hR.2)
set_option maxRecDepth 100000 in
set_option maxHeartbeats 4000000 in
theorem lc_37 {w wm : Wc} {A : Nat → Prop} {g : Gx} {Q : State → Prop} (hg : OY w A g 2000 600000 7302250 cL_law "BagBottomLaw" 4) (hsw : YS A w g) (hsm : YS A wm g) (hd1 : dG wm = dG w) (hd2 : tys wm = tys w) (hd3 : ∀ s, SR w s → SR wm s) {b L : Nat} {xs : Nat → Int32} (hX : YX A g b L xs) {x3 : Int32} {k n : Nat} (hk1 : Nat.ble k 600000 = true) (hk2 : Nat.ble n 7302250 = true) (hv : ∀ c : Int32, c ∈ [(1 : Int32), 2, 3, 4, 5] → vp_in (x3 + c) L) {σ τ : Sg} (hR : Rel σ τ) (hback : ∀ σ τ, Rel σ τ → Y w A g Q 1344 [some (.ref b), some (.ref (ad w 0)), some (.ref (ad wm 0)), some (.int x3)] [] k n (wsL shC w σ ++ wsL shM wm τ)) : Y w A g Q 1321 [some (.ref b), some (.ref (ad w 0)), some (.ref (ad wm 0)), some (.int x3)] [] k n (wsL shC w σ ++ wsL shM wm τ) := by
  refine y_aload1 hg dL_law_1321 rfl ?_
  refine y_aload0 hg dL_law_1322 rfl ?_
  refine y_iload3 hg dL_law_1323 rfl ?_
  refine y_ic hg dL_law_1324 ic_1 rfl ?_
  refine y_iadd hg dL_law_1325 rfl ?_
  refine y_sld hg hX (hv 1 (by decide)) dL_law_1326 rfl ?_
  refine y_call (S := shC) (wx := w) hg hsw rfl rfl (fun _ h => h) (As := [.int (xs (ix (x3 + 1)))]) (xB_told (w := w) (gL g) (eq_told hR)) kC_0 (by decide) rfl im_X7_told se_X7_told mi_X7_told ml_L_170 rfl rfl hk1 hk2 rfl rfl rfl dL_law_1327 rfl (fun r1 σ hR => ?_)
  refine y_swap ?_
  refine y_aload2 hg dL_law_1330 rfl ?_
  refine y_aload0 hg dL_law_1331 rfl ?_
  refine y_iload3 hg dL_law_1332 rfl ?_
  refine y_ic hg dL_law_1333 ic_1 rfl ?_
  refine y_iadd hg dL_law_1334 rfl ?_
  refine y_sld hg hX (hv 1 (by decide)) dL_law_1335 rfl ?_
  refine y_call (S := shM) (wx := wm) hg hsm hd1 hd2 hd3 (As := [.int (xs (ix (x3 + 1)))]) (xM_told (w := wm) (gL g) hR) kM_0 (by decide) rfl im_X8_told se_X8_told mi_X8_told ml_L_173 rfl rfl hk1 hk2 rfl rfl rfl dL_law_1336 rfl (fun r2 τ hR => ?_)
  refine y_swap ?_
  exact y_eqT hg dL_law_1339 (tg := 1344) (by decide) hR.1 (hback _ _ hR.2)
set_option maxRecDepth 100000 in
set_option maxHeartbeats 8000000 in
theorem law_loop {w wm : Wc} {A : Nat → Prop} {g : Gx} {Q : State → Prop} (hg : OY w A g 2000 600000 7302250 cL_law "BagBottomLaw" 4) (hsw : YS A w g) (hsm : YS A wm g) (hd1 : dG wm = dG w) (hd2 : tys wm = tys w) (hd3 : ∀ s, SR w s → SR wm s) {b L : Nat} {xs : Nat → Int32} (hX : YX A g b L xs) {k n : Nat} (hk1 : Nat.ble k 600000 = true) (hk2 : Nat.ble n 7302250 = true) (hL : L ≤ 3072) (hend : ∀ (ls : List (Option Value)) (ws : va_W), Y w A g Q 1350 ls [] k n ws) : ∀ (m i : Nat), i ≤ L + 6 → L + 7 ≤ i + m → ∀ (x3 : Int32), x3 = nI i → ∀ (σ τ : Sg), Rel σ τ → Y w A g Q 18 [some (.ref b), some (.ref (ad w 0)), some (.ref (ad wm 0)), some (.int x3)] [] k n (wsL shC w σ ++ wsL shM wm τ) := by
  intro m
  induction m with
  | zero => intro i h1 h2; omega
  | succ m ih =>
    intro i hi hm x3 ex σ τ hR
    refine y_iload3 hg dL_law_18 rfl ?_
    refine y_aload0 hg dL_law_19 rfl ?_
    refine y_slen hg hX dL_law_20 rfl ?_
    refine y_bi hg dL_law_21 (v := 6) (by decide) rfl ?_
    refine y_isub hg dL_law_23 rfl ?_
    refine y_gt hg dL_law_24 (tg := 1350) (by decide) rfl (fun _ => hend _ _) (fun hle => ?_)
    have hi6 : i + 6 ≤ L := by
      have h1 := mt Int32.lt_iff_toInt_lt.mpr hle
      rw [ex, nI_toInt (by omega)] at h1
      have h2 : (nI L - 6).toInt = (L : Int) - 6 := pk_sub_toInt (a := L) (b := 6) (by omega) (by omega)
      rw [h2] at h1
      omega
    have h0 : vp_in x3 L := by rw [ex]; exact vp_in_nI (by omega) (by omega)
    have hv : ∀ c : Int32, c ∈ [(1 : Int32), 2, 3, 4, 5] → vp_in (x3 + c) L := by
      intro c hc
      rw [ex]
      simp only [List.mem_cons, List.not_mem_nil, or_false] at hc
      rcases hc with rfl | rfl | rfl | rfl | rfl
      · rw [show nI i + 1 = nI (i + 1) from nI_add i 1]; exact vp_in_nI (by omega) (by omega)
      · rw [show nI i + 2 = nI (i + 2) from nI_add i 2]; exact vp_in_nI (by omega) (by omega)
      · rw [show nI i + 3 = nI (i + 3) from nI_add i 3]; exact vp_in_nI (by omega) (by omega)
      · rw [show nI i + 4 = nI (i + 4) from nI_add i 4]; exact vp_in_nI (by omega) (by omega)
      · rw [show nI i + 5 = nI (i + 5) from nI_add i 5]; exact vp_in_nI (by omega) (by omega)
    have hback : ∀ σ τ, Rel σ τ → Y w A g Q 1344 [some (.ref b), some (.ref (ad w 0)), some (.ref (ad wm 0)), some (.int x3)] [] k n (wsL shC w σ ++ wsL shM wm τ) := by
      intro σ τ hR
      refine y_iinc3 hg dL_law_1344 (v := 6) (by decide) rfl rfl rfl ?_
      refine y_goto hg dL_law_1347 (pc' := 18) (by decide) ?_
      exact ih (i + 6) (by omega) (by omega) (x3 + 6) (by rw [ex]; exact nI_add i 6) σ τ hR
    refine y_aload0 hg dL_law_27 rfl ?_
    refine y_iload3 hg dL_law_28 rfl ?_
    refine y_sld hg hX h0 dL_law_29 rfl ?_
    refine y_bi hg dL_law_30 (v := 63) (by decide) rfl ?_
    refine y_iand hg dL_law_32 rfl ?_
    generalize xs (ix x3) &&& 63 = v
    by_cases c0 : v = 0
    · exact y_tab hg dL_law_33 (ps := [(0, 167), (1, 210), (2, 243), (3, 276), (4, 309), (5, 342), (6, 365), (7, 388), (8, 411), (9, 434), (10, 497), (11, 520), (12, 543), (13, 596), (14, 629), (15, 662), (16, 695), (17, 718), (18, 741), (19, 764), (20, 797), (21, 810), (22, 843), (23, 886), (24, 919), (25, 942), (26, 985), (27, 1008), (28, 1051), (29, 1094), (30, 1157), (31, 1180), (32, 1203), (33, 1216), (34, 1229), (35, 1252), (36, 1265), (37, 1288)]) rfl (tg := 200) (by rw [c0]; decide) (lc_0 hg hsw hsm hd1 hd2 hd3 hX hk1 hk2 hv hR hback)
    by_cases c1 : v = 1
    · exact y_tab hg dL_law_33 (ps := [(0, 167), (1, 210), (2, 243), (3, 276), (4, 309), (5, 342), (6, 365), (7, 388), (8, 411), (9, 434), (10, 497), (11, 520), (12, 543), (13, 596), (14, 629), (15, 662), (16, 695), (17, 718), (18, 741), (19, 764), (20, 797), (21, 810), (22, 843), (23, 886), (24, 919), (25, 942), (26, 985), (27, 1008), (28, 1051), (29, 1094), (30, 1157), (31, 1180), (32, 1203), (33, 1216), (34, 1229), (35, 1252), (36, 1265), (37, 1288)]) rfl (tg := 243) (by rw [c1]; decide) (lc_1 hg hsw hsm hd1 hd2 hd3 hX hk1 hk2 hv hR hback)
    by_cases c2 : v = 2
    · exact y_tab hg dL_law_33 (ps := [(0, 167), (1, 210), (2, 243), (3, 276), (4, 309), (5, 342), (6, 365), (7, 388), (8, 411), (9, 434), (10, 497), (11, 520), (12, 543), (13, 596), (14, 629), (15, 662), (16, 695), (17, 718), (18, 741), (19, 764), (20, 797), (21, 810), (22, 843), (23, 886), (24, 919), (25, 942), (26, 985), (27, 1008), (28, 1051), (29, 1094), (30, 1157), (31, 1180), (32, 1203), (33, 1216), (34, 1229), (35, 1252), (36, 1265), (37, 1288)]) rfl (tg := 276) (by rw [c2]; decide) (lc_2 hg hsw hsm hd1 hd2 hd3 hX hk1 hk2 hv hR hback)
    by_cases c3 : v = 3
    · exact y_tab hg dL_law_33 (ps := [(0, 167), (1, 210), (2, 243), (3, 276), (4, 309), (5, 342), (6, 365), (7, 388), (8, 411), (9, 434), (10, 497), (11, 520), (12, 543), (13, 596), (14, 629), (15, 662), (16, 695), (17, 718), (18, 741), (19, 764), (20, 797), (21, 810), (22, 843), (23, 886), (24, 919), (25, 942), (26, 985), (27, 1008), (28, 1051), (29, 1094), (30, 1157), (31, 1180), (32, 1203), (33, 1216), (34, 1229), (35, 1252), (36, 1265), (37, 1288)]) rfl (tg := 309) (by rw [c3]; decide) (lc_3 hg hsw hsm hd1 hd2 hd3 hX hk1 hk2 hv hR hback)
    by_cases c4 : v = 4
    · exact y_tab hg dL_law_33 (ps := [(0, 167), (1, 210), (2, 243), (3, 276), (4, 309), (5, 342), (6, 365), (7, 388), (8, 411), (9, 434), (10, 497), (11, 520), (12, 543), (13, 596), (14, 629), (15, 662), (16, 695), (17, 718), (18, 741), (19, 764), (20, 797), (21, 810), (22, 843), (23, 886), (24, 919), (25, 942), (26, 985), (27, 1008), (28, 1051), (29, 1094), (30, 1157), (31, 1180), (32, 1203), (33, 1216), (34, 1229), (35, 1252), (36, 1265), (37, 1288)]) rfl (tg := 342) (by rw [c4]; decide) (lc_4 hg hsw hsm hd1 hd2 hd3 hX hk1 hk2 hv hR hback)
    by_cases c5 : v = 5
    · exact y_tab hg dL_law_33 (ps := [(0, 167), (1, 210), (2, 243), (3, 276), (4, 309), (5, 342), (6, 365), (7, 388), (8, 411), (9, 434), (10, 497), (11, 520), (12, 543), (13, 596), (14, 629), (15, 662), (16, 695), (17, 718), (18, 741), (19, 764), (20, 797), (21, 810), (22, 843), (23, 886), (24, 919), (25, 942), (26, 985), (27, 1008), (28, 1051), (29, 1094), (30, 1157), (31, 1180), (32, 1203), (33, 1216), (34, 1229), (35, 1252), (36, 1265), (37, 1288)]) rfl (tg := 375) (by rw [c5]; decide) (lc_5 hg hsw hsm hd1 hd2 hd3 hX hk1 hk2 hv hR hback)
    by_cases c6 : v = 6
    · exact y_tab hg dL_law_33 (ps := [(0, 167), (1, 210), (2, 243), (3, 276), (4, 309), (5, 342), (6, 365), (7, 388), (8, 411), (9, 434), (10, 497), (11, 520), (12, 543), (13, 596), (14, 629), (15, 662), (16, 695), (17, 718), (18, 741), (19, 764), (20, 797), (21, 810), (22, 843), (23, 886), (24, 919), (25, 942), (26, 985), (27, 1008), (28, 1051), (29, 1094), (30, 1157), (31, 1180), (32, 1203), (33, 1216), (34, 1229), (35, 1252), (36, 1265), (37, 1288)]) rfl (tg := 398) (by rw [c6]; decide) (lc_6 hg hsw hsm hd1 hd2 hd3 hX hk1 hk2 hv hR hback)
    by_cases c7 : v = 7
    · exact y_tab hg dL_law_33 (ps := [(0, 167), (1, 210), (2, 243), (3, 276), (4, 309), (5, 342), (6, 365), (7, 388), (8, 411), (9, 434), (10, 497), (11, 520), (12, 543), (13, 596), (14, 629), (15, 662), (16, 695), (17, 718), (18, 741), (19, 764), (20, 797), (21, 810), (22, 843), (23, 886), (24, 919), (25, 942), (26, 985), (27, 1008), (28, 1051), (29, 1094), (30, 1157), (31, 1180), (32, 1203), (33, 1216), (34, 1229), (35, 1252), (36, 1265), (37, 1288)]) rfl (tg := 421) (by rw [c7]; decide) (lc_7 hg hsw hsm hd1 hd2 hd3 hX hk1 hk2 hv hR hback)
    by_cases c8 : v = 8
    · exact y_tab hg dL_law_33 (ps := [(0, 167), (1, 210), (2, 243), (3, 276), (4, 309), (5, 342), (6, 365), (7, 388), (8, 411), (9, 434), (10, 497), (11, 520), (12, 543), (13, 596), (14, 629), (15, 662), (16, 695), (17, 718), (18, 741), (19, 764), (20, 797), (21, 810), (22, 843), (23, 886), (24, 919), (25, 942), (26, 985), (27, 1008), (28, 1051), (29, 1094), (30, 1157), (31, 1180), (32, 1203), (33, 1216), (34, 1229), (35, 1252), (36, 1265), (37, 1288)]) rfl (tg := 444) (by rw [c8]; decide) (lc_8 hg hsw hsm hd1 hd2 hd3 hX hk1 hk2 hv hR hback)
    by_cases c9 : v = 9
    · exact y_tab hg dL_law_33 (ps := [(0, 167), (1, 210), (2, 243), (3, 276), (4, 309), (5, 342), (6, 365), (7, 388), (8, 411), (9, 434), (10, 497), (11, 520), (12, 543), (13, 596), (14, 629), (15, 662), (16, 695), (17, 718), (18, 741), (19, 764), (20, 797), (21, 810), (22, 843), (23, 886), (24, 919), (25, 942), (26, 985), (27, 1008), (28, 1051), (29, 1094), (30, 1157), (31, 1180), (32, 1203), (33, 1216), (34, 1229), (35, 1252), (36, 1265), (37, 1288)]) rfl (tg := 467) (by rw [c9]; decide) (lc_9 hg hsw hsm hd1 hd2 hd3 hX hk1 hk2 hv hR hback)
    by_cases c10 : v = 10
    · exact y_tab hg dL_law_33 (ps := [(0, 167), (1, 210), (2, 243), (3, 276), (4, 309), (5, 342), (6, 365), (7, 388), (8, 411), (9, 434), (10, 497), (11, 520), (12, 543), (13, 596), (14, 629), (15, 662), (16, 695), (17, 718), (18, 741), (19, 764), (20, 797), (21, 810), (22, 843), (23, 886), (24, 919), (25, 942), (26, 985), (27, 1008), (28, 1051), (29, 1094), (30, 1157), (31, 1180), (32, 1203), (33, 1216), (34, 1229), (35, 1252), (36, 1265), (37, 1288)]) rfl (tg := 530) (by rw [c10]; decide) (lc_10 hg hsw hsm hd1 hd2 hd3 hX hk1 hk2 hv hR hback)
    by_cases c11 : v = 11
    · exact y_tab hg dL_law_33 (ps := [(0, 167), (1, 210), (2, 243), (3, 276), (4, 309), (5, 342), (6, 365), (7, 388), (8, 411), (9, 434), (10, 497), (11, 520), (12, 543), (13, 596), (14, 629), (15, 662), (16, 695), (17, 718), (18, 741), (19, 764), (20, 797), (21, 810), (22, 843), (23, 886), (24, 919), (25, 942), (26, 985), (27, 1008), (28, 1051), (29, 1094), (30, 1157), (31, 1180), (32, 1203), (33, 1216), (34, 1229), (35, 1252), (36, 1265), (37, 1288)]) rfl (tg := 553) (by rw [c11]; decide) (lc_11 hg hsw hsm hd1 hd2 hd3 hX hk1 hk2 hv hR hback)
    by_cases c12 : v = 12
    · exact y_tab hg dL_law_33 (ps := [(0, 167), (1, 210), (2, 243), (3, 276), (4, 309), (5, 342), (6, 365), (7, 388), (8, 411), (9, 434), (10, 497), (11, 520), (12, 543), (13, 596), (14, 629), (15, 662), (16, 695), (17, 718), (18, 741), (19, 764), (20, 797), (21, 810), (22, 843), (23, 886), (24, 919), (25, 942), (26, 985), (27, 1008), (28, 1051), (29, 1094), (30, 1157), (31, 1180), (32, 1203), (33, 1216), (34, 1229), (35, 1252), (36, 1265), (37, 1288)]) rfl (tg := 576) (by rw [c12]; decide) (lc_12 hg hsw hsm hd1 hd2 hd3 hX hk1 hk2 hv hR hback)
    by_cases c13 : v = 13
    · exact y_tab hg dL_law_33 (ps := [(0, 167), (1, 210), (2, 243), (3, 276), (4, 309), (5, 342), (6, 365), (7, 388), (8, 411), (9, 434), (10, 497), (11, 520), (12, 543), (13, 596), (14, 629), (15, 662), (16, 695), (17, 718), (18, 741), (19, 764), (20, 797), (21, 810), (22, 843), (23, 886), (24, 919), (25, 942), (26, 985), (27, 1008), (28, 1051), (29, 1094), (30, 1157), (31, 1180), (32, 1203), (33, 1216), (34, 1229), (35, 1252), (36, 1265), (37, 1288)]) rfl (tg := 629) (by rw [c13]; decide) (lc_13 hg hsw hsm hd1 hd2 hd3 hX hk1 hk2 hv hR hback)
    by_cases c14 : v = 14
    · exact y_tab hg dL_law_33 (ps := [(0, 167), (1, 210), (2, 243), (3, 276), (4, 309), (5, 342), (6, 365), (7, 388), (8, 411), (9, 434), (10, 497), (11, 520), (12, 543), (13, 596), (14, 629), (15, 662), (16, 695), (17, 718), (18, 741), (19, 764), (20, 797), (21, 810), (22, 843), (23, 886), (24, 919), (25, 942), (26, 985), (27, 1008), (28, 1051), (29, 1094), (30, 1157), (31, 1180), (32, 1203), (33, 1216), (34, 1229), (35, 1252), (36, 1265), (37, 1288)]) rfl (tg := 662) (by rw [c14]; decide) (lc_14 hg hsw hsm hd1 hd2 hd3 hX hk1 hk2 hv hR hback)
    by_cases c15 : v = 15
    · exact y_tab hg dL_law_33 (ps := [(0, 167), (1, 210), (2, 243), (3, 276), (4, 309), (5, 342), (6, 365), (7, 388), (8, 411), (9, 434), (10, 497), (11, 520), (12, 543), (13, 596), (14, 629), (15, 662), (16, 695), (17, 718), (18, 741), (19, 764), (20, 797), (21, 810), (22, 843), (23, 886), (24, 919), (25, 942), (26, 985), (27, 1008), (28, 1051), (29, 1094), (30, 1157), (31, 1180), (32, 1203), (33, 1216), (34, 1229), (35, 1252), (36, 1265), (37, 1288)]) rfl (tg := 695) (by rw [c15]; decide) (lc_15 hg hsw hsm hd1 hd2 hd3 hX hk1 hk2 hv hR hback)
    by_cases c16 : v = 16
    · exact y_tab hg dL_law_33 (ps := [(0, 167), (1, 210), (2, 243), (3, 276), (4, 309), (5, 342), (6, 365), (7, 388), (8, 411), (9, 434), (10, 497), (11, 520), (12, 543), (13, 596), (14, 629), (15, 662), (16, 695), (17, 718), (18, 741), (19, 764), (20, 797), (21, 810), (22, 843), (23, 886), (24, 919), (25, 942), (26, 985), (27, 1008), (28, 1051), (29, 1094), (30, 1157), (31, 1180), (32, 1203), (33, 1216), (34, 1229), (35, 1252), (36, 1265), (37, 1288)]) rfl (tg := 728) (by rw [c16]; decide) (lc_16 hg hsw hsm hd1 hd2 hd3 hX hk1 hk2 hv hR hback)
    by_cases c17 : v = 17
    · exact y_tab hg dL_law_33 (ps := [(0, 167), (1, 210), (2, 243), (3, 276), (4, 309), (5, 342), (6, 365), (7, 388), (8, 411), (9, 434), (10, 497), (11, 520), (12, 543), (13, 596), (14, 629), (15, 662), (16, 695), (17, 718), (18, 741), (19, 764), (20, 797), (21, 810), (22, 843), (23, 886), (24, 919), (25, 942), (26, 985), (27, 1008), (28, 1051), (29, 1094), (30, 1157), (31, 1180), (32, 1203), (33, 1216), (34, 1229), (35, 1252), (36, 1265), (37, 1288)]) rfl (tg := 751) (by rw [c17]; decide) (lc_17 hg hsw hsm hd1 hd2 hd3 hX hk1 hk2 hv hR hback)
    by_cases c18 : v = 18
    · exact y_tab hg dL_law_33 (ps := [(0, 167), (1, 210), (2, 243), (3, 276), (4, 309), (5, 342), (6, 365), (7, 388), (8, 411), (9, 434), (10, 497), (11, 520), (12, 543), (13, 596), (14, 629), (15, 662), (16, 695), (17, 718), (18, 741), (19, 764), (20, 797), (21, 810), (22, 843), (23, 886), (24, 919), (25, 942), (26, 985), (27, 1008), (28, 1051), (29, 1094), (30, 1157), (31, 1180), (32, 1203), (33, 1216), (34, 1229), (35, 1252), (36, 1265), (37, 1288)]) rfl (tg := 774) (by rw [c18]; decide) (lc_18 hg hsw hsm hd1 hd2 hd3 hX hk1 hk2 hv hR hback)
    by_cases c19 : v = 19
    · exact y_tab hg dL_law_33 (ps := [(0, 167), (1, 210), (2, 243), (3, 276), (4, 309), (5, 342), (6, 365), (7, 388), (8, 411), (9, 434), (10, 497), (11, 520), (12, 543), (13, 596), (14, 629), (15, 662), (16, 695), (17, 718), (18, 741), (19, 764), (20, 797), (21, 810), (22, 843), (23, 886), (24, 919), (25, 942), (26, 985), (27, 1008), (28, 1051), (29, 1094), (30, 1157), (31, 1180), (32, 1203), (33, 1216), (34, 1229), (35, 1252), (36, 1265), (37, 1288)]) rfl (tg := 797) (by rw [c19]; decide) (lc_19 hg hsw hsm hd1 hd2 hd3 hX hk1 hk2 hv hR hback)
    by_cases c20 : v = 20
    · exact y_tab hg dL_law_33 (ps := [(0, 167), (1, 210), (2, 243), (3, 276), (4, 309), (5, 342), (6, 365), (7, 388), (8, 411), (9, 434), (10, 497), (11, 520), (12, 543), (13, 596), (14, 629), (15, 662), (16, 695), (17, 718), (18, 741), (19, 764), (20, 797), (21, 810), (22, 843), (23, 886), (24, 919), (25, 942), (26, 985), (27, 1008), (28, 1051), (29, 1094), (30, 1157), (31, 1180), (32, 1203), (33, 1216), (34, 1229), (35, 1252), (36, 1265), (37, 1288)]) rfl (tg := 830) (by rw [c20]; decide) (lc_20 hg hsw hsm hd1 hd2 hd3 hX hk1 hk2 hv hR hback)
    by_cases c21 : v = 21
    · exact y_tab hg dL_law_33 (ps := [(0, 167), (1, 210), (2, 243), (3, 276), (4, 309), (5, 342), (6, 365), (7, 388), (8, 411), (9, 434), (10, 497), (11, 520), (12, 543), (13, 596), (14, 629), (15, 662), (16, 695), (17, 718), (18, 741), (19, 764), (20, 797), (21, 810), (22, 843), (23, 886), (24, 919), (25, 942), (26, 985), (27, 1008), (28, 1051), (29, 1094), (30, 1157), (31, 1180), (32, 1203), (33, 1216), (34, 1229), (35, 1252), (36, 1265), (37, 1288)]) rfl (tg := 843) (by rw [c21]; decide) (lc_21 hg hsw hsm hd1 hd2 hd3 hX hk1 hk2 hv hR hback)
    by_cases c22 : v = 22
    · exact y_tab hg dL_law_33 (ps := [(0, 167), (1, 210), (2, 243), (3, 276), (4, 309), (5, 342), (6, 365), (7, 388), (8, 411), (9, 434), (10, 497), (11, 520), (12, 543), (13, 596), (14, 629), (15, 662), (16, 695), (17, 718), (18, 741), (19, 764), (20, 797), (21, 810), (22, 843), (23, 886), (24, 919), (25, 942), (26, 985), (27, 1008), (28, 1051), (29, 1094), (30, 1157), (31, 1180), (32, 1203), (33, 1216), (34, 1229), (35, 1252), (36, 1265), (37, 1288)]) rfl (tg := 876) (by rw [c22]; decide) (lc_22 hg hsw hsm hd1 hd2 hd3 hX hk1 hk2 hv hR hback)
    by_cases c23 : v = 23
    · exact y_tab hg dL_law_33 (ps := [(0, 167), (1, 210), (2, 243), (3, 276), (4, 309), (5, 342), (6, 365), (7, 388), (8, 411), (9, 434), (10, 497), (11, 520), (12, 543), (13, 596), (14, 629), (15, 662), (16, 695), (17, 718), (18, 741), (19, 764), (20, 797), (21, 810), (22, 843), (23, 886), (24, 919), (25, 942), (26, 985), (27, 1008), (28, 1051), (29, 1094), (30, 1157), (31, 1180), (32, 1203), (33, 1216), (34, 1229), (35, 1252), (36, 1265), (37, 1288)]) rfl (tg := 919) (by rw [c23]; decide) (lc_23 hg hsw hsm hd1 hd2 hd3 hX hk1 hk2 hv hR hback)
    by_cases c24 : v = 24
    · exact y_tab hg dL_law_33 (ps := [(0, 167), (1, 210), (2, 243), (3, 276), (4, 309), (5, 342), (6, 365), (7, 388), (8, 411), (9, 434), (10, 497), (11, 520), (12, 543), (13, 596), (14, 629), (15, 662), (16, 695), (17, 718), (18, 741), (19, 764), (20, 797), (21, 810), (22, 843), (23, 886), (24, 919), (25, 942), (26, 985), (27, 1008), (28, 1051), (29, 1094), (30, 1157), (31, 1180), (32, 1203), (33, 1216), (34, 1229), (35, 1252), (36, 1265), (37, 1288)]) rfl (tg := 952) (by rw [c24]; decide) (lc_24 hg hsw hsm hd1 hd2 hd3 hX hk1 hk2 hv hR hback)
    by_cases c25 : v = 25
    · exact y_tab hg dL_law_33 (ps := [(0, 167), (1, 210), (2, 243), (3, 276), (4, 309), (5, 342), (6, 365), (7, 388), (8, 411), (9, 434), (10, 497), (11, 520), (12, 543), (13, 596), (14, 629), (15, 662), (16, 695), (17, 718), (18, 741), (19, 764), (20, 797), (21, 810), (22, 843), (23, 886), (24, 919), (25, 942), (26, 985), (27, 1008), (28, 1051), (29, 1094), (30, 1157), (31, 1180), (32, 1203), (33, 1216), (34, 1229), (35, 1252), (36, 1265), (37, 1288)]) rfl (tg := 975) (by rw [c25]; decide) (lc_25 hg hsw hsm hd1 hd2 hd3 hX hk1 hk2 hv hR hback)
    by_cases c26 : v = 26
    · exact y_tab hg dL_law_33 (ps := [(0, 167), (1, 210), (2, 243), (3, 276), (4, 309), (5, 342), (6, 365), (7, 388), (8, 411), (9, 434), (10, 497), (11, 520), (12, 543), (13, 596), (14, 629), (15, 662), (16, 695), (17, 718), (18, 741), (19, 764), (20, 797), (21, 810), (22, 843), (23, 886), (24, 919), (25, 942), (26, 985), (27, 1008), (28, 1051), (29, 1094), (30, 1157), (31, 1180), (32, 1203), (33, 1216), (34, 1229), (35, 1252), (36, 1265), (37, 1288)]) rfl (tg := 1018) (by rw [c26]; decide) (lc_26 hg hsw hsm hd1 hd2 hd3 hX hk1 hk2 hv hR hback)
    by_cases c27 : v = 27
    · exact y_tab hg dL_law_33 (ps := [(0, 167), (1, 210), (2, 243), (3, 276), (4, 309), (5, 342), (6, 365), (7, 388), (8, 411), (9, 434), (10, 497), (11, 520), (12, 543), (13, 596), (14, 629), (15, 662), (16, 695), (17, 718), (18, 741), (19, 764), (20, 797), (21, 810), (22, 843), (23, 886), (24, 919), (25, 942), (26, 985), (27, 1008), (28, 1051), (29, 1094), (30, 1157), (31, 1180), (32, 1203), (33, 1216), (34, 1229), (35, 1252), (36, 1265), (37, 1288)]) rfl (tg := 1041) (by rw [c27]; decide) (lc_27 hg hsw hsm hd1 hd2 hd3 hX hk1 hk2 hv hR hback)
    by_cases c28 : v = 28
    · exact y_tab hg dL_law_33 (ps := [(0, 167), (1, 210), (2, 243), (3, 276), (4, 309), (5, 342), (6, 365), (7, 388), (8, 411), (9, 434), (10, 497), (11, 520), (12, 543), (13, 596), (14, 629), (15, 662), (16, 695), (17, 718), (18, 741), (19, 764), (20, 797), (21, 810), (22, 843), (23, 886), (24, 919), (25, 942), (26, 985), (27, 1008), (28, 1051), (29, 1094), (30, 1157), (31, 1180), (32, 1203), (33, 1216), (34, 1229), (35, 1252), (36, 1265), (37, 1288)]) rfl (tg := 1084) (by rw [c28]; decide) (lc_28 hg hsw hsm hd1 hd2 hd3 hX hk1 hk2 hv hR hback)
    by_cases c29 : v = 29
    · exact y_tab hg dL_law_33 (ps := [(0, 167), (1, 210), (2, 243), (3, 276), (4, 309), (5, 342), (6, 365), (7, 388), (8, 411), (9, 434), (10, 497), (11, 520), (12, 543), (13, 596), (14, 629), (15, 662), (16, 695), (17, 718), (18, 741), (19, 764), (20, 797), (21, 810), (22, 843), (23, 886), (24, 919), (25, 942), (26, 985), (27, 1008), (28, 1051), (29, 1094), (30, 1157), (31, 1180), (32, 1203), (33, 1216), (34, 1229), (35, 1252), (36, 1265), (37, 1288)]) rfl (tg := 1127) (by rw [c29]; decide) (lc_29 hg hsw hsm hd1 hd2 hd3 hX hk1 hk2 hv hR hback)
    by_cases c30 : v = 30
    · exact y_tab hg dL_law_33 (ps := [(0, 167), (1, 210), (2, 243), (3, 276), (4, 309), (5, 342), (6, 365), (7, 388), (8, 411), (9, 434), (10, 497), (11, 520), (12, 543), (13, 596), (14, 629), (15, 662), (16, 695), (17, 718), (18, 741), (19, 764), (20, 797), (21, 810), (22, 843), (23, 886), (24, 919), (25, 942), (26, 985), (27, 1008), (28, 1051), (29, 1094), (30, 1157), (31, 1180), (32, 1203), (33, 1216), (34, 1229), (35, 1252), (36, 1265), (37, 1288)]) rfl (tg := 1190) (by rw [c30]; decide) (lc_30 hg hsw hsm hd1 hd2 hd3 hX hk1 hk2 hv hR hback)
    by_cases c31 : v = 31
    · exact y_tab hg dL_law_33 (ps := [(0, 167), (1, 210), (2, 243), (3, 276), (4, 309), (5, 342), (6, 365), (7, 388), (8, 411), (9, 434), (10, 497), (11, 520), (12, 543), (13, 596), (14, 629), (15, 662), (16, 695), (17, 718), (18, 741), (19, 764), (20, 797), (21, 810), (22, 843), (23, 886), (24, 919), (25, 942), (26, 985), (27, 1008), (28, 1051), (29, 1094), (30, 1157), (31, 1180), (32, 1203), (33, 1216), (34, 1229), (35, 1252), (36, 1265), (37, 1288)]) rfl (tg := 1213) (by rw [c31]; decide) (lc_31 hg hsw hsm hd1 hd2 hd3 hX hk1 hk2 hv hR hback)
    by_cases c32 : v = 32
    · exact y_tab hg dL_law_33 (ps := [(0, 167), (1, 210), (2, 243), (3, 276), (4, 309), (5, 342), (6, 365), (7, 388), (8, 411), (9, 434), (10, 497), (11, 520), (12, 543), (13, 596), (14, 629), (15, 662), (16, 695), (17, 718), (18, 741), (19, 764), (20, 797), (21, 810), (22, 843), (23, 886), (24, 919), (25, 942), (26, 985), (27, 1008), (28, 1051), (29, 1094), (30, 1157), (31, 1180), (32, 1203), (33, 1216), (34, 1229), (35, 1252), (36, 1265), (37, 1288)]) rfl (tg := 1236) (by rw [c32]; decide) (lc_32 hg hsw hsm hd1 hd2 hd3 hX hk1 hk2 hv hR hback)
    by_cases c33 : v = 33
    · exact y_tab hg dL_law_33 (ps := [(0, 167), (1, 210), (2, 243), (3, 276), (4, 309), (5, 342), (6, 365), (7, 388), (8, 411), (9, 434), (10, 497), (11, 520), (12, 543), (13, 596), (14, 629), (15, 662), (16, 695), (17, 718), (18, 741), (19, 764), (20, 797), (21, 810), (22, 843), (23, 886), (24, 919), (25, 942), (26, 985), (27, 1008), (28, 1051), (29, 1094), (30, 1157), (31, 1180), (32, 1203), (33, 1216), (34, 1229), (35, 1252), (36, 1265), (37, 1288)]) rfl (tg := 1249) (by rw [c33]; decide) (lc_33 hg hsw hsm hd1 hd2 hd3 hX hk1 hk2 hv hR hback)
    by_cases c34 : v = 34
    · exact y_tab hg dL_law_33 (ps := [(0, 167), (1, 210), (2, 243), (3, 276), (4, 309), (5, 342), (6, 365), (7, 388), (8, 411), (9, 434), (10, 497), (11, 520), (12, 543), (13, 596), (14, 629), (15, 662), (16, 695), (17, 718), (18, 741), (19, 764), (20, 797), (21, 810), (22, 843), (23, 886), (24, 919), (25, 942), (26, 985), (27, 1008), (28, 1051), (29, 1094), (30, 1157), (31, 1180), (32, 1203), (33, 1216), (34, 1229), (35, 1252), (36, 1265), (37, 1288)]) rfl (tg := 1262) (by rw [c34]; decide) (lc_34 hg hsw hsm hd1 hd2 hd3 hX hk1 hk2 hv hR hback)
    by_cases c35 : v = 35
    · exact y_tab hg dL_law_33 (ps := [(0, 167), (1, 210), (2, 243), (3, 276), (4, 309), (5, 342), (6, 365), (7, 388), (8, 411), (9, 434), (10, 497), (11, 520), (12, 543), (13, 596), (14, 629), (15, 662), (16, 695), (17, 718), (18, 741), (19, 764), (20, 797), (21, 810), (22, 843), (23, 886), (24, 919), (25, 942), (26, 985), (27, 1008), (28, 1051), (29, 1094), (30, 1157), (31, 1180), (32, 1203), (33, 1216), (34, 1229), (35, 1252), (36, 1265), (37, 1288)]) rfl (tg := 1285) (by rw [c35]; decide) (lc_35 hg hsw hsm hd1 hd2 hd3 hX hk1 hk2 hv hR hback)
    by_cases c36 : v = 36
    · exact y_tab hg dL_law_33 (ps := [(0, 167), (1, 210), (2, 243), (3, 276), (4, 309), (5, 342), (6, 365), (7, 388), (8, 411), (9, 434), (10, 497), (11, 520), (12, 543), (13, 596), (14, 629), (15, 662), (16, 695), (17, 718), (18, 741), (19, 764), (20, 797), (21, 810), (22, 843), (23, 886), (24, 919), (25, 942), (26, 985), (27, 1008), (28, 1051), (29, 1094), (30, 1157), (31, 1180), (32, 1203), (33, 1216), (34, 1229), (35, 1252), (36, 1265), (37, 1288)]) rfl (tg := 1298) (by rw [c36]; decide) (lc_36 hg hsw hsm hd1 hd2 hd3 hX hk1 hk2 hv hR hback)
    by_cases c37 : v = 37
    · exact y_tab hg dL_law_33 (ps := [(0, 167), (1, 210), (2, 243), (3, 276), (4, 309), (5, 342), (6, 365), (7, 388), (8, 411), (9, 434), (10, 497), (11, 520), (12, 543), (13, 596), (14, 629), (15, 662), (16, 695), (17, 718), (18, 741), (19, 764), (20, 797), (21, 810), (22, 843), (23, 886), (24, 919), (25, 942), (26, 985), (27, 1008), (28, 1051), (29, 1094), (30, 1157), (31, 1180), (32, 1203), (33, 1216), (34, 1229), (35, 1252), (36, 1265), (37, 1288)]) rfl (tg := 1321) (by rw [c37]; decide) (lc_37 hg hsw hsm hd1 hd2 hd3 hX hk1 hk2 hv hR hback)
    exact y_tab hg dL_law_33 (ps := [(0, 167), (1, 210), (2, 243), (3, 276), (4, 309), (5, 342), (6, 365), (7, 388), (8, 411), (9, 434), (10, 497), (11, 520), (12, 543), (13, 596), (14, 629), (15, 662), (16, 695), (17, 718), (18, 741), (19, 764), (20, 797), (21, 810), (22, 843), (23, 886), (24, 919), (25, 942), (26, 985), (27, 1008), (28, 1051), (29, 1094), (30, 1157), (31, 1180), (32, 1203), (33, 1216), (34, 1229), (35, 1252), (36, 1265), (37, 1288)]) rfl (tg := 1344) (by simp only [lk, c0, c1, c2, c3, c4, c5, c6, c7, c8, c9, c10, c11, c12, c13, c14, c15, c16, c17, c18, c19, c20, c21, c22, c23, c24, c25, c26, c27, c28, c29, c30, c31, c32, c33, c34, c35, c36, c37, if_false]; decide) (hback _ _ hR)
