/-- the law's script -/
def Sc (X : XT) (b n : Nat) (q : Nat → Int32) : Prop := va_X b n q (xs X) (xs X).heap ∧ b < (xs X).heap.size ∧ ¬ xA X b ∧ n ≤ 3072
section
variable {X : XT} {E : ET} {cc : ByteArray} {own : String} {nL : Nat} {R0 : Room} {pc : Nat} {L : List (Option Value)} {st : List Value} {σ μ : St}
theorem v_sld (hC : Cx X E cc own nL R0) {b n : Nat} {q : Nat → Int32} (hS0 : Sc X b n q) {j : Nat} (hj : j < n) (hd : decode cc pc = .ok (.iaload, 1)) (kk : V X E (pc + 1) L (.int (q j) :: st) σ μ) : V X E pc L (.int (nI j) :: .ref b :: st) σ μ := fun H locs ls hP hS hl => by
  have h3 := hS0.2.2.2
  have hc : (nI j).toNatClampNeg = j := nI_clamp (by omega)
  refine va_sld hC.1 hC.2.1 hS0.1 hS0.2.1 hS0.2.2.1 hS (vp_in_nI hj (by omega)) hd ?_
  rw [hc]
  exact kk H locs ls hP hS hl
theorem v_slen (hC : Cx X E cc own nL R0) {b n : Nat} {q : Nat → Int32} (hS0 : Sc X b n q) (hd : decode cc pc = .ok (.arraylength, 1)) (kk : V X E (pc + 1) L (.int (nI n) :: st) σ μ) : V X E pc L (.ref b :: st) σ μ := fun H locs ls hP hS hl =>
  va_slen hC.1 hC.2.1 hS0.1 hS0.2.1 hS0.2.2.1 hS hd (kk H locs ls hP hS hl)
end
theorem law_well {X : XT} {E : ET} {σ μ : St} (hC : Cx X E cL_law RL 4 room_1) {b n i : Nat} {q : Nat → Int32} (hS0 : Sc X b n q) (hi : i + 6 ≤ n) (hwc : WC σ) (hws : WS σ) (hwm : WM μ) (he : (cfWell σ (q (i + 1)) (q (i + 2)) (q (i + 3)) (q (i + 4))).1 = (mfWell μ (q (i + 1)) (q (i + 2)) (q (i + 3)) (q (i + 4))).1) (ih : V X E 1467 [some (.ref b), some (.ref (adr E 0)), some (.ref (adr E 54)), some (.int (nI i))] [] (cfWell σ (q (i + 1)) (q (i + 2)) (q (i + 3)) (q (i + 4))).2 (mfWell μ (q (i + 1)) (q (i + 2)) (q (i + 3)) (q (i + 4))).2) : V X E 192 [some (.ref b), some (.ref (adr E 0)), some (.ref (adr E 54)), some (.int (nI i))] [] σ μ := by
  refine v_aload_1 hC dL_law_192 ?_
  refine v_aload_0 hC dL_law_193 ?_
  refine v_iload_3 hC dL_law_194 ?_
  refine v_iconst hC dL_law_195 ic_1 ?_
  refine v_iaddN hC dL_law_196 ?_
  refine v_sld hC hS0 (by omega) dL_law_197 ?_
  refine v_aload_0 hC dL_law_198 ?_
  refine v_iload_3 hC dL_law_199 ?_
  refine v_iconst hC dL_law_200 ic_2 ?_
  refine v_iaddN hC dL_law_201 ?_
  refine v_sld hC hS0 (by omega) dL_law_202 ?_
  refine v_aload_0 hC dL_law_203 ?_
  refine v_iload_3 hC dL_law_204 ?_
  refine v_iconst hC dL_law_205 ic_3 ?_
  refine v_iaddN hC dL_law_206 ?_
  refine v_sld hC hS0 (by omega) dL_law_207 ?_
  refine v_aload_0 hC dL_law_208 ?_
  refine v_iload_3 hC dL_law_209 ?_
  refine v_iconst hC dL_law_210 ic_4 ?_
  refine v_iaddN hC dL_law_211 ?_
  refine v_sld hC hS0 (by omega) dL_law_212 ?_
  refine v_cv4r hC lL_13 ⟨by decide, 6, _, rfl, rfl, fun _ _ _ => ⟨_, rfl⟩⟩ (k_X6_well hwc hws _ _ _ _) ⟨Nat.le_of_ble_eq_true rfl, Nat.le_of_ble_eq_true rfl, rfl, rfl⟩ (Nat.le_of_ble_eq_true rfl) dL_law_213 ?_
  refine v_aload_2 hC dL_law_216 ?_
  refine v_aload_0 hC dL_law_217 ?_
  refine v_iload_3 hC dL_law_218 ?_
  refine v_iconst hC dL_law_219 ic_1 ?_
  refine v_iaddN hC dL_law_220 ?_
  refine v_sld hC hS0 (by omega) dL_law_221 ?_
  refine v_aload_0 hC dL_law_222 ?_
  refine v_iload_3 hC dL_law_223 ?_
  refine v_iconst hC dL_law_224 ic_2 ?_
  refine v_iaddN hC dL_law_225 ?_
  refine v_sld hC hS0 (by omega) dL_law_226 ?_
  refine v_aload_0 hC dL_law_227 ?_
  refine v_iload_3 hC dL_law_228 ?_
  refine v_iconst hC dL_law_229 ic_3 ?_
  refine v_iaddN hC dL_law_230 ?_
  refine v_sld hC hS0 (by omega) dL_law_231 ?_
  refine v_aload_0 hC dL_law_232 ?_
  refine v_iload_3 hC dL_law_233 ?_
  refine v_iconst hC dL_law_234 ic_4 ?_
  refine v_iaddN hC dL_law_235 ?_
  refine v_sld hC hS0 (by omega) dL_law_236 ?_
  refine v_cv4r hC lL_17 ⟨by decide, 7, _, rfl, rfl, fun _ _ _ => ⟨_, rfl⟩⟩ (k_X7_well hwm _ _ _ _) ⟨Nat.le_of_ble_eq_true rfl, Nat.le_of_ble_eq_true rfl, rfl, rfl⟩ (Nat.le_of_ble_eq_true rfl) dL_law_237 ?_
  refine v_iceq (tgt := 1467) hC dL_law_240 (by decide) (fun h240 => ?_) (fun h240 => absurd he h240)
  exact ih
theorem law_limit {X : XT} {E : ET} {σ μ : St} (hC : Cx X E cL_law RL 4 room_1) {b n i : Nat} {q : Nat → Int32} (hS0 : Sc X b n q) (hi : i + 6 ≤ n) (hwc : WC σ) (hws : WS σ) (hwm : WM μ) (he : (cfLimit σ (q (i + 1)) (q (i + 2))).1 = (mfLimit μ (q (i + 1)) (q (i + 2))).1) (ih : V X E 1467 [some (.ref b), some (.ref (adr E 0)), some (.ref (adr E 54)), some (.int (nI i))] [] (cfLimit σ (q (i + 1)) (q (i + 2))).2 (mfLimit μ (q (i + 1)) (q (i + 2))).2) : V X E 245 [some (.ref b), some (.ref (adr E 0)), some (.ref (adr E 54)), some (.int (nI i))] [] σ μ := by
  refine v_aload_1 hC dL_law_245 ?_
  refine v_aload_0 hC dL_law_246 ?_
  refine v_iload_3 hC dL_law_247 ?_
  refine v_iconst hC dL_law_248 ic_1 ?_
  refine v_iaddN hC dL_law_249 ?_
  refine v_sld hC hS0 (by omega) dL_law_250 ?_
  refine v_aload_0 hC dL_law_251 ?_
  refine v_iload_3 hC dL_law_252 ?_
  refine v_iconst hC dL_law_253 ic_2 ?_
  refine v_iaddN hC dL_law_254 ?_
  refine v_sld hC hS0 (by omega) dL_law_255 ?_
  refine v_cv2r hC lL_18 ⟨by decide, 6, _, rfl, rfl, fun _ _ _ => ⟨_, rfl⟩⟩ (k_X6_limit hwc hws _ _) ⟨Nat.le_of_ble_eq_true rfl, Nat.le_of_ble_eq_true rfl, rfl, rfl⟩ (Nat.le_of_ble_eq_true rfl) dL_law_256 ?_
  refine v_aload_2 hC dL_law_259 ?_
  refine v_aload_0 hC dL_law_260 ?_
  refine v_iload_3 hC dL_law_261 ?_
  refine v_iconst hC dL_law_262 ic_1 ?_
  refine v_iaddN hC dL_law_263 ?_
  refine v_sld hC hS0 (by omega) dL_law_264 ?_
  refine v_aload_0 hC dL_law_265 ?_
  refine v_iload_3 hC dL_law_266 ?_
  refine v_iconst hC dL_law_267 ic_2 ?_
  refine v_iaddN hC dL_law_268 ?_
  refine v_sld hC hS0 (by omega) dL_law_269 ?_
  refine v_cv2r hC lL_22 ⟨by decide, 7, _, rfl, rfl, fun _ _ _ => ⟨_, rfl⟩⟩ (k_X7_limit hwm _ _) ⟨Nat.le_of_ble_eq_true rfl, Nat.le_of_ble_eq_true rfl, rfl, rfl⟩ (Nat.le_of_ble_eq_true rfl) dL_law_270 ?_
  refine v_iceq (tgt := 1467) hC dL_law_273 (by decide) (fun h273 => ?_) (fun h273 => absurd he h273)
  exact ih
theorem law_as {X : XT} {E : ET} {σ μ : St} (hC : Cx X E cL_law RL 4 room_1) {b n i : Nat} {q : Nat → Int32} (hS0 : Sc X b n q) (hi : i + 6 ≤ n) (hwc : WC σ) (hws : WS σ) (hwm : WM μ) (he : (cfAs σ (q (i + 1)) (q (i + 2))).1 = (mfAs μ (q (i + 1)) (q (i + 2))).1) (ih : V X E 1467 [some (.ref b), some (.ref (adr E 0)), some (.ref (adr E 54)), some (.int (nI i))] [] (cfAs σ (q (i + 1)) (q (i + 2))).2 (mfAs μ (q (i + 1)) (q (i + 2))).2) : V X E 278 [some (.ref b), some (.ref (adr E 0)), some (.ref (adr E 54)), some (.int (nI i))] [] σ μ := by
  refine v_aload_1 hC dL_law_278 ?_
  refine v_aload_0 hC dL_law_279 ?_
  refine v_iload_3 hC dL_law_280 ?_
  refine v_iconst hC dL_law_281 ic_1 ?_
  refine v_iaddN hC dL_law_282 ?_
  refine v_sld hC hS0 (by omega) dL_law_283 ?_
  refine v_aload_0 hC dL_law_284 ?_
  refine v_iload_3 hC dL_law_285 ?_
  refine v_iconst hC dL_law_286 ic_2 ?_
  refine v_iaddN hC dL_law_287 ?_
  refine v_sld hC hS0 (by omega) dL_law_288 ?_
  refine v_cv2r hC lL_23 ⟨by decide, 6, _, rfl, rfl, fun _ _ _ => ⟨_, rfl⟩⟩ (k_X6_as hwc hws _ _) ⟨Nat.le_of_ble_eq_true rfl, Nat.le_of_ble_eq_true rfl, rfl, rfl⟩ (Nat.le_of_ble_eq_true rfl) dL_law_289 ?_
  refine v_aload_2 hC dL_law_292 ?_
  refine v_aload_0 hC dL_law_293 ?_
  refine v_iload_3 hC dL_law_294 ?_
  refine v_iconst hC dL_law_295 ic_1 ?_
  refine v_iaddN hC dL_law_296 ?_
  refine v_sld hC hS0 (by omega) dL_law_297 ?_
  refine v_aload_0 hC dL_law_298 ?_
  refine v_iload_3 hC dL_law_299 ?_
  refine v_iconst hC dL_law_300 ic_2 ?_
  refine v_iaddN hC dL_law_301 ?_
  refine v_sld hC hS0 (by omega) dL_law_302 ?_
  refine v_cv2r hC lL_26 ⟨by decide, 7, _, rfl, rfl, fun _ _ _ => ⟨_, rfl⟩⟩ (k_X7_as hwm _ _) ⟨Nat.le_of_ble_eq_true rfl, Nat.le_of_ble_eq_true rfl, rfl, rfl⟩ (Nat.le_of_ble_eq_true rfl) dL_law_303 ?_
  refine v_iceq (tgt := 1467) hC dL_law_306 (by decide) (fun h306 => ?_) (fun h306 => absurd he h306)
  exact ih
theorem law_of {X : XT} {E : ET} {σ μ : St} (hC : Cx X E cL_law RL 4 room_1) {b n i : Nat} {q : Nat → Int32} (hS0 : Sc X b n q) (hi : i + 6 ≤ n) (hwc : WC σ) (hws : WS σ) (hwm : WM μ) (he : (cfOf σ (q (i + 1)) (q (i + 2))).1 = (mfOf μ (q (i + 1)) (q (i + 2))).1) (ih : V X E 1467 [some (.ref b), some (.ref (adr E 0)), some (.ref (adr E 54)), some (.int (nI i))] [] (cfOf σ (q (i + 1)) (q (i + 2))).2 (mfOf μ (q (i + 1)) (q (i + 2))).2) : V X E 311 [some (.ref b), some (.ref (adr E 0)), some (.ref (adr E 54)), some (.int (nI i))] [] σ μ := by
  refine v_aload_1 hC dL_law_311 ?_
  refine v_aload_0 hC dL_law_312 ?_
  refine v_iload_3 hC dL_law_313 ?_
  refine v_iconst hC dL_law_314 ic_1 ?_
  refine v_iaddN hC dL_law_315 ?_
  refine v_sld hC hS0 (by omega) dL_law_316 ?_
  refine v_aload_0 hC dL_law_317 ?_
  refine v_iload_3 hC dL_law_318 ?_
  refine v_iconst hC dL_law_319 ic_2 ?_
  refine v_iaddN hC dL_law_320 ?_
  refine v_sld hC hS0 (by omega) dL_law_321 ?_
  refine v_cv2r hC lL_27 ⟨by decide, 6, _, rfl, rfl, fun _ _ _ => ⟨_, rfl⟩⟩ (k_X6_of hwc hws _ _) ⟨Nat.le_of_ble_eq_true rfl, Nat.le_of_ble_eq_true rfl, rfl, rfl⟩ (Nat.le_of_ble_eq_true rfl) dL_law_322 ?_
  refine v_aload_2 hC dL_law_325 ?_
  refine v_aload_0 hC dL_law_326 ?_
  refine v_iload_3 hC dL_law_327 ?_
  refine v_iconst hC dL_law_328 ic_1 ?_
  refine v_iaddN hC dL_law_329 ?_
  refine v_sld hC hS0 (by omega) dL_law_330 ?_
  refine v_aload_0 hC dL_law_331 ?_
  refine v_iload_3 hC dL_law_332 ?_
  refine v_iconst hC dL_law_333 ic_2 ?_
  refine v_iaddN hC dL_law_334 ?_
  refine v_sld hC hS0 (by omega) dL_law_335 ?_
  refine v_cv2r hC lL_30 ⟨by decide, 7, _, rfl, rfl, fun _ _ _ => ⟨_, rfl⟩⟩ (k_X7_of hwm _ _) ⟨Nat.le_of_ble_eq_true rfl, Nat.le_of_ble_eq_true rfl, rfl, rfl⟩ (Nat.le_of_ble_eq_true rfl) dL_law_336 ?_
  refine v_iceq (tgt := 1467) hC dL_law_339 (by decide) (fun h339 => ?_) (fun h339 => absurd he h339)
  exact ih
theorem law_distance {X : XT} {E : ET} {σ μ : St} (hC : Cx X E cL_law RL 4 room_1) {b n i : Nat} {q : Nat → Int32} (hS0 : Sc X b n q) (hi : i + 6 ≤ n) (hwc : WC σ) (hws : WS σ) (hwm : WM μ) (he : (cfDist σ (q (i + 1)) (q (i + 2))).1 = (mfDist μ (q (i + 1)) (q (i + 2))).1) (ih : V X E 1467 [some (.ref b), some (.ref (adr E 0)), some (.ref (adr E 54)), some (.int (nI i))] [] (cfDist σ (q (i + 1)) (q (i + 2))).2 (mfDist μ (q (i + 1)) (q (i + 2))).2) : V X E 344 [some (.ref b), some (.ref (adr E 0)), some (.ref (adr E 54)), some (.int (nI i))] [] σ μ := by
  refine v_aload_1 hC dL_law_344 ?_
  refine v_aload_0 hC dL_law_345 ?_
  refine v_iload_3 hC dL_law_346 ?_
  refine v_iconst hC dL_law_347 ic_1 ?_
  refine v_iaddN hC dL_law_348 ?_
  refine v_sld hC hS0 (by omega) dL_law_349 ?_
  refine v_aload_0 hC dL_law_350 ?_
  refine v_iload_3 hC dL_law_351 ?_
  refine v_iconst hC dL_law_352 ic_2 ?_
  refine v_iaddN hC dL_law_353 ?_
  refine v_sld hC hS0 (by omega) dL_law_354 ?_
  refine v_cv2r hC lL_31 ⟨by decide, 6, _, rfl, rfl, fun _ _ _ => ⟨_, rfl⟩⟩ (k_X6_distance hwc hws _ _) ⟨Nat.le_of_ble_eq_true rfl, Nat.le_of_ble_eq_true rfl, rfl, rfl⟩ (Nat.le_of_ble_eq_true rfl) dL_law_355 ?_
  refine v_aload_2 hC dL_law_358 ?_
  refine v_aload_0 hC dL_law_359 ?_
  refine v_iload_3 hC dL_law_360 ?_
  refine v_iconst hC dL_law_361 ic_1 ?_
  refine v_iaddN hC dL_law_362 ?_
  refine v_sld hC hS0 (by omega) dL_law_363 ?_
  refine v_aload_0 hC dL_law_364 ?_
  refine v_iload_3 hC dL_law_365 ?_
  refine v_iconst hC dL_law_366 ic_2 ?_
  refine v_iaddN hC dL_law_367 ?_
  refine v_sld hC hS0 (by omega) dL_law_368 ?_
  refine v_cv2r hC lL_34 ⟨by decide, 7, _, rfl, rfl, fun _ _ _ => ⟨_, rfl⟩⟩ (k_X7_distance hwm _ _) ⟨Nat.le_of_ble_eq_true rfl, Nat.le_of_ble_eq_true rfl, rfl, rfl⟩ (Nat.le_of_ble_eq_true rfl) dL_law_369 ?_
  refine v_iceq (tgt := 1467) hC dL_law_372 (by decide) (fun h372 => ?_) (fun h372 => absurd he h372)
  exact ih
theorem law_table {X : XT} {E : ET} {σ μ : St} (hC : Cx X E cL_law RL 4 room_1) {b n i : Nat} {q : Nat → Int32} (hS0 : Sc X b n q) (hi : i + 6 ≤ n) (hwc : WC σ) (hws : WS σ) (hwm : WM μ) (he : (cfTable σ (q (i + 1)) (q (i + 2)) (q (i + 3)) (q (i + 4))).1 = (mfTable μ (q (i + 1)) (q (i + 2)) (q (i + 3)) (q (i + 4))).1) (ih : V X E 1467 [some (.ref b), some (.ref (adr E 0)), some (.ref (adr E 54)), some (.int (nI i))] [] (cfTable σ (q (i + 1)) (q (i + 2)) (q (i + 3)) (q (i + 4))).2 (mfTable μ (q (i + 1)) (q (i + 2)) (q (i + 3)) (q (i + 4))).2) : V X E 377 [some (.ref b), some (.ref (adr E 0)), some (.ref (adr E 54)), some (.int (nI i))] [] σ μ := by
  refine v_aload_1 hC dL_law_377 ?_
  refine v_aload_0 hC dL_law_378 ?_
  refine v_iload_3 hC dL_law_379 ?_
  refine v_iconst hC dL_law_380 ic_1 ?_
  refine v_iaddN hC dL_law_381 ?_
  refine v_sld hC hS0 (by omega) dL_law_382 ?_
  refine v_aload_0 hC dL_law_383 ?_
  refine v_iload_3 hC dL_law_384 ?_
  refine v_iconst hC dL_law_385 ic_2 ?_
  refine v_iaddN hC dL_law_386 ?_
  refine v_sld hC hS0 (by omega) dL_law_387 ?_
  refine v_aload_0 hC dL_law_388 ?_
  refine v_iload_3 hC dL_law_389 ?_
  refine v_iconst hC dL_law_390 ic_3 ?_
  refine v_iaddN hC dL_law_391 ?_
  refine v_sld hC hS0 (by omega) dL_law_392 ?_
  refine v_aload_0 hC dL_law_393 ?_
  refine v_iload_3 hC dL_law_394 ?_
  refine v_iconst hC dL_law_395 ic_4 ?_
  refine v_iaddN hC dL_law_396 ?_
  refine v_sld hC hS0 (by omega) dL_law_397 ?_
  refine v_cv4r hC lL_35 ⟨by decide, 6, _, rfl, rfl, fun _ _ _ => ⟨_, rfl⟩⟩ (k_X6_table hwc hws _ _ _ _) ⟨Nat.le_of_ble_eq_true rfl, Nat.le_of_ble_eq_true rfl, rfl, rfl⟩ (Nat.le_of_ble_eq_true rfl) dL_law_398 ?_
  refine v_aload_2 hC dL_law_401 ?_
  refine v_aload_0 hC dL_law_402 ?_
  refine v_iload_3 hC dL_law_403 ?_
  refine v_iconst hC dL_law_404 ic_1 ?_
  refine v_iaddN hC dL_law_405 ?_
  refine v_sld hC hS0 (by omega) dL_law_406 ?_
  refine v_aload_0 hC dL_law_407 ?_
  refine v_iload_3 hC dL_law_408 ?_
  refine v_iconst hC dL_law_409 ic_2 ?_
  refine v_iaddN hC dL_law_410 ?_
  refine v_sld hC hS0 (by omega) dL_law_411 ?_
  refine v_aload_0 hC dL_law_412 ?_
  refine v_iload_3 hC dL_law_413 ?_
  refine v_iconst hC dL_law_414 ic_3 ?_
  refine v_iaddN hC dL_law_415 ?_
  refine v_sld hC hS0 (by omega) dL_law_416 ?_
  refine v_aload_0 hC dL_law_417 ?_
  refine v_iload_3 hC dL_law_418 ?_
  refine v_iconst hC dL_law_419 ic_4 ?_
  refine v_iaddN hC dL_law_420 ?_
  refine v_sld hC hS0 (by omega) dL_law_421 ?_
  refine v_cv4r hC lL_38 ⟨by decide, 7, _, rfl, rfl, fun _ _ _ => ⟨_, rfl⟩⟩ (k_X7_table hwm _ _ _ _) ⟨Nat.le_of_ble_eq_true rfl, Nat.le_of_ble_eq_true rfl, rfl, rfl⟩ (Nat.le_of_ble_eq_true rfl) dL_law_422 ?_
  refine v_iceq (tgt := 1467) hC dL_law_425 (by decide) (fun h425 => ?_) (fun h425 => absurd he h425)
  exact ih
theorem law_rainTable {X : XT} {E : ET} {σ μ : St} (hC : Cx X E cL_law RL 4 room_1) {b n i : Nat} {q : Nat → Int32} (hS0 : Sc X b n q) (hi : i + 6 ≤ n) (hwc : WC σ) (hws : WS σ) (hwm : WM μ) (he : (cfRainT σ (q (i + 1)) (q (i + 2))).1 = (mfRainT μ (q (i + 1)) (q (i + 2))).1) (ih : V X E 1467 [some (.ref b), some (.ref (adr E 0)), some (.ref (adr E 54)), some (.int (nI i))] [] (cfRainT σ (q (i + 1)) (q (i + 2))).2 (mfRainT μ (q (i + 1)) (q (i + 2))).2) : V X E 430 [some (.ref b), some (.ref (adr E 0)), some (.ref (adr E 54)), some (.int (nI i))] [] σ μ := by
  refine v_aload_1 hC dL_law_430 ?_
  refine v_aload_0 hC dL_law_431 ?_
  refine v_iload_3 hC dL_law_432 ?_
  refine v_iconst hC dL_law_433 ic_1 ?_
  refine v_iaddN hC dL_law_434 ?_
  refine v_sld hC hS0 (by omega) dL_law_435 ?_
  refine v_aload_0 hC dL_law_436 ?_
  refine v_iload_3 hC dL_law_437 ?_
  refine v_iconst hC dL_law_438 ic_2 ?_
  refine v_iaddN hC dL_law_439 ?_
  refine v_sld hC hS0 (by omega) dL_law_440 ?_
  refine v_cv2r hC lL_39 ⟨by decide, 6, _, rfl, rfl, fun _ _ _ => ⟨_, rfl⟩⟩ (k_X6_rainTable hwc hws _ _) ⟨Nat.le_of_ble_eq_true rfl, Nat.le_of_ble_eq_true rfl, rfl, rfl⟩ (Nat.le_of_ble_eq_true rfl) dL_law_441 ?_
  refine v_aload_2 hC dL_law_444 ?_
  refine v_aload_0 hC dL_law_445 ?_
  refine v_iload_3 hC dL_law_446 ?_
  refine v_iconst hC dL_law_447 ic_1 ?_
  refine v_iaddN hC dL_law_448 ?_
  refine v_sld hC hS0 (by omega) dL_law_449 ?_
  refine v_aload_0 hC dL_law_450 ?_
  refine v_iload_3 hC dL_law_451 ?_
  refine v_iconst hC dL_law_452 ic_2 ?_
  refine v_iaddN hC dL_law_453 ?_
  refine v_sld hC hS0 (by omega) dL_law_454 ?_
  refine v_cv2r hC lL_42 ⟨by decide, 7, _, rfl, rfl, fun _ _ _ => ⟨_, rfl⟩⟩ (k_X7_rainTable hwm _ _) ⟨Nat.le_of_ble_eq_true rfl, Nat.le_of_ble_eq_true rfl, rfl, rfl⟩ (Nat.le_of_ble_eq_true rfl) dL_law_455 ?_
  refine v_iceq (tgt := 1467) hC dL_law_458 (by decide) (fun h458 => ?_) (fun h458 => absurd he h458)
  exact ih
theorem law_sheet {X : XT} {E : ET} {σ μ : St} (hC : Cx X E cL_law RL 4 room_1) {b n i : Nat} {q : Nat → Int32} (hS0 : Sc X b n q) (hi : i + 6 ≤ n) (hwc : WC σ) (hws : WS σ) (hwm : WM μ) (he : (cfSheet σ (q (i + 1)) (q (i + 2)) (q (i + 3))).1 = (mfSheet μ (q (i + 1)) (q (i + 2)) (q (i + 3))).1) (ih : V X E 1467 [some (.ref b), some (.ref (adr E 0)), some (.ref (adr E 54)), some (.int (nI i))] [] (cfSheet σ (q (i + 1)) (q (i + 2)) (q (i + 3))).2 (mfSheet μ (q (i + 1)) (q (i + 2)) (q (i + 3))).2) : V X E 463 [some (.ref b), some (.ref (adr E 0)), some (.ref (adr E 54)), some (.int (nI i))] [] σ μ := by
  refine v_aload_1 hC dL_law_463 ?_
  refine v_aload_0 hC dL_law_464 ?_
  refine v_iload_3 hC dL_law_465 ?_
  refine v_iconst hC dL_law_466 ic_1 ?_
  refine v_iaddN hC dL_law_467 ?_
  refine v_sld hC hS0 (by omega) dL_law_468 ?_
  refine v_aload_0 hC dL_law_469 ?_
  refine v_iload_3 hC dL_law_470 ?_
  refine v_iconst hC dL_law_471 ic_2 ?_
  refine v_iaddN hC dL_law_472 ?_
  refine v_sld hC hS0 (by omega) dL_law_473 ?_
  refine v_aload_0 hC dL_law_474 ?_
  refine v_iload_3 hC dL_law_475 ?_
  refine v_iconst hC dL_law_476 ic_3 ?_
  refine v_iaddN hC dL_law_477 ?_
  refine v_sld hC hS0 (by omega) dL_law_478 ?_
  refine v_cv3r hC lL_43 ⟨by decide, 6, _, rfl, rfl, fun _ _ _ => ⟨_, rfl⟩⟩ (k_X6_sheet hwc hws _ _ _) ⟨Nat.le_of_ble_eq_true rfl, Nat.le_of_ble_eq_true rfl, rfl, rfl⟩ (Nat.le_of_ble_eq_true rfl) dL_law_479 ?_
  refine v_aload_2 hC dL_law_482 ?_
  refine v_aload_0 hC dL_law_483 ?_
  refine v_iload_3 hC dL_law_484 ?_
  refine v_iconst hC dL_law_485 ic_1 ?_
  refine v_iaddN hC dL_law_486 ?_
  refine v_sld hC hS0 (by omega) dL_law_487 ?_
  refine v_aload_0 hC dL_law_488 ?_
  refine v_iload_3 hC dL_law_489 ?_
  refine v_iconst hC dL_law_490 ic_2 ?_
  refine v_iaddN hC dL_law_491 ?_
  refine v_sld hC hS0 (by omega) dL_law_492 ?_
  refine v_aload_0 hC dL_law_493 ?_
  refine v_iload_3 hC dL_law_494 ?_
  refine v_iconst hC dL_law_495 ic_3 ?_
  refine v_iaddN hC dL_law_496 ?_
  refine v_sld hC hS0 (by omega) dL_law_497 ?_
  refine v_cv3r hC lL_47 ⟨by decide, 7, _, rfl, rfl, fun _ _ _ => ⟨_, rfl⟩⟩ (k_X7_sheet hwm _ _ _) ⟨Nat.le_of_ble_eq_true rfl, Nat.le_of_ble_eq_true rfl, rfl, rfl⟩ (Nat.le_of_ble_eq_true rfl) dL_law_498 ?_
  refine v_iceq (tgt := 1467) hC dL_law_501 (by decide) (fun h501 => ?_) (fun h501 => absurd he h501)
  exact ih
theorem law_put {X : XT} {E : ET} {σ μ : St} (hC : Cx X E cL_law RL 4 room_1) {b n i : Nat} {q : Nat → Int32} (hS0 : Sc X b n q) (hi : i + 6 ≤ n) (hwc : WC σ) (hws : WS σ) (hwm : WM μ) (he : (cfPut σ (q (i + 1)) (q (i + 2)) (q (i + 3))).1 = (mfPut μ (q (i + 1)) (q (i + 2)) (q (i + 3))).1) (ih : V X E 1467 [some (.ref b), some (.ref (adr E 0)), some (.ref (adr E 54)), some (.int (nI i))] [] (cfPut σ (q (i + 1)) (q (i + 2)) (q (i + 3))).2 (mfPut μ (q (i + 1)) (q (i + 2)) (q (i + 3))).2) : V X E 506 [some (.ref b), some (.ref (adr E 0)), some (.ref (adr E 54)), some (.int (nI i))] [] σ μ := by
  refine v_aload_1 hC dL_law_506 ?_
  refine v_aload_0 hC dL_law_507 ?_
  refine v_iload_3 hC dL_law_508 ?_
  refine v_iconst hC dL_law_509 ic_1 ?_
  refine v_iaddN hC dL_law_510 ?_
  refine v_sld hC hS0 (by omega) dL_law_511 ?_
  refine v_aload_0 hC dL_law_512 ?_
  refine v_iload_3 hC dL_law_513 ?_
  refine v_iconst hC dL_law_514 ic_2 ?_
  refine v_iaddN hC dL_law_515 ?_
  refine v_sld hC hS0 (by omega) dL_law_516 ?_
  refine v_aload_0 hC dL_law_517 ?_
  refine v_iload_3 hC dL_law_518 ?_
  refine v_iconst hC dL_law_519 ic_3 ?_
  refine v_iaddN hC dL_law_520 ?_
  refine v_sld hC hS0 (by omega) dL_law_521 ?_
  refine v_cv3r hC lL_48 ⟨by decide, 6, _, rfl, rfl, fun _ _ _ => ⟨_, rfl⟩⟩ (k_X6_put hwc hws _ _ _) ⟨Nat.le_of_ble_eq_true rfl, Nat.le_of_ble_eq_true rfl, rfl, rfl⟩ (Nat.le_of_ble_eq_true rfl) dL_law_522 ?_
  refine v_aload_2 hC dL_law_525 ?_
  refine v_aload_0 hC dL_law_526 ?_
  refine v_iload_3 hC dL_law_527 ?_
  refine v_iconst hC dL_law_528 ic_1 ?_
  refine v_iaddN hC dL_law_529 ?_
  refine v_sld hC hS0 (by omega) dL_law_530 ?_
  refine v_aload_0 hC dL_law_531 ?_
  refine v_iload_3 hC dL_law_532 ?_
  refine v_iconst hC dL_law_533 ic_2 ?_
  refine v_iaddN hC dL_law_534 ?_
  refine v_sld hC hS0 (by omega) dL_law_535 ?_
  refine v_aload_0 hC dL_law_536 ?_
  refine v_iload_3 hC dL_law_537 ?_
  refine v_iconst hC dL_law_538 ic_3 ?_
  refine v_iaddN hC dL_law_539 ?_
  refine v_sld hC hS0 (by omega) dL_law_540 ?_
  refine v_cv3r hC lL_51 ⟨by decide, 7, _, rfl, rfl, fun _ _ _ => ⟨_, rfl⟩⟩ (k_X7_put hwm _ _ _) ⟨Nat.le_of_ble_eq_true rfl, Nat.le_of_ble_eq_true rfl, rfl, rfl⟩ (Nat.le_of_ble_eq_true rfl) dL_law_541 ?_
  refine v_iceq (tgt := 1467) hC dL_law_544 (by decide) (fun h544 => ?_) (fun h544 => absurd he h544)
  exact ih
theorem law_copy {X : XT} {E : ET} {σ μ : St} (hC : Cx X E cL_law RL 4 room_1) {b n i : Nat} {q : Nat → Int32} (hS0 : Sc X b n q) (hi : i + 6 ≤ n) (hwc : WC σ) (hws : WS σ) (hwm : WM μ) (he : (cfCopy σ (q (i + 1)) (q (i + 2)) (q (i + 3)) (q (i + 4)) (q (i + 5))).1 = (mfCopy μ (q (i + 1)) (q (i + 2)) (q (i + 3)) (q (i + 4)) (q (i + 5))).1) (ih : V X E 1467 [some (.ref b), some (.ref (adr E 0)), some (.ref (adr E 54)), some (.int (nI i))] [] (cfCopy σ (q (i + 1)) (q (i + 2)) (q (i + 3)) (q (i + 4)) (q (i + 5))).2 (mfCopy μ (q (i + 1)) (q (i + 2)) (q (i + 3)) (q (i + 4)) (q (i + 5))).2) : V X E 549 [some (.ref b), some (.ref (adr E 0)), some (.ref (adr E 54)), some (.int (nI i))] [] σ μ := by
  refine v_aload_1 hC dL_law_549 ?_
  refine v_aload_0 hC dL_law_550 ?_
  refine v_iload_3 hC dL_law_551 ?_
  refine v_iconst hC dL_law_552 ic_1 ?_
  refine v_iaddN hC dL_law_553 ?_
  refine v_sld hC hS0 (by omega) dL_law_554 ?_
  refine v_aload_0 hC dL_law_555 ?_
  refine v_iload_3 hC dL_law_556 ?_
  refine v_iconst hC dL_law_557 ic_2 ?_
  refine v_iaddN hC dL_law_558 ?_
  refine v_sld hC hS0 (by omega) dL_law_559 ?_
  refine v_aload_0 hC dL_law_560 ?_
  refine v_iload_3 hC dL_law_561 ?_
  refine v_iconst hC dL_law_562 ic_3 ?_
  refine v_iaddN hC dL_law_563 ?_
  refine v_sld hC hS0 (by omega) dL_law_564 ?_
  refine v_aload_0 hC dL_law_565 ?_
  refine v_iload_3 hC dL_law_566 ?_
  refine v_iconst hC dL_law_567 ic_4 ?_
  refine v_iaddN hC dL_law_568 ?_
  refine v_sld hC hS0 (by omega) dL_law_569 ?_
  refine v_aload_0 hC dL_law_570 ?_
  refine v_iload_3 hC dL_law_571 ?_
  refine v_iconst hC dL_law_572 ic_5 ?_
  refine v_iaddN hC dL_law_573 ?_
  refine v_sld hC hS0 (by omega) dL_law_574 ?_
  refine v_cv5r hC lL_52 ⟨by decide, 6, _, rfl, rfl, fun _ _ _ => ⟨_, rfl⟩⟩ (k_X6_copy hwc hws _ _ _ _ _) ⟨Nat.le_of_ble_eq_true rfl, Nat.le_of_ble_eq_true rfl, rfl, rfl⟩ (Nat.le_of_ble_eq_true rfl) dL_law_575 ?_
  refine v_aload_2 hC dL_law_578 ?_
  refine v_aload_0 hC dL_law_579 ?_
  refine v_iload_3 hC dL_law_580 ?_
  refine v_iconst hC dL_law_581 ic_1 ?_
  refine v_iaddN hC dL_law_582 ?_
  refine v_sld hC hS0 (by omega) dL_law_583 ?_
  refine v_aload_0 hC dL_law_584 ?_
  refine v_iload_3 hC dL_law_585 ?_
  refine v_iconst hC dL_law_586 ic_2 ?_
  refine v_iaddN hC dL_law_587 ?_
  refine v_sld hC hS0 (by omega) dL_law_588 ?_
  refine v_aload_0 hC dL_law_589 ?_
  refine v_iload_3 hC dL_law_590 ?_
  refine v_iconst hC dL_law_591 ic_3 ?_
  refine v_iaddN hC dL_law_592 ?_
  refine v_sld hC hS0 (by omega) dL_law_593 ?_
  refine v_aload_0 hC dL_law_594 ?_
  refine v_iload_3 hC dL_law_595 ?_
  refine v_iconst hC dL_law_596 ic_4 ?_
  refine v_iaddN hC dL_law_597 ?_
  refine v_sld hC hS0 (by omega) dL_law_598 ?_
  refine v_aload_0 hC dL_law_599 ?_
  refine v_iload_3 hC dL_law_600 ?_
  refine v_iconst hC dL_law_601 ic_5 ?_
  refine v_iaddN hC dL_law_602 ?_
  refine v_sld hC hS0 (by omega) dL_law_603 ?_
  refine v_cv5r hC lL_56 ⟨by decide, 7, _, rfl, rfl, fun _ _ _ => ⟨_, rfl⟩⟩ (k_X7_copy hwm _ _ _ _ _) ⟨Nat.le_of_ble_eq_true rfl, Nat.le_of_ble_eq_true rfl, rfl, rfl⟩ (Nat.le_of_ble_eq_true rfl) dL_law_604 ?_
  refine v_iceq (tgt := 1467) hC dL_law_607 (by decide) (fun h607 => ?_) (fun h607 => absurd he h607)
  exact ih
theorem law_draws {X : XT} {E : ET} {σ μ : St} (hC : Cx X E cL_law RL 4 room_1) {b n i : Nat} {q : Nat → Int32} (hS0 : Sc X b n q) (hi : i + 6 ≤ n) (hwc : WC σ) (hws : WS σ) (hwm : WM μ) (he : (cfDraws σ (q (i + 1)) (q (i + 2)) (q (i + 3))).1 = (mfDraws μ (q (i + 1)) (q (i + 2)) (q (i + 3))).1) (ih : V X E 1467 [some (.ref b), some (.ref (adr E 0)), some (.ref (adr E 54)), some (.int (nI i))] [] (cfDraws σ (q (i + 1)) (q (i + 2)) (q (i + 3))).2 (mfDraws μ (q (i + 1)) (q (i + 2)) (q (i + 3))).2) : V X E 612 [some (.ref b), some (.ref (adr E 0)), some (.ref (adr E 54)), some (.int (nI i))] [] σ μ := by
  refine v_aload_1 hC dL_law_612 ?_
  refine v_aload_0 hC dL_law_613 ?_
  refine v_iload_3 hC dL_law_614 ?_
  refine v_iconst hC dL_law_615 ic_1 ?_
  refine v_iaddN hC dL_law_616 ?_
  refine v_sld hC hS0 (by omega) dL_law_617 ?_
  refine v_aload_0 hC dL_law_618 ?_
  refine v_iload_3 hC dL_law_619 ?_
  refine v_iconst hC dL_law_620 ic_2 ?_
  refine v_iaddN hC dL_law_621 ?_
  refine v_sld hC hS0 (by omega) dL_law_622 ?_
  refine v_aload_0 hC dL_law_623 ?_
  refine v_iload_3 hC dL_law_624 ?_
  refine v_iconst hC dL_law_625 ic_3 ?_
  refine v_iaddN hC dL_law_626 ?_
  refine v_sld hC hS0 (by omega) dL_law_627 ?_
  refine v_cv3r hC lL_57 ⟨by decide, 6, _, rfl, rfl, fun _ _ _ => ⟨_, rfl⟩⟩ (k_X6_draws hwc hws _ _ _) ⟨Nat.le_of_ble_eq_true rfl, Nat.le_of_ble_eq_true rfl, rfl, rfl⟩ (Nat.le_of_ble_eq_true rfl) dL_law_628 ?_
  refine v_aload_2 hC dL_law_631 ?_
  refine v_aload_0 hC dL_law_632 ?_
  refine v_iload_3 hC dL_law_633 ?_
  refine v_iconst hC dL_law_634 ic_1 ?_
  refine v_iaddN hC dL_law_635 ?_
  refine v_sld hC hS0 (by omega) dL_law_636 ?_
  refine v_aload_0 hC dL_law_637 ?_
  refine v_iload_3 hC dL_law_638 ?_
  refine v_iconst hC dL_law_639 ic_2 ?_
  refine v_iaddN hC dL_law_640 ?_
  refine v_sld hC hS0 (by omega) dL_law_641 ?_
  refine v_aload_0 hC dL_law_642 ?_
  refine v_iload_3 hC dL_law_643 ?_
  refine v_iconst hC dL_law_644 ic_3 ?_
  refine v_iaddN hC dL_law_645 ?_
  refine v_sld hC hS0 (by omega) dL_law_646 ?_
  refine v_cv3r hC lL_60 ⟨by decide, 7, _, rfl, rfl, fun _ _ _ => ⟨_, rfl⟩⟩ (k_X7_draws hwm _ _ _) ⟨Nat.le_of_ble_eq_true rfl, Nat.le_of_ble_eq_true rfl, rfl, rfl⟩ (Nat.le_of_ble_eq_true rfl) dL_law_647 ?_
  refine v_iceq (tgt := 1467) hC dL_law_650 (by decide) (fun h650 => ?_) (fun h650 => absurd he h650)
  exact ih
theorem law_draw {X : XT} {E : ET} {σ μ : St} (hC : Cx X E cL_law RL 4 room_1) {b n i : Nat} {q : Nat → Int32} (hS0 : Sc X b n q) (hi : i + 6 ≤ n) (hwc : WC σ) (hws : WS σ) (hwm : WM μ) (he : (cfDraw σ (q (i + 1)) (q (i + 2)) (q (i + 3))).1 = (mfDraw μ (q (i + 1)) (q (i + 2)) (q (i + 3))).1) (ih : V X E 1467 [some (.ref b), some (.ref (adr E 0)), some (.ref (adr E 54)), some (.int (nI i))] [] (cfDraw σ (q (i + 1)) (q (i + 2)) (q (i + 3))).2 (mfDraw μ (q (i + 1)) (q (i + 2)) (q (i + 3))).2) : V X E 655 [some (.ref b), some (.ref (adr E 0)), some (.ref (adr E 54)), some (.int (nI i))] [] σ μ := by
  refine v_aload_1 hC dL_law_655 ?_
  refine v_aload_0 hC dL_law_656 ?_
  refine v_iload_3 hC dL_law_657 ?_
  refine v_iconst hC dL_law_658 ic_1 ?_
  refine v_iaddN hC dL_law_659 ?_
  refine v_sld hC hS0 (by omega) dL_law_660 ?_
  refine v_aload_0 hC dL_law_661 ?_
  refine v_iload_3 hC dL_law_662 ?_
  refine v_iconst hC dL_law_663 ic_2 ?_
  refine v_iaddN hC dL_law_664 ?_
  refine v_sld hC hS0 (by omega) dL_law_665 ?_
  refine v_aload_0 hC dL_law_666 ?_
  refine v_iload_3 hC dL_law_667 ?_
  refine v_iconst hC dL_law_668 ic_3 ?_
  refine v_iaddN hC dL_law_669 ?_
  refine v_sld hC hS0 (by omega) dL_law_670 ?_
  refine v_cv3r hC lL_61 ⟨by decide, 6, _, rfl, rfl, fun _ _ _ => ⟨_, rfl⟩⟩ (k_X6_draw hwc hws _ _ _) ⟨Nat.le_of_ble_eq_true rfl, Nat.le_of_ble_eq_true rfl, rfl, rfl⟩ (Nat.le_of_ble_eq_true rfl) dL_law_671 ?_
  refine v_aload_2 hC dL_law_674 ?_
  refine v_aload_0 hC dL_law_675 ?_
  refine v_iload_3 hC dL_law_676 ?_
  refine v_iconst hC dL_law_677 ic_1 ?_
  refine v_iaddN hC dL_law_678 ?_
  refine v_sld hC hS0 (by omega) dL_law_679 ?_
  refine v_aload_0 hC dL_law_680 ?_
  refine v_iload_3 hC dL_law_681 ?_
  refine v_iconst hC dL_law_682 ic_2 ?_
  refine v_iaddN hC dL_law_683 ?_
  refine v_sld hC hS0 (by omega) dL_law_684 ?_
  refine v_aload_0 hC dL_law_685 ?_
  refine v_iload_3 hC dL_law_686 ?_
  refine v_iconst hC dL_law_687 ic_3 ?_
  refine v_iaddN hC dL_law_688 ?_
  refine v_sld hC hS0 (by omega) dL_law_689 ?_
  refine v_cv3r hC lL_64 ⟨by decide, 7, _, rfl, rfl, fun _ _ _ => ⟨_, rfl⟩⟩ (k_X7_draw hwm _ _ _) ⟨Nat.le_of_ble_eq_true rfl, Nat.le_of_ble_eq_true rfl, rfl, rfl⟩ (Nat.le_of_ble_eq_true rfl) dL_law_690 ?_
  refine v_iceq (tgt := 1467) hC dL_law_693 (by decide) (fun h693 => ?_) (fun h693 => absurd he h693)
  exact ih
theorem law_counts {X : XT} {E : ET} {σ μ : St} (hC : Cx X E cL_law RL 4 room_1) {b n i : Nat} {q : Nat → Int32} (hS0 : Sc X b n q) (hi : i + 6 ≤ n) (hwc : WC σ) (hws : WS σ) (hwm : WM μ) (he : (cfCounts σ (q (i + 1)) (q (i + 2))).1 = (mfCounts μ (q (i + 1)) (q (i + 2))).1) (ih : V X E 1467 [some (.ref b), some (.ref (adr E 0)), some (.ref (adr E 54)), some (.int (nI i))] [] (cfCounts σ (q (i + 1)) (q (i + 2))).2 (mfCounts μ (q (i + 1)) (q (i + 2))).2) : V X E 698 [some (.ref b), some (.ref (adr E 0)), some (.ref (adr E 54)), some (.int (nI i))] [] σ μ := by
  refine v_aload_1 hC dL_law_698 ?_
  refine v_aload_0 hC dL_law_699 ?_
  refine v_iload_3 hC dL_law_700 ?_
  refine v_iconst hC dL_law_701 ic_1 ?_
  refine v_iaddN hC dL_law_702 ?_
  refine v_sld hC hS0 (by omega) dL_law_703 ?_
  refine v_aload_0 hC dL_law_704 ?_
  refine v_iload_3 hC dL_law_705 ?_
  refine v_iconst hC dL_law_706 ic_2 ?_
  refine v_iaddN hC dL_law_707 ?_
  refine v_sld hC hS0 (by omega) dL_law_708 ?_
  refine v_cv2r hC lL_65 ⟨by decide, 6, _, rfl, rfl, fun _ _ _ => ⟨_, rfl⟩⟩ (k_X6_counts hwc hws _ _) ⟨Nat.le_of_ble_eq_true rfl, Nat.le_of_ble_eq_true rfl, rfl, rfl⟩ (Nat.le_of_ble_eq_true rfl) dL_law_709 ?_
  refine v_aload_2 hC dL_law_712 ?_
  refine v_aload_0 hC dL_law_713 ?_
  refine v_iload_3 hC dL_law_714 ?_
  refine v_iconst hC dL_law_715 ic_1 ?_
  refine v_iaddN hC dL_law_716 ?_
  refine v_sld hC hS0 (by omega) dL_law_717 ?_
  refine v_aload_0 hC dL_law_718 ?_
  refine v_iload_3 hC dL_law_719 ?_
  refine v_iconst hC dL_law_720 ic_2 ?_
  refine v_iaddN hC dL_law_721 ?_
  refine v_sld hC hS0 (by omega) dL_law_722 ?_
  refine v_cv2r hC lL_68 ⟨by decide, 7, _, rfl, rfl, fun _ _ _ => ⟨_, rfl⟩⟩ (k_X7_counts hwm _ _) ⟨Nat.le_of_ble_eq_true rfl, Nat.le_of_ble_eq_true rfl, rfl, rfl⟩ (Nat.le_of_ble_eq_true rfl) dL_law_723 ?_
  refine v_iceq (tgt := 1467) hC dL_law_726 (by decide) (fun h726 => ?_) (fun h726 => absurd he h726)
  exact ih
theorem law_rain {X : XT} {E : ET} {σ μ : St} (hC : Cx X E cL_law RL 4 room_1) {b n i : Nat} {q : Nat → Int32} (hS0 : Sc X b n q) (hi : i + 6 ≤ n) (hwc : WC σ) (hws : WS σ) (hwm : WM μ) (he : (cfRain σ (q (i + 1)) (q (i + 2))).1 = (mfRain μ (q (i + 1)) (q (i + 2))).1) (ih : V X E 1467 [some (.ref b), some (.ref (adr E 0)), some (.ref (adr E 54)), some (.int (nI i))] [] (cfRain σ (q (i + 1)) (q (i + 2))).2 (mfRain μ (q (i + 1)) (q (i + 2))).2) : V X E 731 [some (.ref b), some (.ref (adr E 0)), some (.ref (adr E 54)), some (.int (nI i))] [] σ μ := by
  refine v_aload_1 hC dL_law_731 ?_
  refine v_aload_0 hC dL_law_732 ?_
  refine v_iload_3 hC dL_law_733 ?_
  refine v_iconst hC dL_law_734 ic_1 ?_
  refine v_iaddN hC dL_law_735 ?_
  refine v_sld hC hS0 (by omega) dL_law_736 ?_
  refine v_aload_0 hC dL_law_737 ?_
  refine v_iload_3 hC dL_law_738 ?_
  refine v_iconst hC dL_law_739 ic_2 ?_
  refine v_iaddN hC dL_law_740 ?_
  refine v_sld hC hS0 (by omega) dL_law_741 ?_
  refine v_cv2r hC lL_69 ⟨by decide, 6, _, rfl, rfl, fun _ _ _ => ⟨_, rfl⟩⟩ (k_X6_rain hwc hws _ _) ⟨Nat.le_of_ble_eq_true rfl, Nat.le_of_ble_eq_true rfl, rfl, rfl⟩ (Nat.le_of_ble_eq_true rfl) dL_law_742 ?_
  refine v_aload_2 hC dL_law_745 ?_
  refine v_aload_0 hC dL_law_746 ?_
  refine v_iload_3 hC dL_law_747 ?_
  refine v_iconst hC dL_law_748 ic_1 ?_
  refine v_iaddN hC dL_law_749 ?_
  refine v_sld hC hS0 (by omega) dL_law_750 ?_
  refine v_aload_0 hC dL_law_751 ?_
  refine v_iload_3 hC dL_law_752 ?_
  refine v_iconst hC dL_law_753 ic_2 ?_
  refine v_iaddN hC dL_law_754 ?_
  refine v_sld hC hS0 (by omega) dL_law_755 ?_
  refine v_cv2r hC lL_72 ⟨by decide, 7, _, rfl, rfl, fun _ _ _ => ⟨_, rfl⟩⟩ (k_X7_rain hwm _ _) ⟨Nat.le_of_ble_eq_true rfl, Nat.le_of_ble_eq_true rfl, rfl, rfl⟩ (Nat.le_of_ble_eq_true rfl) dL_law_756 ?_
  refine v_iceq (tgt := 1467) hC dL_law_759 (by decide) (fun h759 => ?_) (fun h759 => absurd he h759)
  exact ih
theorem law_dry {X : XT} {E : ET} {σ μ : St} (hC : Cx X E cL_law RL 4 room_1) {b n i : Nat} {q : Nat → Int32} (hS0 : Sc X b n q) (hi : i + 6 ≤ n) (hwc : WC σ) (hws : WS σ) (hwm : WM μ) (he : (cfDry σ).1 = (mfDry μ).1) (ih : V X E 1467 [some (.ref b), some (.ref (adr E 0)), some (.ref (adr E 54)), some (.int (nI i))] [] (cfDry σ).2 (mfDry μ).2) : V X E 764 [some (.ref b), some (.ref (adr E 0)), some (.ref (adr E 54)), some (.int (nI i))] [] σ μ := by
  refine v_aload_1 hC dL_law_764 ?_
  refine v_cv0r hC lL_73 ⟨by decide, 6, _, rfl, rfl, fun _ _ _ => ⟨_, rfl⟩⟩ (k_X6_dry hwc hws) ⟨Nat.le_of_ble_eq_true rfl, Nat.le_of_ble_eq_true rfl, rfl, rfl⟩ (Nat.le_of_ble_eq_true rfl) dL_law_765 ?_
  refine v_aload_2 hC dL_law_768 ?_
  refine v_cv0r hC lL_77 ⟨by decide, 7, _, rfl, rfl, fun _ _ _ => ⟨_, rfl⟩⟩ (k_X7_dry hwm) ⟨Nat.le_of_ble_eq_true rfl, Nat.le_of_ble_eq_true rfl, rfl, rfl⟩ (Nat.le_of_ble_eq_true rfl) dL_law_769 ?_
  refine v_iceq (tgt := 1467) hC dL_law_772 (by decide) (fun h772 => ?_) (fun h772 => absurd he h772)
  exact ih
theorem law_head {X : XT} {E : ET} {σ μ : St} (hC : Cx X E cL_law RL 4 room_1) {b n i : Nat} {q : Nat → Int32} (hS0 : Sc X b n q) (hi : i + 6 ≤ n) (hwc : WC σ) (hws : WS σ) (hwm : WM μ) (he : (cfHead σ (q (i + 1)) (q (i + 2))).1 = (mfHead μ (q (i + 1)) (q (i + 2))).1) (ih : V X E 1467 [some (.ref b), some (.ref (adr E 0)), some (.ref (adr E 54)), some (.int (nI i))] [] (cfHead σ (q (i + 1)) (q (i + 2))).2 (mfHead μ (q (i + 1)) (q (i + 2))).2) : V X E 777 [some (.ref b), some (.ref (adr E 0)), some (.ref (adr E 54)), some (.int (nI i))] [] σ μ := by
  refine v_aload_1 hC dL_law_777 ?_
  refine v_aload_0 hC dL_law_778 ?_
  refine v_iload_3 hC dL_law_779 ?_
  refine v_iconst hC dL_law_780 ic_1 ?_
  refine v_iaddN hC dL_law_781 ?_
  refine v_sld hC hS0 (by omega) dL_law_782 ?_
  refine v_aload_0 hC dL_law_783 ?_
  refine v_iload_3 hC dL_law_784 ?_
  refine v_iconst hC dL_law_785 ic_2 ?_
  refine v_iaddN hC dL_law_786 ?_
  refine v_sld hC hS0 (by omega) dL_law_787 ?_
  refine v_cv2r hC lL_78 ⟨by decide, 6, _, rfl, rfl, fun _ _ _ => ⟨_, rfl⟩⟩ (k_X6_head hwc hws _ _) ⟨Nat.le_of_ble_eq_true rfl, Nat.le_of_ble_eq_true rfl, rfl, rfl⟩ (Nat.le_of_ble_eq_true rfl) dL_law_788 ?_
  refine v_aload_2 hC dL_law_791 ?_
  refine v_aload_0 hC dL_law_792 ?_
  refine v_iload_3 hC dL_law_793 ?_
  refine v_iconst hC dL_law_794 ic_1 ?_
  refine v_iaddN hC dL_law_795 ?_
  refine v_sld hC hS0 (by omega) dL_law_796 ?_
  refine v_aload_0 hC dL_law_797 ?_
  refine v_iload_3 hC dL_law_798 ?_
  refine v_iconst hC dL_law_799 ic_2 ?_
  refine v_iaddN hC dL_law_800 ?_
  refine v_sld hC hS0 (by omega) dL_law_801 ?_
  refine v_cv2r hC lL_81 ⟨by decide, 7, _, rfl, rfl, fun _ _ _ => ⟨_, rfl⟩⟩ (k_X7_head hwm _ _) ⟨Nat.le_of_ble_eq_true rfl, Nat.le_of_ble_eq_true rfl, rfl, rfl⟩ (Nat.le_of_ble_eq_true rfl) dL_law_802 ?_
  refine v_iceq (tgt := 1467) hC dL_law_805 (by decide) (fun h805 => ?_) (fun h805 => absurd he h805)
  exact ih
theorem law_by {X : XT} {E : ET} {σ μ : St} (hC : Cx X E cL_law RL 4 room_1) {b n i : Nat} {q : Nat → Int32} (hS0 : Sc X b n q) (hi : i + 6 ≤ n) (hwc : WC σ) (hws : WS σ) (hwm : WM μ) (he : (cfBy σ (q (i + 1)) (q (i + 2)) (q (i + 3))).1 = (mfBy μ (q (i + 1)) (q (i + 2)) (q (i + 3))).1) (ih : V X E 1467 [some (.ref b), some (.ref (adr E 0)), some (.ref (adr E 54)), some (.int (nI i))] [] (cfBy σ (q (i + 1)) (q (i + 2)) (q (i + 3))).2 (mfBy μ (q (i + 1)) (q (i + 2)) (q (i + 3))).2) : V X E 810 [some (.ref b), some (.ref (adr E 0)), some (.ref (adr E 54)), some (.int (nI i))] [] σ μ := by
  refine v_aload_1 hC dL_law_810 ?_
  refine v_aload_0 hC dL_law_811 ?_
  refine v_iload_3 hC dL_law_812 ?_
  refine v_iconst hC dL_law_813 ic_1 ?_
  refine v_iaddN hC dL_law_814 ?_
  refine v_sld hC hS0 (by omega) dL_law_815 ?_
  refine v_aload_0 hC dL_law_816 ?_
  refine v_iload_3 hC dL_law_817 ?_
  refine v_iconst hC dL_law_818 ic_2 ?_
  refine v_iaddN hC dL_law_819 ?_
  refine v_sld hC hS0 (by omega) dL_law_820 ?_
  refine v_aload_0 hC dL_law_821 ?_
  refine v_iload_3 hC dL_law_822 ?_
  refine v_iconst hC dL_law_823 ic_3 ?_
  refine v_iaddN hC dL_law_824 ?_
  refine v_sld hC hS0 (by omega) dL_law_825 ?_
  refine v_cv3r hC lL_82 ⟨by decide, 6, _, rfl, rfl, fun _ _ _ => ⟨_, rfl⟩⟩ (k_X6_by hwc hws _ _ _) ⟨Nat.le_of_ble_eq_true rfl, Nat.le_of_ble_eq_true rfl, rfl, rfl⟩ (Nat.le_of_ble_eq_true rfl) dL_law_826 ?_
  refine v_aload_2 hC dL_law_829 ?_
  refine v_aload_0 hC dL_law_830 ?_
  refine v_iload_3 hC dL_law_831 ?_
  refine v_iconst hC dL_law_832 ic_1 ?_
  refine v_iaddN hC dL_law_833 ?_
  refine v_sld hC hS0 (by omega) dL_law_834 ?_
  refine v_aload_0 hC dL_law_835 ?_
  refine v_iload_3 hC dL_law_836 ?_
  refine v_iconst hC dL_law_837 ic_2 ?_
  refine v_iaddN hC dL_law_838 ?_
  refine v_sld hC hS0 (by omega) dL_law_839 ?_
  refine v_aload_0 hC dL_law_840 ?_
  refine v_iload_3 hC dL_law_841 ?_
  refine v_iconst hC dL_law_842 ic_3 ?_
  refine v_iaddN hC dL_law_843 ?_
  refine v_sld hC hS0 (by omega) dL_law_844 ?_
  refine v_cv3r hC lL_85 ⟨by decide, 7, _, rfl, rfl, fun _ _ _ => ⟨_, rfl⟩⟩ (k_X7_by hwm _ _ _) ⟨Nat.le_of_ble_eq_true rfl, Nat.le_of_ble_eq_true rfl, rfl, rfl⟩ (Nat.le_of_ble_eq_true rfl) dL_law_845 ?_
  refine v_iceq (tgt := 1467) hC dL_law_848 (by decide) (fun h848 => ?_) (fun h848 => absurd he h848)
  exact ih
theorem law_rained {X : XT} {E : ET} {σ μ : St} (hC : Cx X E cL_law RL 4 room_1) {b n i : Nat} {q : Nat → Int32} (hS0 : Sc X b n q) (hi : i + 6 ≤ n) (hwc : WC σ) (hws : WS σ) (hwm : WM μ) (he : (cfRained σ (q (i + 1)) (q (i + 2))).1 = (mfRained μ (q (i + 1)) (q (i + 2))).1) (ih : V X E 1467 [some (.ref b), some (.ref (adr E 0)), some (.ref (adr E 54)), some (.int (nI i))] [] (cfRained σ (q (i + 1)) (q (i + 2))).2 (mfRained μ (q (i + 1)) (q (i + 2))).2) : V X E 853 [some (.ref b), some (.ref (adr E 0)), some (.ref (adr E 54)), some (.int (nI i))] [] σ μ := by
  refine v_aload_1 hC dL_law_853 ?_
  refine v_aload_0 hC dL_law_854 ?_
  refine v_iload_3 hC dL_law_855 ?_
  refine v_iconst hC dL_law_856 ic_1 ?_
  refine v_iaddN hC dL_law_857 ?_
  refine v_sld hC hS0 (by omega) dL_law_858 ?_
  refine v_aload_0 hC dL_law_859 ?_
  refine v_iload_3 hC dL_law_860 ?_
  refine v_iconst hC dL_law_861 ic_2 ?_
  refine v_iaddN hC dL_law_862 ?_
  refine v_sld hC hS0 (by omega) dL_law_863 ?_
  refine v_cv2r hC lL_86 ⟨by decide, 6, _, rfl, rfl, fun _ _ _ => ⟨_, rfl⟩⟩ (k_X6_rained hwc hws _ _) ⟨Nat.le_of_ble_eq_true rfl, Nat.le_of_ble_eq_true rfl, rfl, rfl⟩ (Nat.le_of_ble_eq_true rfl) dL_law_864 ?_
  refine v_aload_2 hC dL_law_867 ?_
  refine v_aload_0 hC dL_law_868 ?_
  refine v_iload_3 hC dL_law_869 ?_
  refine v_iconst hC dL_law_870 ic_1 ?_
  refine v_iaddN hC dL_law_871 ?_
  refine v_sld hC hS0 (by omega) dL_law_872 ?_
  refine v_aload_0 hC dL_law_873 ?_
  refine v_iload_3 hC dL_law_874 ?_
  refine v_iconst hC dL_law_875 ic_2 ?_
  refine v_iaddN hC dL_law_876 ?_
  refine v_sld hC hS0 (by omega) dL_law_877 ?_
  refine v_cv2r hC lL_89 ⟨by decide, 7, _, rfl, rfl, fun _ _ _ => ⟨_, rfl⟩⟩ (k_X7_rained hwm _ _) ⟨Nat.le_of_ble_eq_true rfl, Nat.le_of_ble_eq_true rfl, rfl, rfl⟩ (Nat.le_of_ble_eq_true rfl) dL_law_878 ?_
  refine v_iceq (tgt := 1467) hC dL_law_881 (by decide) (fun h881 => ?_) (fun h881 => absurd he h881)
  exact ih
theorem law_most {X : XT} {E : ET} {σ μ : St} (hC : Cx X E cL_law RL 4 room_1) {b n i : Nat} {q : Nat → Int32} (hS0 : Sc X b n q) (hi : i + 6 ≤ n) (hwc : WC σ) (hws : WS σ) (hwm : WM μ) (he : (cfMost σ (q (i + 1)) (q (i + 2))).1 = (mfMost μ (q (i + 1)) (q (i + 2))).1) (ih : V X E 1467 [some (.ref b), some (.ref (adr E 0)), some (.ref (adr E 54)), some (.int (nI i))] [] (cfMost σ (q (i + 1)) (q (i + 2))).2 (mfMost μ (q (i + 1)) (q (i + 2))).2) : V X E 886 [some (.ref b), some (.ref (adr E 0)), some (.ref (adr E 54)), some (.int (nI i))] [] σ μ := by
  refine v_aload_1 hC dL_law_886 ?_
  refine v_aload_0 hC dL_law_887 ?_
  refine v_iload_3 hC dL_law_888 ?_
  refine v_iconst hC dL_law_889 ic_1 ?_
  refine v_iaddN hC dL_law_890 ?_
  refine v_sld hC hS0 (by omega) dL_law_891 ?_
  refine v_aload_0 hC dL_law_892 ?_
  refine v_iload_3 hC dL_law_893 ?_
  refine v_iconst hC dL_law_894 ic_2 ?_
  refine v_iaddN hC dL_law_895 ?_
  refine v_sld hC hS0 (by omega) dL_law_896 ?_
  refine v_cv2r hC lL_90 ⟨by decide, 6, _, rfl, rfl, fun _ _ _ => ⟨_, rfl⟩⟩ (k_X6_most hwc hws _ _) ⟨Nat.le_of_ble_eq_true rfl, Nat.le_of_ble_eq_true rfl, rfl, rfl⟩ (Nat.le_of_ble_eq_true rfl) dL_law_897 ?_
  refine v_aload_2 hC dL_law_900 ?_
  refine v_aload_0 hC dL_law_901 ?_
  refine v_iload_3 hC dL_law_902 ?_
  refine v_iconst hC dL_law_903 ic_1 ?_
  refine v_iaddN hC dL_law_904 ?_
  refine v_sld hC hS0 (by omega) dL_law_905 ?_
  refine v_aload_0 hC dL_law_906 ?_
  refine v_iload_3 hC dL_law_907 ?_
  refine v_iconst hC dL_law_908 ic_2 ?_
  refine v_iaddN hC dL_law_909 ?_
  refine v_sld hC hS0 (by omega) dL_law_910 ?_
  refine v_cv2r hC lL_93 ⟨by decide, 7, _, rfl, rfl, fun _ _ _ => ⟨_, rfl⟩⟩ (k_X7_most hwm _ _) ⟨Nat.le_of_ble_eq_true rfl, Nat.le_of_ble_eq_true rfl, rfl, rfl⟩ (Nat.le_of_ble_eq_true rfl) dL_law_911 ?_
  refine v_iceq (tgt := 1467) hC dL_law_914 (by decide) (fun h914 => ?_) (fun h914 => absurd he h914)
  exact ih
theorem law_when {X : XT} {E : ET} {σ μ : St} (hC : Cx X E cL_law RL 4 room_1) {b n i : Nat} {q : Nat → Int32} (hS0 : Sc X b n q) (hi : i + 6 ≤ n) (hwc : WC σ) (hws : WS σ) (hwm : WM μ) (he : (cfWhen σ (q (i + 1)) (q (i + 2))).1 = (mfWhen μ (q (i + 1)) (q (i + 2))).1) (ih : V X E 1467 [some (.ref b), some (.ref (adr E 0)), some (.ref (adr E 54)), some (.int (nI i))] [] (cfWhen σ (q (i + 1)) (q (i + 2))).2 (mfWhen μ (q (i + 1)) (q (i + 2))).2) : V X E 919 [some (.ref b), some (.ref (adr E 0)), some (.ref (adr E 54)), some (.int (nI i))] [] σ μ := by
  refine v_aload_1 hC dL_law_919 ?_
  refine v_aload_0 hC dL_law_920 ?_
  refine v_iload_3 hC dL_law_921 ?_
  refine v_iconst hC dL_law_922 ic_1 ?_
  refine v_iaddN hC dL_law_923 ?_
  refine v_sld hC hS0 (by omega) dL_law_924 ?_
  refine v_aload_0 hC dL_law_925 ?_
  refine v_iload_3 hC dL_law_926 ?_
  refine v_iconst hC dL_law_927 ic_2 ?_
  refine v_iaddN hC dL_law_928 ?_
  refine v_sld hC hS0 (by omega) dL_law_929 ?_
  refine v_cv2r hC lL_94 ⟨by decide, 6, _, rfl, rfl, fun _ _ _ => ⟨_, rfl⟩⟩ (k_X6_when hwc hws _ _) ⟨Nat.le_of_ble_eq_true rfl, Nat.le_of_ble_eq_true rfl, rfl, rfl⟩ (Nat.le_of_ble_eq_true rfl) dL_law_930 ?_
  refine v_aload_2 hC dL_law_933 ?_
  refine v_aload_0 hC dL_law_934 ?_
  refine v_iload_3 hC dL_law_935 ?_
  refine v_iconst hC dL_law_936 ic_1 ?_
  refine v_iaddN hC dL_law_937 ?_
  refine v_sld hC hS0 (by omega) dL_law_938 ?_
  refine v_aload_0 hC dL_law_939 ?_
  refine v_iload_3 hC dL_law_940 ?_
  refine v_iconst hC dL_law_941 ic_2 ?_
  refine v_iaddN hC dL_law_942 ?_
  refine v_sld hC hS0 (by omega) dL_law_943 ?_
  refine v_cv2r hC lL_97 ⟨by decide, 7, _, rfl, rfl, fun _ _ _ => ⟨_, rfl⟩⟩ (k_X7_when hwm _ _) ⟨Nat.le_of_ble_eq_true rfl, Nat.le_of_ble_eq_true rfl, rfl, rfl⟩ (Nat.le_of_ble_eq_true rfl) dL_law_944 ?_
  refine v_iceq (tgt := 1467) hC dL_law_947 (by decide) (fun h947 => ?_) (fun h947 => absurd he h947)
  exact ih
theorem law_near {X : XT} {E : ET} {σ μ : St} (hC : Cx X E cL_law RL 4 room_1) {b n i : Nat} {q : Nat → Int32} (hS0 : Sc X b n q) (hi : i + 6 ≤ n) (hwc : WC σ) (hws : WS σ) (hwm : WM μ) (he : (cfNear σ (q (i + 1)) (q (i + 2))).1 = (mfNear μ (q (i + 1)) (q (i + 2))).1) (ih : V X E 1467 [some (.ref b), some (.ref (adr E 0)), some (.ref (adr E 54)), some (.int (nI i))] [] (cfNear σ (q (i + 1)) (q (i + 2))).2 (mfNear μ (q (i + 1)) (q (i + 2))).2) : V X E 952 [some (.ref b), some (.ref (adr E 0)), some (.ref (adr E 54)), some (.int (nI i))] [] σ μ := by
  refine v_aload_1 hC dL_law_952 ?_
  refine v_aload_0 hC dL_law_953 ?_
  refine v_iload_3 hC dL_law_954 ?_
  refine v_iconst hC dL_law_955 ic_1 ?_
  refine v_iaddN hC dL_law_956 ?_
  refine v_sld hC hS0 (by omega) dL_law_957 ?_
  refine v_aload_0 hC dL_law_958 ?_
  refine v_iload_3 hC dL_law_959 ?_
  refine v_iconst hC dL_law_960 ic_2 ?_
  refine v_iaddN hC dL_law_961 ?_
  refine v_sld hC hS0 (by omega) dL_law_962 ?_
  refine v_cv2r hC lL_98 ⟨by decide, 6, _, rfl, rfl, fun _ _ _ => ⟨_, rfl⟩⟩ (k_X6_near hwc hws _ _) ⟨Nat.le_of_ble_eq_true rfl, Nat.le_of_ble_eq_true rfl, rfl, rfl⟩ (Nat.le_of_ble_eq_true rfl) dL_law_963 ?_
  refine v_aload_2 hC dL_law_966 ?_
  refine v_aload_0 hC dL_law_967 ?_
  refine v_iload_3 hC dL_law_968 ?_
  refine v_iconst hC dL_law_969 ic_1 ?_
  refine v_iaddN hC dL_law_970 ?_
  refine v_sld hC hS0 (by omega) dL_law_971 ?_
  refine v_aload_0 hC dL_law_972 ?_
  refine v_iload_3 hC dL_law_973 ?_
  refine v_iconst hC dL_law_974 ic_2 ?_
  refine v_iaddN hC dL_law_975 ?_
  refine v_sld hC hS0 (by omega) dL_law_976 ?_
  refine v_cv2r hC lL_101 ⟨by decide, 7, _, rfl, rfl, fun _ _ _ => ⟨_, rfl⟩⟩ (k_X7_near hwm _ _) ⟨Nat.le_of_ble_eq_true rfl, Nat.le_of_ble_eq_true rfl, rfl, rfl⟩ (Nat.le_of_ble_eq_true rfl) dL_law_977 ?_
  refine v_iceq (tgt := 1467) hC dL_law_980 (by decide) (fun h980 => ?_) (fun h980 => absurd he h980)
  exact ih
theorem law_low {X : XT} {E : ET} {σ μ : St} (hC : Cx X E cL_law RL 4 room_1) {b n i : Nat} {q : Nat → Int32} (hS0 : Sc X b n q) (hi : i + 6 ≤ n) (hwc : WC σ) (hws : WS σ) (hwm : WM μ) (he : (cfLow σ (q (i + 1))).1 = (mfLow μ (q (i + 1))).1) (ih : V X E 1467 [some (.ref b), some (.ref (adr E 0)), some (.ref (adr E 54)), some (.int (nI i))] [] (cfLow σ (q (i + 1))).2 (mfLow μ (q (i + 1))).2) : V X E 985 [some (.ref b), some (.ref (adr E 0)), some (.ref (adr E 54)), some (.int (nI i))] [] σ μ := by
  refine v_aload_1 hC dL_law_985 ?_
  refine v_aload_0 hC dL_law_986 ?_
  refine v_iload_3 hC dL_law_987 ?_
  refine v_iconst hC dL_law_988 ic_1 ?_
  refine v_iaddN hC dL_law_989 ?_
  refine v_sld hC hS0 (by omega) dL_law_990 ?_
  refine v_cv1r hC lL_102 ⟨by decide, 6, _, rfl, rfl, fun _ _ _ => ⟨_, rfl⟩⟩ (k_X6_low hwc hws _) ⟨Nat.le_of_ble_eq_true rfl, Nat.le_of_ble_eq_true rfl, rfl, rfl⟩ (Nat.le_of_ble_eq_true rfl) dL_law_991 ?_
  refine v_aload_2 hC dL_law_994 ?_
  refine v_aload_0 hC dL_law_995 ?_
  refine v_iload_3 hC dL_law_996 ?_
  refine v_iconst hC dL_law_997 ic_1 ?_
  refine v_iaddN hC dL_law_998 ?_
  refine v_sld hC hS0 (by omega) dL_law_999 ?_
  refine v_cv1r hC lL_106 ⟨by decide, 7, _, rfl, rfl, fun _ _ _ => ⟨_, rfl⟩⟩ (k_X7_low hwm _) ⟨Nat.le_of_ble_eq_true rfl, Nat.le_of_ble_eq_true rfl, rfl, rfl⟩ (Nat.le_of_ble_eq_true rfl) dL_law_1000 ?_
  refine v_iceq (tgt := 1467) hC dL_law_1003 (by decide) (fun h1003 => ?_) (fun h1003 => absurd he h1003)
  exact ih
theorem law_without {X : XT} {E : ET} {σ μ : St} (hC : Cx X E cL_law RL 4 room_1) {b n i : Nat} {q : Nat → Int32} (hS0 : Sc X b n q) (hi : i + 6 ≤ n) (hwc : WC σ) (hws : WS σ) (hwm : WM μ) (he : (cfWithout σ (q (i + 1)) (q (i + 2)) (q (i + 3)) (q (i + 4))).1 = (mfWithout μ (q (i + 1)) (q (i + 2)) (q (i + 3)) (q (i + 4))).1) (ih : V X E 1467 [some (.ref b), some (.ref (adr E 0)), some (.ref (adr E 54)), some (.int (nI i))] [] (cfWithout σ (q (i + 1)) (q (i + 2)) (q (i + 3)) (q (i + 4))).2 (mfWithout μ (q (i + 1)) (q (i + 2)) (q (i + 3)) (q (i + 4))).2) : V X E 1008 [some (.ref b), some (.ref (adr E 0)), some (.ref (adr E 54)), some (.int (nI i))] [] σ μ := by
  refine v_aload_1 hC dL_law_1008 ?_
  refine v_aload_0 hC dL_law_1009 ?_
  refine v_iload_3 hC dL_law_1010 ?_
  refine v_iconst hC dL_law_1011 ic_1 ?_
  refine v_iaddN hC dL_law_1012 ?_
  refine v_sld hC hS0 (by omega) dL_law_1013 ?_
  refine v_aload_0 hC dL_law_1014 ?_
  refine v_iload_3 hC dL_law_1015 ?_
  refine v_iconst hC dL_law_1016 ic_2 ?_
  refine v_iaddN hC dL_law_1017 ?_
  refine v_sld hC hS0 (by omega) dL_law_1018 ?_
  refine v_aload_0 hC dL_law_1019 ?_
  refine v_iload_3 hC dL_law_1020 ?_
  refine v_iconst hC dL_law_1021 ic_3 ?_
  refine v_iaddN hC dL_law_1022 ?_
  refine v_sld hC hS0 (by omega) dL_law_1023 ?_
  refine v_aload_0 hC dL_law_1024 ?_
  refine v_iload_3 hC dL_law_1025 ?_
  refine v_iconst hC dL_law_1026 ic_4 ?_
  refine v_iaddN hC dL_law_1027 ?_
  refine v_sld hC hS0 (by omega) dL_law_1028 ?_
  refine v_cv4r hC lL_107 ⟨by decide, 6, _, rfl, rfl, fun _ _ _ => ⟨_, rfl⟩⟩ (k_X6_without hwc hws _ _ _ _) ⟨Nat.le_of_ble_eq_true rfl, Nat.le_of_ble_eq_true rfl, rfl, rfl⟩ (Nat.le_of_ble_eq_true rfl) dL_law_1029 ?_
  refine v_aload_2 hC dL_law_1032 ?_
  refine v_aload_0 hC dL_law_1033 ?_
  refine v_iload_3 hC dL_law_1034 ?_
  refine v_iconst hC dL_law_1035 ic_1 ?_
  refine v_iaddN hC dL_law_1036 ?_
  refine v_sld hC hS0 (by omega) dL_law_1037 ?_
  refine v_aload_0 hC dL_law_1038 ?_
  refine v_iload_3 hC dL_law_1039 ?_
  refine v_iconst hC dL_law_1040 ic_2 ?_
  refine v_iaddN hC dL_law_1041 ?_
  refine v_sld hC hS0 (by omega) dL_law_1042 ?_
  refine v_aload_0 hC dL_law_1043 ?_
  refine v_iload_3 hC dL_law_1044 ?_
  refine v_iconst hC dL_law_1045 ic_3 ?_
  refine v_iaddN hC dL_law_1046 ?_
  refine v_sld hC hS0 (by omega) dL_law_1047 ?_
  refine v_aload_0 hC dL_law_1048 ?_
  refine v_iload_3 hC dL_law_1049 ?_
  refine v_iconst hC dL_law_1050 ic_4 ?_
  refine v_iaddN hC dL_law_1051 ?_
  refine v_sld hC hS0 (by omega) dL_law_1052 ?_
  refine v_cv4r hC lL_110 ⟨by decide, 7, _, rfl, rfl, fun _ _ _ => ⟨_, rfl⟩⟩ (k_X7_without hwm _ _ _ _) ⟨Nat.le_of_ble_eq_true rfl, Nat.le_of_ble_eq_true rfl, rfl, rfl⟩ (Nat.le_of_ble_eq_true rfl) dL_law_1053 ?_
  refine v_iceq (tgt := 1467) hC dL_law_1056 (by decide) (fun h1056 => ?_) (fun h1056 => absurd he h1056)
  exact ih
theorem law_free {X : XT} {E : ET} {σ μ : St} (hC : Cx X E cL_law RL 4 room_1) {b n i : Nat} {q : Nat → Int32} (hS0 : Sc X b n q) (hi : i + 6 ≤ n) (hwc : WC σ) (hws : WS σ) (hwm : WM μ) (he : (cfFree σ (q (i + 1)) (q (i + 2))).1 = (mfFree μ (q (i + 1)) (q (i + 2))).1) (ih : V X E 1467 [some (.ref b), some (.ref (adr E 0)), some (.ref (adr E 54)), some (.int (nI i))] [] (cfFree σ (q (i + 1)) (q (i + 2))).2 (mfFree μ (q (i + 1)) (q (i + 2))).2) : V X E 1061 [some (.ref b), some (.ref (adr E 0)), some (.ref (adr E 54)), some (.int (nI i))] [] σ μ := by
  refine v_aload_1 hC dL_law_1061 ?_
  refine v_aload_0 hC dL_law_1062 ?_
  refine v_iload_3 hC dL_law_1063 ?_
  refine v_iconst hC dL_law_1064 ic_1 ?_
  refine v_iaddN hC dL_law_1065 ?_
  refine v_sld hC hS0 (by omega) dL_law_1066 ?_
  refine v_aload_0 hC dL_law_1067 ?_
  refine v_iload_3 hC dL_law_1068 ?_
  refine v_iconst hC dL_law_1069 ic_2 ?_
  refine v_iaddN hC dL_law_1070 ?_
  refine v_sld hC hS0 (by omega) dL_law_1071 ?_
  refine v_cv2r hC lL_111 ⟨by decide, 6, _, rfl, rfl, fun _ _ _ => ⟨_, rfl⟩⟩ (k_X6_free hwc hws _ _) ⟨Nat.le_of_ble_eq_true rfl, Nat.le_of_ble_eq_true rfl, rfl, rfl⟩ (Nat.le_of_ble_eq_true rfl) dL_law_1072 ?_
  refine v_aload_2 hC dL_law_1075 ?_
  refine v_aload_0 hC dL_law_1076 ?_
  refine v_iload_3 hC dL_law_1077 ?_
  refine v_iconst hC dL_law_1078 ic_1 ?_
  refine v_iaddN hC dL_law_1079 ?_
  refine v_sld hC hS0 (by omega) dL_law_1080 ?_
  refine v_aload_0 hC dL_law_1081 ?_
  refine v_iload_3 hC dL_law_1082 ?_
  refine v_iconst hC dL_law_1083 ic_2 ?_
  refine v_iaddN hC dL_law_1084 ?_
  refine v_sld hC hS0 (by omega) dL_law_1085 ?_
  refine v_cv2r hC lL_114 ⟨by decide, 7, _, rfl, rfl, fun _ _ _ => ⟨_, rfl⟩⟩ (k_X7_free hwm _ _) ⟨Nat.le_of_ble_eq_true rfl, Nat.le_of_ble_eq_true rfl, rfl, rfl⟩ (Nat.le_of_ble_eq_true rfl) dL_law_1086 ?_
  refine v_iceq (tgt := 1467) hC dL_law_1089 (by decide) (fun h1089 => ?_) (fun h1089 => absurd he h1089)
  exact ih
theorem law_licence {X : XT} {E : ET} {σ μ : St} (hC : Cx X E cL_law RL 4 room_1) {b n i : Nat} {q : Nat → Int32} (hS0 : Sc X b n q) (hi : i + 6 ≤ n) (hwc : WC σ) (hws : WS σ) (hwm : WM μ) (he : (cfLicence σ (q (i + 1)) (q (i + 2)) (q (i + 3))).1 = (mfLicence μ (q (i + 1)) (q (i + 2)) (q (i + 3))).1) (ih : V X E 1467 [some (.ref b), some (.ref (adr E 0)), some (.ref (adr E 54)), some (.int (nI i))] [] (cfLicence σ (q (i + 1)) (q (i + 2)) (q (i + 3))).2 (mfLicence μ (q (i + 1)) (q (i + 2)) (q (i + 3))).2) : V X E 1094 [some (.ref b), some (.ref (adr E 0)), some (.ref (adr E 54)), some (.int (nI i))] [] σ μ := by
  refine v_aload_1 hC dL_law_1094 ?_
  refine v_aload_0 hC dL_law_1095 ?_
  refine v_iload_3 hC dL_law_1096 ?_
  refine v_iconst hC dL_law_1097 ic_1 ?_
  refine v_iaddN hC dL_law_1098 ?_
  refine v_sld hC hS0 (by omega) dL_law_1099 ?_
  refine v_aload_0 hC dL_law_1100 ?_
  refine v_iload_3 hC dL_law_1101 ?_
  refine v_iconst hC dL_law_1102 ic_2 ?_
  refine v_iaddN hC dL_law_1103 ?_
  refine v_sld hC hS0 (by omega) dL_law_1104 ?_
  refine v_aload_0 hC dL_law_1105 ?_
  refine v_iload_3 hC dL_law_1106 ?_
  refine v_iconst hC dL_law_1107 ic_3 ?_
  refine v_iaddN hC dL_law_1108 ?_
  refine v_sld hC hS0 (by omega) dL_law_1109 ?_
  refine v_cv3r hC lL_115 ⟨by decide, 6, _, rfl, rfl, fun _ _ _ => ⟨_, rfl⟩⟩ (k_X6_licence hwc hws _ _ _) ⟨Nat.le_of_ble_eq_true rfl, Nat.le_of_ble_eq_true rfl, rfl, rfl⟩ (Nat.le_of_ble_eq_true rfl) dL_law_1110 ?_
  refine v_aload_2 hC dL_law_1113 ?_
  refine v_aload_0 hC dL_law_1114 ?_
  refine v_iload_3 hC dL_law_1115 ?_
  refine v_iconst hC dL_law_1116 ic_1 ?_
  refine v_iaddN hC dL_law_1117 ?_
  refine v_sld hC hS0 (by omega) dL_law_1118 ?_
  refine v_aload_0 hC dL_law_1119 ?_
  refine v_iload_3 hC dL_law_1120 ?_
  refine v_iconst hC dL_law_1121 ic_2 ?_
  refine v_iaddN hC dL_law_1122 ?_
  refine v_sld hC hS0 (by omega) dL_law_1123 ?_
  refine v_aload_0 hC dL_law_1124 ?_
  refine v_iload_3 hC dL_law_1125 ?_
  refine v_iconst hC dL_law_1126 ic_3 ?_
  refine v_iaddN hC dL_law_1127 ?_
  refine v_sld hC hS0 (by omega) dL_law_1128 ?_
  refine v_cv3r hC lL_118 ⟨by decide, 7, _, rfl, rfl, fun _ _ _ => ⟨_, rfl⟩⟩ (k_X7_licence hwm _ _ _) ⟨Nat.le_of_ble_eq_true rfl, Nat.le_of_ble_eq_true rfl, rfl, rfl⟩ (Nat.le_of_ble_eq_true rfl) dL_law_1129 ?_
  refine v_iceq (tgt := 1467) hC dL_law_1132 (by decide) (fun h1132 => ?_) (fun h1132 => absurd he h1132)
  exact ih
theorem law_serve {X : XT} {E : ET} {σ μ : St} (hC : Cx X E cL_law RL 4 room_1) {b n i : Nat} {q : Nat → Int32} (hS0 : Sc X b n q) (hi : i + 6 ≤ n) (hwc : WC σ) (hws : WS σ) (hwm : WM μ) (he : (cfServe σ (q (i + 1))).1 = (mfServe μ (q (i + 1))).1) (ih : V X E 1467 [some (.ref b), some (.ref (adr E 0)), some (.ref (adr E 54)), some (.int (nI i))] [] (cfServe σ (q (i + 1))).2 (mfServe μ (q (i + 1))).2) : V X E 1137 [some (.ref b), some (.ref (adr E 0)), some (.ref (adr E 54)), some (.int (nI i))] [] σ μ := by
  refine v_aload_1 hC dL_law_1137 ?_
  refine v_aload_0 hC dL_law_1138 ?_
  refine v_iload_3 hC dL_law_1139 ?_
  refine v_iconst hC dL_law_1140 ic_1 ?_
  refine v_iaddN hC dL_law_1141 ?_
  refine v_sld hC hS0 (by omega) dL_law_1142 ?_
  refine v_cv1r hC lL_119 ⟨by decide, 6, _, rfl, rfl, fun _ _ _ => ⟨_, rfl⟩⟩ (k_X6_serve hwc hws _) ⟨Nat.le_of_ble_eq_true rfl, Nat.le_of_ble_eq_true rfl, rfl, rfl⟩ (Nat.le_of_ble_eq_true rfl) dL_law_1143 ?_
  refine v_aload_2 hC dL_law_1146 ?_
  refine v_aload_0 hC dL_law_1147 ?_
  refine v_iload_3 hC dL_law_1148 ?_
  refine v_iconst hC dL_law_1149 ic_1 ?_
  refine v_iaddN hC dL_law_1150 ?_
  refine v_sld hC hS0 (by omega) dL_law_1151 ?_
  refine v_cv1r hC lL_122 ⟨by decide, 7, _, rfl, rfl, fun _ _ _ => ⟨_, rfl⟩⟩ (k_X7_serve hwm _) ⟨Nat.le_of_ble_eq_true rfl, Nat.le_of_ble_eq_true rfl, rfl, rfl⟩ (Nat.le_of_ble_eq_true rfl) dL_law_1152 ?_
  refine v_iceq (tgt := 1467) hC dL_law_1155 (by decide) (fun h1155 => ?_) (fun h1155 => absurd he h1155)
  exact ih
theorem law_served {X : XT} {E : ET} {σ μ : St} (hC : Cx X E cL_law RL 4 room_1) {b n i : Nat} {q : Nat → Int32} (hS0 : Sc X b n q) (hi : i + 6 ≤ n) (hwc : WC σ) (hws : WS σ) (hwm : WM μ) (he0 : (cfServed σ (q (i + 1)) (nI 0)).1 = (mfServed μ (q (i + 1)) (nI 0)).1) (ih0 : V X E 1467 [some (.ref b), some (.ref (adr E 0)), some (.ref (adr E 54)), some (.int (nI i))] [] (cfServed σ (q (i + 1)) (nI 0)).2 (mfServed μ (q (i + 1)) (nI 0)).2) (he1 : (cfServed σ (q (i + 1)) (nI 1)).1 = (mfServed μ (q (i + 1)) (nI 1)).1) (ih1 : V X E 1467 [some (.ref b), some (.ref (adr E 0)), some (.ref (adr E 54)), some (.int (nI i))] [] (cfServed σ (q (i + 1)) (nI 1)).2 (mfServed μ (q (i + 1)) (nI 1)).2) : V X E 1160 [some (.ref b), some (.ref (adr E 0)), some (.ref (adr E 54)), some (.int (nI i))] [] σ μ := by
  refine v_aload_1 hC dL_law_1160 ?_
  refine v_aload_0 hC dL_law_1161 ?_
  refine v_iload_3 hC dL_law_1162 ?_
  refine v_iconst hC dL_law_1163 ic_1 ?_
  refine v_iaddN hC dL_law_1164 ?_
  refine v_sld hC hS0 (by omega) dL_law_1165 ?_
  refine v_aload_0 hC dL_law_1166 ?_
  refine v_iload_3 hC dL_law_1167 ?_
  refine v_iconst hC dL_law_1168 ic_2 ?_
  refine v_iaddN hC dL_law_1169 ?_
  refine v_sld hC hS0 (by omega) dL_law_1170 ?_
  refine v_ifeq (tgt := 1178) hC dL_law_1171 (by decide) (fun h1171 => ?_) (fun h1171 => ?_)
  · refine v_iconst hC dL_law_1178 ic_0 ?_
    refine v_cv2r hC lL_123 ⟨by decide, 6, _, rfl, rfl, fun _ _ _ => ⟨_, rfl⟩⟩ (k_X6_served hwc hws _ _) ⟨Nat.le_of_ble_eq_true rfl, Nat.le_of_ble_eq_true rfl, rfl, rfl⟩ (Nat.le_of_ble_eq_true rfl) dL_law_1179 ?_
    refine v_aload_2 hC dL_law_1182 ?_
    refine v_aload_0 hC dL_law_1183 ?_
    refine v_iload_3 hC dL_law_1184 ?_
    refine v_iconst hC dL_law_1185 ic_1 ?_
    refine v_iaddN hC dL_law_1186 ?_
    refine v_sld hC hS0 (by omega) dL_law_1187 ?_
    refine v_aload_0 hC dL_law_1188 ?_
    refine v_iload_3 hC dL_law_1189 ?_
    refine v_iconst hC dL_law_1190 ic_2 ?_
    refine v_iaddN hC dL_law_1191 ?_
    refine v_sld hC hS0 (by omega) dL_law_1192 ?_
    refine v_ifeq (tgt := 1200) hC dL_law_1193 (by decide) (fun h1193 => ?_) (fun h1193 => absurd h1171 h1193)
    refine v_iconst hC dL_law_1200 ic_0 ?_
    refine v_cv2r hC lL_127 ⟨by decide, 7, _, rfl, rfl, fun _ _ _ => ⟨_, rfl⟩⟩ (k_X7_served hwm _ _) ⟨Nat.le_of_ble_eq_true rfl, Nat.le_of_ble_eq_true rfl, rfl, rfl⟩ (Nat.le_of_ble_eq_true rfl) dL_law_1201 ?_
    refine v_iceq (tgt := 1467) hC dL_law_1204 (by decide) (fun h1204 => ?_) (fun h1204 => absurd he0 h1204)
    exact ih0
  · refine v_iconst hC dL_law_1174 ic_1 ?_
    refine v_goto (tgt := 1179) hC dL_law_1175 (by decide) ?_
    refine v_cv2r hC lL_123 ⟨by decide, 6, _, rfl, rfl, fun _ _ _ => ⟨_, rfl⟩⟩ (k_X6_served hwc hws _ _) ⟨Nat.le_of_ble_eq_true rfl, Nat.le_of_ble_eq_true rfl, rfl, rfl⟩ (Nat.le_of_ble_eq_true rfl) dL_law_1179 ?_
    refine v_aload_2 hC dL_law_1182 ?_
    refine v_aload_0 hC dL_law_1183 ?_
    refine v_iload_3 hC dL_law_1184 ?_
    refine v_iconst hC dL_law_1185 ic_1 ?_
    refine v_iaddN hC dL_law_1186 ?_
    refine v_sld hC hS0 (by omega) dL_law_1187 ?_
    refine v_aload_0 hC dL_law_1188 ?_
    refine v_iload_3 hC dL_law_1189 ?_
    refine v_iconst hC dL_law_1190 ic_2 ?_
    refine v_iaddN hC dL_law_1191 ?_
    refine v_sld hC hS0 (by omega) dL_law_1192 ?_
    refine v_ifeq (tgt := 1200) hC dL_law_1193 (by decide) (fun h1193 => absurd h1193 h1171) (fun h1193 => ?_)
    refine v_iconst hC dL_law_1196 ic_1 ?_
    refine v_goto (tgt := 1201) hC dL_law_1197 (by decide) ?_
    refine v_cv2r hC lL_127 ⟨by decide, 7, _, rfl, rfl, fun _ _ _ => ⟨_, rfl⟩⟩ (k_X7_served hwm _ _) ⟨Nat.le_of_ble_eq_true rfl, Nat.le_of_ble_eq_true rfl, rfl, rfl⟩ (Nat.le_of_ble_eq_true rfl) dL_law_1201 ?_
    refine v_iceq (tgt := 1467) hC dL_law_1204 (by decide) (fun h1204 => ?_) (fun h1204 => absurd he1 h1204)
    exact ih1
theorem law_hold {X : XT} {E : ET} {σ μ : St} (hC : Cx X E cL_law RL 4 room_1) {b n i : Nat} {q : Nat → Int32} (hS0 : Sc X b n q) (hi : i + 6 ≤ n) (hwc : WC σ) (hws : WS σ) (hwm : WM μ) (he : (cfHold σ (q (i + 1)) (q (i + 2)) (q (i + 3))).1 = (mfHold μ (q (i + 1)) (q (i + 2)) (q (i + 3))).1) (ih : V X E 1467 [some (.ref b), some (.ref (adr E 0)), some (.ref (adr E 54)), some (.int (nI i))] [] (cfHold σ (q (i + 1)) (q (i + 2)) (q (i + 3))).2 (mfHold μ (q (i + 1)) (q (i + 2)) (q (i + 3))).2) : V X E 1209 [some (.ref b), some (.ref (adr E 0)), some (.ref (adr E 54)), some (.int (nI i))] [] σ μ := by
  refine v_aload_1 hC dL_law_1209 ?_
  refine v_aload_0 hC dL_law_1210 ?_
  refine v_iload_3 hC dL_law_1211 ?_
  refine v_iconst hC dL_law_1212 ic_1 ?_
  refine v_iaddN hC dL_law_1213 ?_
  refine v_sld hC hS0 (by omega) dL_law_1214 ?_
  refine v_aload_0 hC dL_law_1215 ?_
  refine v_iload_3 hC dL_law_1216 ?_
  refine v_iconst hC dL_law_1217 ic_2 ?_
  refine v_iaddN hC dL_law_1218 ?_
  refine v_sld hC hS0 (by omega) dL_law_1219 ?_
  refine v_aload_0 hC dL_law_1220 ?_
  refine v_iload_3 hC dL_law_1221 ?_
  refine v_iconst hC dL_law_1222 ic_3 ?_
  refine v_iaddN hC dL_law_1223 ?_
  refine v_sld hC hS0 (by omega) dL_law_1224 ?_
  refine v_cv3r hC lL_128 ⟨by decide, 6, _, rfl, rfl, fun _ _ _ => ⟨_, rfl⟩⟩ (k_X6_hold hwc hws _ _ _) ⟨Nat.le_of_ble_eq_true rfl, Nat.le_of_ble_eq_true rfl, rfl, rfl⟩ (Nat.le_of_ble_eq_true rfl) dL_law_1225 ?_
  refine v_aload_2 hC dL_law_1228 ?_
  refine v_aload_0 hC dL_law_1229 ?_
  refine v_iload_3 hC dL_law_1230 ?_
  refine v_iconst hC dL_law_1231 ic_1 ?_
  refine v_iaddN hC dL_law_1232 ?_
  refine v_sld hC hS0 (by omega) dL_law_1233 ?_
  refine v_aload_0 hC dL_law_1234 ?_
  refine v_iload_3 hC dL_law_1235 ?_
  refine v_iconst hC dL_law_1236 ic_2 ?_
  refine v_iaddN hC dL_law_1237 ?_
  refine v_sld hC hS0 (by omega) dL_law_1238 ?_
  refine v_aload_0 hC dL_law_1239 ?_
  refine v_iload_3 hC dL_law_1240 ?_
  refine v_iconst hC dL_law_1241 ic_3 ?_
  refine v_iaddN hC dL_law_1242 ?_
  refine v_sld hC hS0 (by omega) dL_law_1243 ?_
  refine v_cv3r hC lL_131 ⟨by decide, 7, _, rfl, rfl, fun _ _ _ => ⟨_, rfl⟩⟩ (k_X7_hold hwm _ _ _) ⟨Nat.le_of_ble_eq_true rfl, Nat.le_of_ble_eq_true rfl, rfl, rfl⟩ (Nat.le_of_ble_eq_true rfl) dL_law_1244 ?_
  refine v_iceq (tgt := 1467) hC dL_law_1247 (by decide) (fun h1247 => ?_) (fun h1247 => absurd he h1247)
  exact ih
theorem law_move {X : XT} {E : ET} {σ μ : St} (hC : Cx X E cL_law RL 4 room_1) {b n i : Nat} {q : Nat → Int32} (hS0 : Sc X b n q) (hi : i + 6 ≤ n) (hwc : WC σ) (hws : WS σ) (hwm : WM μ) (he : (cfMove σ (q (i + 1)) (q (i + 2)) (q (i + 3))).1 = (mfMove μ (q (i + 1)) (q (i + 2)) (q (i + 3))).1) (ih : V X E 1467 [some (.ref b), some (.ref (adr E 0)), some (.ref (adr E 54)), some (.int (nI i))] [] (cfMove σ (q (i + 1)) (q (i + 2)) (q (i + 3))).2 (mfMove μ (q (i + 1)) (q (i + 2)) (q (i + 3))).2) : V X E 1252 [some (.ref b), some (.ref (adr E 0)), some (.ref (adr E 54)), some (.int (nI i))] [] σ μ := by
  refine v_aload_1 hC dL_law_1252 ?_
  refine v_aload_0 hC dL_law_1253 ?_
  refine v_iload_3 hC dL_law_1254 ?_
  refine v_iconst hC dL_law_1255 ic_1 ?_
  refine v_iaddN hC dL_law_1256 ?_
  refine v_sld hC hS0 (by omega) dL_law_1257 ?_
  refine v_aload_0 hC dL_law_1258 ?_
  refine v_iload_3 hC dL_law_1259 ?_
  refine v_iconst hC dL_law_1260 ic_2 ?_
  refine v_iaddN hC dL_law_1261 ?_
  refine v_sld hC hS0 (by omega) dL_law_1262 ?_
  refine v_aload_0 hC dL_law_1263 ?_
  refine v_iload_3 hC dL_law_1264 ?_
  refine v_iconst hC dL_law_1265 ic_3 ?_
  refine v_iaddN hC dL_law_1266 ?_
  refine v_sld hC hS0 (by omega) dL_law_1267 ?_
  refine v_cv3r hC lL_132 ⟨by decide, 6, _, rfl, rfl, fun _ _ _ => ⟨_, rfl⟩⟩ (k_X6_move hwc hws _ _ _) ⟨Nat.le_of_ble_eq_true rfl, Nat.le_of_ble_eq_true rfl, rfl, rfl⟩ (Nat.le_of_ble_eq_true rfl) dL_law_1268 ?_
  refine v_aload_2 hC dL_law_1271 ?_
  refine v_aload_0 hC dL_law_1272 ?_
  refine v_iload_3 hC dL_law_1273 ?_
  refine v_iconst hC dL_law_1274 ic_1 ?_
  refine v_iaddN hC dL_law_1275 ?_
  refine v_sld hC hS0 (by omega) dL_law_1276 ?_
  refine v_aload_0 hC dL_law_1277 ?_
  refine v_iload_3 hC dL_law_1278 ?_
  refine v_iconst hC dL_law_1279 ic_2 ?_
  refine v_iaddN hC dL_law_1280 ?_
  refine v_sld hC hS0 (by omega) dL_law_1281 ?_
  refine v_aload_0 hC dL_law_1282 ?_
  refine v_iload_3 hC dL_law_1283 ?_
  refine v_iconst hC dL_law_1284 ic_3 ?_
  refine v_iaddN hC dL_law_1285 ?_
  refine v_sld hC hS0 (by omega) dL_law_1286 ?_
  refine v_cv3r hC lL_135 ⟨by decide, 7, _, rfl, rfl, fun _ _ _ => ⟨_, rfl⟩⟩ (k_X7_move hwm _ _ _) ⟨Nat.le_of_ble_eq_true rfl, Nat.le_of_ble_eq_true rfl, rfl, rfl⟩ (Nat.le_of_ble_eq_true rfl) dL_law_1287 ?_
  refine v_iceq (tgt := 1467) hC dL_law_1290 (by decide) (fun h1290 => ?_) (fun h1290 => absurd he h1290)
  exact ih
theorem law_read {X : XT} {E : ET} {σ μ : St} (hC : Cx X E cL_law RL 4 room_1) {b n i : Nat} {q : Nat → Int32} (hS0 : Sc X b n q) (hi : i + 6 ≤ n) (hwc : WC σ) (hws : WS σ) (hwm : WM μ) (he : (cfRead σ (q (i + 1)) (q (i + 2)) (q (i + 3))).1 = (mfRead μ (q (i + 1)) (q (i + 2)) (q (i + 3))).1) (ih : V X E 1467 [some (.ref b), some (.ref (adr E 0)), some (.ref (adr E 54)), some (.int (nI i))] [] (cfRead σ (q (i + 1)) (q (i + 2)) (q (i + 3))).2 (mfRead μ (q (i + 1)) (q (i + 2)) (q (i + 3))).2) : V X E 1295 [some (.ref b), some (.ref (adr E 0)), some (.ref (adr E 54)), some (.int (nI i))] [] σ μ := by
  refine v_aload_1 hC dL_law_1295 ?_
  refine v_aload_0 hC dL_law_1296 ?_
  refine v_iload_3 hC dL_law_1297 ?_
  refine v_iconst hC dL_law_1298 ic_1 ?_
  refine v_iaddN hC dL_law_1299 ?_
  refine v_sld hC hS0 (by omega) dL_law_1300 ?_
  refine v_aload_0 hC dL_law_1301 ?_
  refine v_iload_3 hC dL_law_1302 ?_
  refine v_iconst hC dL_law_1303 ic_2 ?_
  refine v_iaddN hC dL_law_1304 ?_
  refine v_sld hC hS0 (by omega) dL_law_1305 ?_
  refine v_aload_0 hC dL_law_1306 ?_
  refine v_iload_3 hC dL_law_1307 ?_
  refine v_iconst hC dL_law_1308 ic_3 ?_
  refine v_iaddN hC dL_law_1309 ?_
  refine v_sld hC hS0 (by omega) dL_law_1310 ?_
  refine v_cv3r hC lL_136 ⟨by decide, 6, _, rfl, rfl, fun _ _ _ => ⟨_, rfl⟩⟩ (k_X6_read hwc hws _ _ _) ⟨Nat.le_of_ble_eq_true rfl, Nat.le_of_ble_eq_true rfl, rfl, rfl⟩ (Nat.le_of_ble_eq_true rfl) dL_law_1311 ?_
  refine v_aload_2 hC dL_law_1314 ?_
  refine v_aload_0 hC dL_law_1315 ?_
  refine v_iload_3 hC dL_law_1316 ?_
  refine v_iconst hC dL_law_1317 ic_1 ?_
  refine v_iaddN hC dL_law_1318 ?_
  refine v_sld hC hS0 (by omega) dL_law_1319 ?_
  refine v_aload_0 hC dL_law_1320 ?_
  refine v_iload_3 hC dL_law_1321 ?_
  refine v_iconst hC dL_law_1322 ic_2 ?_
  refine v_iaddN hC dL_law_1323 ?_
  refine v_sld hC hS0 (by omega) dL_law_1324 ?_
  refine v_aload_0 hC dL_law_1325 ?_
  refine v_iload_3 hC dL_law_1326 ?_
  refine v_iconst hC dL_law_1327 ic_3 ?_
  refine v_iaddN hC dL_law_1328 ?_
  refine v_sld hC hS0 (by omega) dL_law_1329 ?_
  refine v_cv3r hC lL_139 ⟨by decide, 7, _, rfl, rfl, fun _ _ _ => ⟨_, rfl⟩⟩ (k_X7_read hwm _ _ _) ⟨Nat.le_of_ble_eq_true rfl, Nat.le_of_ble_eq_true rfl, rfl, rfl⟩ (Nat.le_of_ble_eq_true rfl) dL_law_1330 ?_
  refine v_iceq (tgt := 1467) hC dL_law_1333 (by decide) (fun h1333 => ?_) (fun h1333 => absurd he h1333)
  exact ih
theorem law_differ {X : XT} {E : ET} {σ μ : St} (hC : Cx X E cL_law RL 4 room_1) {b n i : Nat} {q : Nat → Int32} (hS0 : Sc X b n q) (hi : i + 6 ≤ n) (hwc : WC σ) (hws : WS σ) (hwm : WM μ) (he : (cfDiffer σ (q (i + 1)) (q (i + 2))).1 = (mfDiffer μ (q (i + 1)) (q (i + 2))).1) (ih : V X E 1467 [some (.ref b), some (.ref (adr E 0)), some (.ref (adr E 54)), some (.int (nI i))] [] (cfDiffer σ (q (i + 1)) (q (i + 2))).2 (mfDiffer μ (q (i + 1)) (q (i + 2))).2) : V X E 1338 [some (.ref b), some (.ref (adr E 0)), some (.ref (adr E 54)), some (.int (nI i))] [] σ μ := by
  refine v_aload_1 hC dL_law_1338 ?_
  refine v_aload_0 hC dL_law_1339 ?_
  refine v_iload_3 hC dL_law_1340 ?_
  refine v_iconst hC dL_law_1341 ic_1 ?_
  refine v_iaddN hC dL_law_1342 ?_
  refine v_sld hC hS0 (by omega) dL_law_1343 ?_
  refine v_aload_0 hC dL_law_1344 ?_
  refine v_iload_3 hC dL_law_1345 ?_
  refine v_iconst hC dL_law_1346 ic_2 ?_
  refine v_iaddN hC dL_law_1347 ?_
  refine v_sld hC hS0 (by omega) dL_law_1348 ?_
  refine v_cv2r hC lL_140 ⟨by decide, 6, _, rfl, rfl, fun _ _ _ => ⟨_, rfl⟩⟩ (k_X6_differ hwc hws _ _) ⟨Nat.le_of_ble_eq_true rfl, Nat.le_of_ble_eq_true rfl, rfl, rfl⟩ (Nat.le_of_ble_eq_true rfl) dL_law_1349 ?_
  refine v_aload_2 hC dL_law_1352 ?_
  refine v_aload_0 hC dL_law_1353 ?_
  refine v_iload_3 hC dL_law_1354 ?_
  refine v_iconst hC dL_law_1355 ic_1 ?_
  refine v_iaddN hC dL_law_1356 ?_
  refine v_sld hC hS0 (by omega) dL_law_1357 ?_
  refine v_aload_0 hC dL_law_1358 ?_
  refine v_iload_3 hC dL_law_1359 ?_
  refine v_iconst hC dL_law_1360 ic_2 ?_
  refine v_iaddN hC dL_law_1361 ?_
  refine v_sld hC hS0 (by omega) dL_law_1362 ?_
  refine v_cv2r hC lL_143 ⟨by decide, 7, _, rfl, rfl, fun _ _ _ => ⟨_, rfl⟩⟩ (k_X7_differ hwm _ _) ⟨Nat.le_of_ble_eq_true rfl, Nat.le_of_ble_eq_true rfl, rfl, rfl⟩ (Nat.le_of_ble_eq_true rfl) dL_law_1363 ?_
  refine v_iceq (tgt := 1467) hC dL_law_1366 (by decide) (fun h1366 => ?_) (fun h1366 => absurd he h1366)
  exact ih
theorem law_fit {X : XT} {E : ET} {σ μ : St} (hC : Cx X E cL_law RL 4 room_1) {b n i : Nat} {q : Nat → Int32} (hS0 : Sc X b n q) (hi : i + 6 ≤ n) (hwc : WC σ) (hws : WS σ) (hwm : WM μ) (he : (cfFit σ (q (i + 1)) (q (i + 2))).1 = (mfFit μ (q (i + 1)) (q (i + 2))).1) (ih : V X E 1467 [some (.ref b), some (.ref (adr E 0)), some (.ref (adr E 54)), some (.int (nI i))] [] (cfFit σ (q (i + 1)) (q (i + 2))).2 (mfFit μ (q (i + 1)) (q (i + 2))).2) : V X E 1371 [some (.ref b), some (.ref (adr E 0)), some (.ref (adr E 54)), some (.int (nI i))] [] σ μ := by
  refine v_aload_1 hC dL_law_1371 ?_
  refine v_aload_0 hC dL_law_1372 ?_
  refine v_iload_3 hC dL_law_1373 ?_
  refine v_iconst hC dL_law_1374 ic_1 ?_
  refine v_iaddN hC dL_law_1375 ?_
  refine v_sld hC hS0 (by omega) dL_law_1376 ?_
  refine v_aload_0 hC dL_law_1377 ?_
  refine v_iload_3 hC dL_law_1378 ?_
  refine v_iconst hC dL_law_1379 ic_2 ?_
  refine v_iaddN hC dL_law_1380 ?_
  refine v_sld hC hS0 (by omega) dL_law_1381 ?_
  refine v_cv2r hC lL_144 ⟨by decide, 6, _, rfl, rfl, fun _ _ _ => ⟨_, rfl⟩⟩ (k_X6_fit hwc hws _ _) ⟨Nat.le_of_ble_eq_true rfl, Nat.le_of_ble_eq_true rfl, rfl, rfl⟩ (Nat.le_of_ble_eq_true rfl) dL_law_1382 ?_
  refine v_aload_2 hC dL_law_1385 ?_
  refine v_aload_0 hC dL_law_1386 ?_
  refine v_iload_3 hC dL_law_1387 ?_
  refine v_iconst hC dL_law_1388 ic_1 ?_
  refine v_iaddN hC dL_law_1389 ?_
  refine v_sld hC hS0 (by omega) dL_law_1390 ?_
  refine v_aload_0 hC dL_law_1391 ?_
  refine v_iload_3 hC dL_law_1392 ?_
  refine v_iconst hC dL_law_1393 ic_2 ?_
  refine v_iaddN hC dL_law_1394 ?_
  refine v_sld hC hS0 (by omega) dL_law_1395 ?_
  refine v_cv2r hC lL_147 ⟨by decide, 7, _, rfl, rfl, fun _ _ _ => ⟨_, rfl⟩⟩ (k_X7_fit hwm _ _) ⟨Nat.le_of_ble_eq_true rfl, Nat.le_of_ble_eq_true rfl, rfl, rfl⟩ (Nat.le_of_ble_eq_true rfl) dL_law_1396 ?_
  refine v_iceq (tgt := 1467) hC dL_law_1399 (by decide) (fun h1399 => ?_) (fun h1399 => absurd he h1399)
  exact ih
theorem lcm_eq (x : Int64) : lg_cmp x x = 0 := by unfold lg_cmp; simp
theorem law_squares {X : XT} {E : ET} {σ μ : St} (hC : Cx X E cL_law RL 4 room_1) {b n i : Nat} {q : Nat → Int32} (hS0 : Sc X b n q) (hi : i + 6 ≤ n) (hwc : WC σ) (hws : WS σ) (hwm : WM μ) (he : cSq σ = mSq μ) (ih : V X E 1467 [some (.ref b), some (.ref (adr E 0)), some (.ref (adr E 54)), some (.int (nI i))] [] σ μ) : V X E 1404 [some (.ref b), some (.ref (adr E 0)), some (.ref (adr E 54)), some (.int (nI i))] [] σ μ := by
  refine v_aload_1 hC dL_law_1404 ?_
  refine v_cv0r hC lL_148 ⟨by decide, 6, _, rfl, rfl, fun _ _ _ => ⟨_, rfl⟩⟩ (k_X6_squares hwc) ⟨Nat.le_of_ble_eq_true rfl, Nat.le_of_ble_eq_true rfl, rfl, rfl⟩ (Nat.le_of_ble_eq_true rfl) dL_law_1405 ?_
  refine v_aload_2 hC dL_law_1408 ?_
  refine v_cv0r hC lL_152 ⟨by decide, 7, _, rfl, rfl, fun _ _ _ => ⟨_, rfl⟩⟩ (k_X7_squares hwm) ⟨Nat.le_of_ble_eq_true rfl, Nat.le_of_ble_eq_true rfl, rfl, rfl⟩ (Nat.le_of_ble_eq_true rfl) dL_law_1409 ?_
  refine v_lcmp hC dL_law_1412 ?_
  refine v_ifeq (tgt := 1467) hC dL_law_1413 (by decide) (fun h1413 => ?_) (fun h1413 => absurd (by rw [he]; exact lcm_eq _) h1413)
  exact ih
theorem law_keep {X : XT} {E : ET} {σ μ : St} (hC : Cx X E cL_law RL 4 room_1) {b n i : Nat} {q : Nat → Int32} (hS0 : Sc X b n q) (hi : i + 6 ≤ n) (hwc : WC σ) (hws : WS σ) (hwm : WM μ) (he : (cfKeep σ).1 = (mfKeep μ).1) (ih : V X E 1467 [some (.ref b), some (.ref (adr E 0)), some (.ref (adr E 54)), some (.int (nI i))] [] (cfKeep σ).2 (mfKeep μ).2) : V X E 1418 [some (.ref b), some (.ref (adr E 0)), some (.ref (adr E 54)), some (.int (nI i))] [] σ μ := by
  refine v_aload_1 hC dL_law_1418 ?_
  refine v_cv0r hC lL_153 ⟨by decide, 6, _, rfl, rfl, fun _ _ _ => ⟨_, rfl⟩⟩ (k_X6_keep hwc hws) ⟨Nat.le_of_ble_eq_true rfl, Nat.le_of_ble_eq_true rfl, rfl, rfl⟩ (Nat.le_of_ble_eq_true rfl) dL_law_1419 ?_
  refine v_aload_2 hC dL_law_1422 ?_
  refine v_cv0r hC lL_156 ⟨by decide, 7, _, rfl, rfl, fun _ _ _ => ⟨_, rfl⟩⟩ (k_X7_keep hwm) ⟨Nat.le_of_ble_eq_true rfl, Nat.le_of_ble_eq_true rfl, rfl, rfl⟩ (Nat.le_of_ble_eq_true rfl) dL_law_1423 ?_
  refine v_iceq (tgt := 1467) hC dL_law_1426 (by decide) (fun h1426 => ?_) (fun h1426 => absurd he h1426)
  exact ih
theorem law_back {X : XT} {E : ET} {σ μ : St} (hC : Cx X E cL_law RL 4 room_1) {b n i : Nat} {q : Nat → Int32} (hS0 : Sc X b n q) (hi : i + 6 ≤ n) (hwc : WC σ) (hws : WS σ) (hwm : WM μ) (he : (cfBack σ).1 = (mfBack μ).1) (ih : V X E 1467 [some (.ref b), some (.ref (adr E 0)), some (.ref (adr E 54)), some (.int (nI i))] [] (cfBack σ).2 (mfBack μ).2) : V X E 1431 [some (.ref b), some (.ref (adr E 0)), some (.ref (adr E 54)), some (.int (nI i))] [] σ μ := by
  refine v_aload_1 hC dL_law_1431 ?_
  refine v_cv0r hC lL_157 ⟨by decide, 6, _, rfl, rfl, fun _ _ _ => ⟨_, rfl⟩⟩ (k_X6_back hwc hws) ⟨Nat.le_of_ble_eq_true rfl, Nat.le_of_ble_eq_true rfl, rfl, rfl⟩ (Nat.le_of_ble_eq_true rfl) dL_law_1432 ?_
  refine v_aload_2 hC dL_law_1435 ?_
  refine v_cv0r hC lL_160 ⟨by decide, 7, _, rfl, rfl, fun _ _ _ => ⟨_, rfl⟩⟩ (k_X7_back hwm) ⟨Nat.le_of_ble_eq_true rfl, Nat.le_of_ble_eq_true rfl, rfl, rfl⟩ (Nat.le_of_ble_eq_true rfl) dL_law_1436 ?_
  refine v_iceq (tgt := 1467) hC dL_law_1439 (by decide) (fun h1439 => ?_) (fun h1439 => absurd he h1439)
  exact ih
theorem law_told {X : XT} {E : ET} {σ μ : St} (hC : Cx X E cL_law RL 4 room_1) {b n i : Nat} {q : Nat → Int32} (hS0 : Sc X b n q) (hi : i + 6 ≤ n) (hwc : WC σ) (hws : WS σ) (hwm : WM μ) (he : (cfTold σ (q (i + 1))).1 = (mfTold μ (q (i + 1))).1) (ih : V X E 1467 [some (.ref b), some (.ref (adr E 0)), some (.ref (adr E 54)), some (.int (nI i))] [] (cfTold σ (q (i + 1))).2 (mfTold μ (q (i + 1))).2) : V X E 1444 [some (.ref b), some (.ref (adr E 0)), some (.ref (adr E 54)), some (.int (nI i))] [] σ μ := by
  refine v_aload_1 hC dL_law_1444 ?_
  refine v_aload_0 hC dL_law_1445 ?_
  refine v_iload_3 hC dL_law_1446 ?_
  refine v_iconst hC dL_law_1447 ic_1 ?_
  refine v_iaddN hC dL_law_1448 ?_
  refine v_sld hC hS0 (by omega) dL_law_1449 ?_
  refine v_cv1r hC lL_161 ⟨by decide, 6, _, rfl, rfl, fun _ _ _ => ⟨_, rfl⟩⟩ (k_X6_told hwc hws _) ⟨Nat.le_of_ble_eq_true rfl, Nat.le_of_ble_eq_true rfl, rfl, rfl⟩ (Nat.le_of_ble_eq_true rfl) dL_law_1450 ?_
  refine v_aload_2 hC dL_law_1453 ?_
  refine v_aload_0 hC dL_law_1454 ?_
  refine v_iload_3 hC dL_law_1455 ?_
  refine v_iconst hC dL_law_1456 ic_1 ?_
  refine v_iaddN hC dL_law_1457 ?_
  refine v_sld hC hS0 (by omega) dL_law_1458 ?_
  refine v_cv1r hC lL_164 ⟨by decide, 7, _, rfl, rfl, fun _ _ _ => ⟨_, rfl⟩⟩ (k_X7_told hwm _) ⟨Nat.le_of_ble_eq_true rfl, Nat.le_of_ble_eq_true rfl, rfl, rfl⟩ (Nat.le_of_ble_eq_true rfl) dL_law_1459 ?_
  refine v_iceq (tgt := 1467) hC dL_law_1462 (by decide) (fun h1462 => ?_) (fun h1462 => absurd he h1462)
  exact ih
