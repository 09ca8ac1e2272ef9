theorem sv_turn {X : XT} {E : ET} {σ τ : St} (hC : Cx X E cX7_serve yX7_serve.cls 12 { frames := 7, cells := 0, slots := 0, locals := 169 }) (hwm : WM τ) {D fr t : Nat} {s : Int32} (hD : D < 1024) (hex : ∃ i, i < mL τ ∧ D.testBit i = false) (hfr : fr < 24) (ih0 : V X E 102 [some (.ref (adr E 54)), some (.int (nI fr)), some (.int (nI (mL τ))), some (.int (nI ((fmServe fr t ((s, D), τ)).1.2))), some (.int ((fmServe fr t ((s, D), τ)).1.1)), some (.int (nI (t + 1))), none, none, none, none, none, none] [] σ (fmServe fr t ((s, D), τ)).2) : V X E 108 [some (.ref (adr E 54)), some (.int (nI fr)), some (.int (nI (mL τ))), some (.int (nI (D))), some (.int (s)), some (.int (nI (t))), none, none, none, none, none, none] [] σ τ := by
  have l10 := hwm.l10
  refine v_iconst (v := -1) hC dX7_serve_108 (by decide +kernel) ?_
  refine v_istore_6 hC (by decide) rfl dX7_serve_109 ?_
  refine v_iconst hC dX7_serve_111 ic_0 ?_
  refine v_istore_7 hC (by decide) rfl dX7_serve_112 ?_
  refine up_loop (fun d : Nat => V X E 114 [some (.ref (adr E 54)), some (.int (nI fr)), some (.int (nI (mL τ))), some (.int (nI D)), some (.int s), some (.int (nI t)), some (.int (it0 (fmNx τ D) d (-1))), some (.int (nI d)), none, none, none, none] [] (σ) (τ)) (Nat.zero_le (mL τ)) ?_ (fun d _ hd ih => ?_)
  · refine v_iload_7 hC dX7_serve_114 ?_
    refine v_iload_2 hC dX7_serve_116 ?_
    refine v_icge (tgt := 161) hC dX7_serve_117 (by decide) (fun h117 => ?_) (fun h117 => absurd (Int32.le_refl _) h117)
    obtain ⟨hj0, hj1, hj2⟩ := nx_ok hwm hex
    refine v_leq_6 (nI_self hj0) ?_
    have hj10 : (it0 (fmNx τ D) (mL τ) (-1)).toNatClampNeg < 10 := by have := hwm.l10; have : (mNx τ D).toNatClampNeg < mL τ := hj1; unfold mNx at this; omega
    generalize hjn : (it0 (fmNx τ D) (mL τ) (-1)).toNatClampNeg = j at *
    have hw10 : mlw τ j < 10 := hwm.w10 hj10
    refine v_iload_3 hC dX7_serve_161 ?_
    refine v_iconst hC dX7_serve_162 ic_1 ?_
    refine v_iload_6 hC dX7_serve_163 ?_
    refine v_ishl hC dX7_serve_165 ?_
    refine v_ior hC dX7_serve_166 ?_
    refine v_top (shl_or hj10) ?_
    refine v_istore_3 hC (by decide) rfl dX7_serve_167 ?_
    refine v_aload_0 hC dX7_serve_168 ?_
    refine v_iload_6 hC dX7_serve_169 ?_
    refine v_iconst hC dX7_serve_171 ic_0 ?_
    refine v_cv2r hC lX7_132 ⟨by decide, 7, _, rfl, rfl, fun _ _ _ => ⟨_, rfl⟩⟩ (k_X7_licenceOf (by omega) (by omega)) ⟨Nat.le_of_ble_eq_true rfl, Nat.le_of_ble_eq_true rfl, rfl, rfl⟩ (Nat.le_of_ble_eq_true rfl) dX7_serve_172 ?_
    refine v_top (y := nI (mlw τ j)) (hwm.w hj10) ?_
    refine v_istore_7 hC (by decide) rfl dX7_serve_175 ?_
    refine v_aload_0 hC dX7_serve_177 ?_
    refine v_iload_6 hC dX7_serve_178 ?_
    refine v_iconst hC dX7_serve_180 ic_2 ?_
    refine v_cv2r hC lX7_132 ⟨by decide, 7, _, rfl, rfl, fun _ _ _ => ⟨_, rfl⟩⟩ (k_X7_licenceOf (by omega) (by omega)) ⟨Nat.le_of_ble_eq_true rfl, Nat.le_of_ble_eq_true rfl, rfl, rfl⟩ (Nat.le_of_ble_eq_true rfl) dX7_serve_181 ?_
    refine v_istore_8 hC (by decide) rfl dX7_serve_184 ?_
    refine v_aload_0 hC dX7_serve_186 ?_
    refine v_iload_7 hC dX7_serve_187 ?_
    refine v_iload_1 hC dX7_serve_189 ?_
    refine v_cv2r hC lX7_129 ⟨by decide, 7, _, rfl, rfl, fun _ _ _ => ⟨_, rfl⟩⟩ (k_X7_freeOf hwm hw10 hfr) ⟨Nat.le_of_ble_eq_true rfl, Nat.le_of_ble_eq_true rfl, rfl, rfl⟩ (Nat.le_of_ble_eq_true rfl) dX7_serve_190 ?_
    refine v_istore_9 hC (by decide) rfl dX7_serve_193 ?_
    refine v_iload_9 hC dX7_serve_195 ?_
    refine v_iload_8 hC dX7_serve_197 ?_
    refine v_icge (tgt := 207) hC dX7_serve_199 (by decide) (fun h199 => ?_) (fun h199 => ?_)
    · refine v_iload_8 hC dX7_serve_207 ?_
      refine v_top (show _ = mAm1 _ _ from (if_pos h199).symm) ?_
      refine v_istore_8 hC (by decide) rfl dX7_serve_209 ?_
      refine v_iload_1 hC dX7_serve_211 ?_
      refine v_bipush hC dX7_serve_212 bp_23 ?_
      refine v_iclt (tgt := 227) hC dX7_serve_214 (by decide) (fun h214 => ?_) (fun h214 => ?_)
      · refine v_iconst hC dX7_serve_227 ic_1 ?_
        refine v_goto (tgt := 232) hC dX7_serve_228 (by decide) ?_
        refine v_istore_10 hC (by decide) rfl dX7_serve_232 ?_
        refine v_iload_10 hC dX7_serve_234 ?_
        refine v_ifeq (tgt := 269) hC dX7_serve_236 (by decide) (fun h236 => absurd h236 (by decide)) (fun h236 => ?_)
        refine v_sipush hC dX7_serve_239 sp_1000 ?_
        refine v_aload_0 hC dX7_serve_242 ?_
        refine v_get hC fX7_34 (by decide) rfl rfl dX7_serve_243 ?_
        refine v_iload_7 hC dX7_serve_246 ?_
        refine w_iald (k := 9) hC N_9 (by first | omega | (simp only [mcl, mRd]; omega)) dX7_serve_248 ?_
        refine v_isub hC dX7_serve_249 ?_
        refine v_iload_8 hC dX7_serve_250 ?_
        refine v_icge (tgt := 269) hC dX7_serve_252 (by decide) (fun h252 => ?_) (fun h252 => ?_)
        · refine v_iload_8 hC dX7_serve_269 ?_
          refine v_top (show _ = mAm2 (mFree τ (mlw τ j) fr).2 (mlw τ j) fr _ from (if_neg (fun q => absurd q.2 (Int32.not_lt.mpr h252))).symm) ?_
          rw [show mAm2 (mFree τ (mlw τ j) fr).2 (mlw τ j) fr (mAm1 (mFree τ (mlw τ j) fr).1 (τ 1 (566 + 4 * j + 2))) = mAmt τ j fr from rfl]
          refine v_istore_8 hC (by decide) rfl dX7_serve_271 ?_
          refine v_aload_0 hC dX7_serve_273 ?_
          refine v_get hC fX7_34 (by decide) rfl rfl dX7_serve_274 ?_
          refine v_iload_7 hC dX7_serve_277 ?_
          refine v_dup2 hC rfl rfl dX7_serve_279 ?_
          refine w_iald (k := 9) hC N_9 (by first | omega | (simp only [mcl, mRd]; omega)) dX7_serve_280 ?_
          refine v_iload_8 hC dX7_serve_281 ?_
          refine v_iadd hC dX7_serve_283 ?_
          refine w_iast (k := 9) hC N_9 (by first | omega | (simp only [mcl, mRd]; omega)) dX7_serve_284 ?_
          refine v_iload_1 hC dX7_serve_285 ?_
          refine v_istore_11 hC (by decide) rfl dX7_serve_286 ?_
          refine v_forget_9 (v_forget_10 ?_)
          refine up_loop (fun d : Nat => V X E 288 [some (.ref (adr E 54)), some (.int (nI fr)), some (.int (nI (mL τ))), some (.int (nI (D ||| 2 ^ j))), some (.int s), some (.int (nI t)), some (.int (nI j)), some (.int (nI (mlw τ j))), some (.int (mAmt τ j fr)), none, none, some (.int (nI (fr + d)))] [] (σ) (it (fmA (mlw τ j) (mAmt τ j fr)) fr d (wr (mFree τ (mlw τ j) fr).2 9 (mlw τ j) ((mFree τ (mlw τ j) fr).2 9 (mlw τ j) + mAmt τ j fr)))) (Nat.zero_le (24 - fr)) ?_ (fun d _ hd ih => ?_)
          · refine v_iload_11 hC dX7_serve_288 ?_
            refine v_bipush hC dX7_serve_290 bp_24 ?_
            refine v_icge (tgt := 333) hC dX7_serve_292 (by decide) (fun h292 => ?_) (fun h292 => absurd (nI_le (by omega) (by omega)) h292)
            refine v_aload_0 hC dX7_serve_333 ?_
            refine v_get hC fX7_7 (by decide) rfl rfl dX7_serve_334 ?_
            refine v_sipush hC dX7_serve_337 sp_566 ?_
            refine v_iconst hC dX7_serve_340 ic_4 ?_
            refine v_iload_6 hC dX7_serve_341 ?_
            refine v_imulN hC dX7_serve_343 ?_
            refine v_iaddN hC dX7_serve_344 ?_
            refine v_iconst hC dX7_serve_345 ic_3 ?_
            refine v_iaddN hC dX7_serve_346 ?_
            refine v_iload_8 hC dX7_serve_347 ?_
            refine w_iast (k := 1) hC N_1 (by first | omega | (simp only [mcl, mRd]; omega)) dX7_serve_349 ?_
            refine v_iload_4 hC dX7_serve_350 ?_
            refine v_iload_8 hC dX7_serve_352 ?_
            refine v_iadd hC dX7_serve_354 ?_
            refine v_istore_4 hC (by decide) rfl dX7_serve_355 ?_
            refine v_iinc1_5 hC (by decide) rfl dX7_serve_357 ?_
            refine v_goto (tgt := 102) hC dX7_serve_360 (by decide) ?_
            subst hjn
            exact v_forget_6 (v_forget_7 (v_forget_8 (v_forget_11 ih0)))
          · refine v_iload_11 hC dX7_serve_288 ?_
            refine v_bipush hC dX7_serve_290 bp_24 ?_
            refine v_icge (tgt := 333) hC dX7_serve_292 (by decide) (fun h292 => absurd h292 (nI_ge (by omega) (by omega))) (fun h292 => ?_)
            refine v_aload_0 hC dX7_serve_295 ?_
            refine v_iload_7 hC dX7_serve_296 ?_
            refine v_iload_11 hC dX7_serve_298 ?_
            refine v_cv2r hC lX7_105 ⟨by decide, 7, _, rfl, rfl, fun _ _ _ => ⟨_, rfl⟩⟩ (k_X7_sign (by omega) (by omega)) ⟨Nat.le_of_ble_eq_true rfl, Nat.le_of_ble_eq_true rfl, rfl, rfl⟩ (Nat.le_of_ble_eq_true rfl) dX7_serve_300 ?_
            refine v_ifeq (tgt := 327) hC dX7_serve_303 (by decide) (fun h303 => ?_) (fun h303 => ?_)
            · refine v_iinc1_11 hC (by decide) rfl dX7_serve_327 ?_
              refine v_goto (tgt := 288) hC dX7_serve_330 (by decide) ?_
              exact v_world rfl (if_pos h303).symm ih
            · refine v_aload_0 hC dX7_serve_306 ?_
              refine v_get hC fX7_7 (by decide) rfl rfl dX7_serve_307 ?_
              refine v_bipush hC dX7_serve_310 bp_50 ?_
              refine v_bipush hC dX7_serve_312 bp_24 ?_
              refine v_iload_7 hC dX7_serve_314 ?_
              refine v_imulN hC dX7_serve_316 ?_
              refine v_iaddN hC dX7_serve_317 ?_
              refine v_iload_11 hC dX7_serve_318 ?_
              refine v_iaddN hC dX7_serve_320 ?_
              refine v_dup2 hC rfl rfl dX7_serve_321 ?_
              refine w_iald (k := 1) hC N_1 (by first | omega | (simp only [mcl, mRd]; omega)) dX7_serve_322 ?_
              refine v_iload_8 hC dX7_serve_323 ?_
              refine v_iadd hC dX7_serve_325 ?_
              refine w_iast (k := 1) hC N_1 (by first | omega | (simp only [mcl, mRd]; omega)) dX7_serve_326 ?_
              refine v_iinc1_11 hC (by decide) rfl dX7_serve_327 ?_
              refine v_goto (tgt := 288) hC dX7_serve_330 (by decide) ?_
              exact v_world rfl (if_neg h303).symm ih
        · refine v_sipush hC dX7_serve_255 sp_1000 ?_
          refine v_aload_0 hC dX7_serve_258 ?_
          refine v_get hC fX7_34 (by decide) rfl rfl dX7_serve_259 ?_
          refine v_iload_7 hC dX7_serve_262 ?_
          refine w_iald (k := 9) hC N_9 (by first | omega | (simp only [mcl, mRd]; omega)) dX7_serve_264 ?_
          refine v_isub hC dX7_serve_265 ?_
          refine v_goto (tgt := 271) hC dX7_serve_266 (by decide) ?_
          refine v_top (show _ = mAm2 (mFree τ (mlw τ j) fr).2 (mlw τ j) fr _ from (if_pos ⟨Or.inl h214, Int32.not_le.mp h252⟩).symm) ?_
          rw [show mAm2 (mFree τ (mlw τ j) fr).2 (mlw τ j) fr (mAm1 (mFree τ (mlw τ j) fr).1 (τ 1 (566 + 4 * j + 2))) = mAmt τ j fr from rfl]
          refine v_istore_8 hC (by decide) rfl dX7_serve_271 ?_
          refine v_aload_0 hC dX7_serve_273 ?_
          refine v_get hC fX7_34 (by decide) rfl rfl dX7_serve_274 ?_
          refine v_iload_7 hC dX7_serve_277 ?_
          refine v_dup2 hC rfl rfl dX7_serve_279 ?_
          refine w_iald (k := 9) hC N_9 (by first | omega | (simp only [mcl, mRd]; omega)) dX7_serve_280 ?_
          refine v_iload_8 hC dX7_serve_281 ?_
          refine v_iadd hC dX7_serve_283 ?_
          refine w_iast (k := 9) hC N_9 (by first | omega | (simp only [mcl, mRd]; omega)) dX7_serve_284 ?_
          refine v_iload_1 hC dX7_serve_285 ?_
          refine v_istore_11 hC (by decide) rfl dX7_serve_286 ?_
          refine v_forget_9 (v_forget_10 ?_)
          refine up_loop (fun d : Nat => V X E 288 [some (.ref (adr E 54)), some (.int (nI fr)), some (.int (nI (mL τ))), some (.int (nI (D ||| 2 ^ j))), some (.int s), some (.int (nI t)), some (.int (nI j)), some (.int (nI (mlw τ j))), some (.int (mAmt τ j fr)), none, none, some (.int (nI (fr + d)))] [] (σ) (it (fmA (mlw τ j) (mAmt τ j fr)) fr d (wr (mFree τ (mlw τ j) fr).2 9 (mlw τ j) ((mFree τ (mlw τ j) fr).2 9 (mlw τ j) + mAmt τ j fr)))) (Nat.zero_le (24 - fr)) ?_ (fun d _ hd ih => ?_)
          · refine v_iload_11 hC dX7_serve_288 ?_
            refine v_bipush hC dX7_serve_290 bp_24 ?_
            refine v_icge (tgt := 333) hC dX7_serve_292 (by decide) (fun h292 => ?_) (fun h292 => absurd (nI_le (by omega) (by omega)) h292)
            refine v_aload_0 hC dX7_serve_333 ?_
            refine v_get hC fX7_7 (by decide) rfl rfl dX7_serve_334 ?_
            refine v_sipush hC dX7_serve_337 sp_566 ?_
            refine v_iconst hC dX7_serve_340 ic_4 ?_
            refine v_iload_6 hC dX7_serve_341 ?_
            refine v_imulN hC dX7_serve_343 ?_
            refine v_iaddN hC dX7_serve_344 ?_
            refine v_iconst hC dX7_serve_345 ic_3 ?_
            refine v_iaddN hC dX7_serve_346 ?_
            refine v_iload_8 hC dX7_serve_347 ?_
            refine w_iast (k := 1) hC N_1 (by first | omega | (simp only [mcl, mRd]; omega)) dX7_serve_349 ?_
            refine v_iload_4 hC dX7_serve_350 ?_
            refine v_iload_8 hC dX7_serve_352 ?_
            refine v_iadd hC dX7_serve_354 ?_
            refine v_istore_4 hC (by decide) rfl dX7_serve_355 ?_
            refine v_iinc1_5 hC (by decide) rfl dX7_serve_357 ?_
            refine v_goto (tgt := 102) hC dX7_serve_360 (by decide) ?_
            subst hjn
            exact v_forget_6 (v_forget_7 (v_forget_8 (v_forget_11 ih0)))
          · refine v_iload_11 hC dX7_serve_288 ?_
            refine v_bipush hC dX7_serve_290 bp_24 ?_
            refine v_icge (tgt := 333) hC dX7_serve_292 (by decide) (fun h292 => absurd h292 (nI_ge (by omega) (by omega))) (fun h292 => ?_)
            refine v_aload_0 hC dX7_serve_295 ?_
            refine v_iload_7 hC dX7_serve_296 ?_
            refine v_iload_11 hC dX7_serve_298 ?_
            refine v_cv2r hC lX7_105 ⟨by decide, 7, _, rfl, rfl, fun _ _ _ => ⟨_, rfl⟩⟩ (k_X7_sign (by omega) (by omega)) ⟨Nat.le_of_ble_eq_true rfl, Nat.le_of_ble_eq_true rfl, rfl, rfl⟩ (Nat.le_of_ble_eq_true rfl) dX7_serve_300 ?_
            refine v_ifeq (tgt := 327) hC dX7_serve_303 (by decide) (fun h303 => ?_) (fun h303 => ?_)
            · refine v_iinc1_11 hC (by decide) rfl dX7_serve_327 ?_
              refine v_goto (tgt := 288) hC dX7_serve_330 (by decide) ?_
              exact v_world rfl (if_pos h303).symm ih
            · refine v_aload_0 hC dX7_serve_306 ?_
              refine v_get hC fX7_7 (by decide) rfl rfl dX7_serve_307 ?_
              refine v_bipush hC dX7_serve_310 bp_50 ?_
              refine v_bipush hC dX7_serve_312 bp_24 ?_
              refine v_iload_7 hC dX7_serve_314 ?_
              refine v_imulN hC dX7_serve_316 ?_
              refine v_iaddN hC dX7_serve_317 ?_
              refine v_iload_11 hC dX7_serve_318 ?_
              refine v_iaddN hC dX7_serve_320 ?_
              refine v_dup2 hC rfl rfl dX7_serve_321 ?_
              refine w_iald (k := 1) hC N_1 (by first | omega | (simp only [mcl, mRd]; omega)) dX7_serve_322 ?_
              refine v_iload_8 hC dX7_serve_323 ?_
              refine v_iadd hC dX7_serve_325 ?_
              refine w_iast (k := 1) hC N_1 (by first | omega | (simp only [mcl, mRd]; omega)) dX7_serve_326 ?_
              refine v_iinc1_11 hC (by decide) rfl dX7_serve_327 ?_
              refine v_goto (tgt := 288) hC dX7_serve_330 (by decide) ?_
              exact v_world rfl (if_neg h303).symm ih
      · refine v_aload_0 hC dX7_serve_217 ?_
        refine v_iload_7 hC dX7_serve_218 ?_
        refine v_iload_1 hC dX7_serve_220 ?_
        refine v_cv2r hC lX7_105 ⟨by decide, 7, _, rfl, rfl, fun _ _ _ => ⟨_, rfl⟩⟩ (k_X7_sign (by omega) (by omega)) ⟨Nat.le_of_ble_eq_true rfl, Nat.le_of_ble_eq_true rfl, rfl, rfl⟩ (Nat.le_of_ble_eq_true rfl) dX7_serve_221 ?_
        refine v_ifeq (tgt := 231) hC dX7_serve_224 (by decide) (fun h224 => ?_) (fun h224 => ?_)
        · refine v_iconst hC dX7_serve_231 ic_0 ?_
          refine v_istore_10 hC (by decide) rfl dX7_serve_232 ?_
          refine v_iload_10 hC dX7_serve_234 ?_
          refine v_ifeq (tgt := 269) hC dX7_serve_236 (by decide) (fun h236 => ?_) (fun h236 => absurd (by decide) h236)
          refine v_iload_8 hC dX7_serve_269 ?_
          refine v_top (show _ = mAm2 (mFree τ (mlw τ j) fr).2 (mlw τ j) fr _ from (if_neg (fun q => q.1.elim h214 (fun z => z h224))).symm) ?_
          rw [show mAm2 (mFree τ (mlw τ j) fr).2 (mlw τ j) fr (mAm1 (mFree τ (mlw τ j) fr).1 (τ 1 (566 + 4 * j + 2))) = mAmt τ j fr from rfl]
          refine v_istore_8 hC (by decide) rfl dX7_serve_271 ?_
          refine v_aload_0 hC dX7_serve_273 ?_
          refine v_get hC fX7_34 (by decide) rfl rfl dX7_serve_274 ?_
          refine v_iload_7 hC dX7_serve_277 ?_
          refine v_dup2 hC rfl rfl dX7_serve_279 ?_
          refine w_iald (k := 9) hC N_9 (by first | omega | (simp only [mcl, mRd]; omega)) dX7_serve_280 ?_
          refine v_iload_8 hC dX7_serve_281 ?_
          refine v_iadd hC dX7_serve_283 ?_
          refine w_iast (k := 9) hC N_9 (by first | omega | (simp only [mcl, mRd]; omega)) dX7_serve_284 ?_
          refine v_iload_1 hC dX7_serve_285 ?_
          refine v_istore_11 hC (by decide) rfl dX7_serve_286 ?_
          refine v_forget_9 (v_forget_10 ?_)
          refine up_loop (fun d : Nat => V X E 288 [some (.ref (adr E 54)), some (.int (nI fr)), some (.int (nI (mL τ))), some (.int (nI (D ||| 2 ^ j))), some (.int s), some (.int (nI t)), some (.int (nI j)), some (.int (nI (mlw τ j))), some (.int (mAmt τ j fr)), none, none, some (.int (nI (fr + d)))] [] (σ) (it (fmA (mlw τ j) (mAmt τ j fr)) fr d (wr (mFree τ (mlw τ j) fr).2 9 (mlw τ j) ((mFree τ (mlw τ j) fr).2 9 (mlw τ j) + mAmt τ j fr)))) (Nat.zero_le (24 - fr)) ?_ (fun d _ hd ih => ?_)
          · refine v_iload_11 hC dX7_serve_288 ?_
            refine v_bipush hC dX7_serve_290 bp_24 ?_
            refine v_icge (tgt := 333) hC dX7_serve_292 (by decide) (fun h292 => ?_) (fun h292 => absurd (nI_le (by omega) (by omega)) h292)
            refine v_aload_0 hC dX7_serve_333 ?_
            refine v_get hC fX7_7 (by decide) rfl rfl dX7_serve_334 ?_
            refine v_sipush hC dX7_serve_337 sp_566 ?_
            refine v_iconst hC dX7_serve_340 ic_4 ?_
            refine v_iload_6 hC dX7_serve_341 ?_
            refine v_imulN hC dX7_serve_343 ?_
            refine v_iaddN hC dX7_serve_344 ?_
            refine v_iconst hC dX7_serve_345 ic_3 ?_
            refine v_iaddN hC dX7_serve_346 ?_
            refine v_iload_8 hC dX7_serve_347 ?_
            refine w_iast (k := 1) hC N_1 (by first | omega | (simp only [mcl, mRd]; omega)) dX7_serve_349 ?_
            refine v_iload_4 hC dX7_serve_350 ?_
            refine v_iload_8 hC dX7_serve_352 ?_
            refine v_iadd hC dX7_serve_354 ?_
            refine v_istore_4 hC (by decide) rfl dX7_serve_355 ?_
            refine v_iinc1_5 hC (by decide) rfl dX7_serve_357 ?_
            refine v_goto (tgt := 102) hC dX7_serve_360 (by decide) ?_
            subst hjn
            exact v_forget_6 (v_forget_7 (v_forget_8 (v_forget_11 ih0)))
          · refine v_iload_11 hC dX7_serve_288 ?_
            refine v_bipush hC dX7_serve_290 bp_24 ?_
            refine v_icge (tgt := 333) hC dX7_serve_292 (by decide) (fun h292 => absurd h292 (nI_ge (by omega) (by omega))) (fun h292 => ?_)
            refine v_aload_0 hC dX7_serve_295 ?_
            refine v_iload_7 hC dX7_serve_296 ?_
            refine v_iload_11 hC dX7_serve_298 ?_
            refine v_cv2r hC lX7_105 ⟨by decide, 7, _, rfl, rfl, fun _ _ _ => ⟨_, rfl⟩⟩ (k_X7_sign (by omega) (by omega)) ⟨Nat.le_of_ble_eq_true rfl, Nat.le_of_ble_eq_true rfl, rfl, rfl⟩ (Nat.le_of_ble_eq_true rfl) dX7_serve_300 ?_
            refine v_ifeq (tgt := 327) hC dX7_serve_303 (by decide) (fun h303 => ?_) (fun h303 => ?_)
            · refine v_iinc1_11 hC (by decide) rfl dX7_serve_327 ?_
              refine v_goto (tgt := 288) hC dX7_serve_330 (by decide) ?_
              exact v_world rfl (if_pos h303).symm ih
            · refine v_aload_0 hC dX7_serve_306 ?_
              refine v_get hC fX7_7 (by decide) rfl rfl dX7_serve_307 ?_
              refine v_bipush hC dX7_serve_310 bp_50 ?_
              refine v_bipush hC dX7_serve_312 bp_24 ?_
              refine v_iload_7 hC dX7_serve_314 ?_
              refine v_imulN hC dX7_serve_316 ?_
              refine v_iaddN hC dX7_serve_317 ?_
              refine v_iload_11 hC dX7_serve_318 ?_
              refine v_iaddN hC dX7_serve_320 ?_
              refine v_dup2 hC rfl rfl dX7_serve_321 ?_
              refine w_iald (k := 1) hC N_1 (by first | omega | (simp only [mcl, mRd]; omega)) dX7_serve_322 ?_
              refine v_iload_8 hC dX7_serve_323 ?_
              refine v_iadd hC dX7_serve_325 ?_
              refine w_iast (k := 1) hC N_1 (by first | omega | (simp only [mcl, mRd]; omega)) dX7_serve_326 ?_
              refine v_iinc1_11 hC (by decide) rfl dX7_serve_327 ?_
              refine v_goto (tgt := 288) hC dX7_serve_330 (by decide) ?_
              exact v_world rfl (if_neg h303).symm ih
        · refine v_iconst hC dX7_serve_227 ic_1 ?_
          refine v_goto (tgt := 232) hC dX7_serve_228 (by decide) ?_
          refine v_istore_10 hC (by decide) rfl dX7_serve_232 ?_
          refine v_iload_10 hC dX7_serve_234 ?_
          refine v_ifeq (tgt := 269) hC dX7_serve_236 (by decide) (fun h236 => absurd h236 (by decide)) (fun h236 => ?_)
          refine v_sipush hC dX7_serve_239 sp_1000 ?_
          refine v_aload_0 hC dX7_serve_242 ?_
          refine v_get hC fX7_34 (by decide) rfl rfl dX7_serve_243 ?_
          refine v_iload_7 hC dX7_serve_246 ?_
          refine w_iald (k := 9) hC N_9 (by first | omega | (simp only [mcl, mRd]; omega)) dX7_serve_248 ?_
          refine v_isub hC dX7_serve_249 ?_
          refine v_iload_8 hC dX7_serve_250 ?_
          refine v_icge (tgt := 269) hC dX7_serve_252 (by decide) (fun h252 => ?_) (fun h252 => ?_)
          · refine v_iload_8 hC dX7_serve_269 ?_
            refine v_top (show _ = mAm2 (mFree τ (mlw τ j) fr).2 (mlw τ j) fr _ from (if_neg (fun q => absurd q.2 (Int32.not_lt.mpr h252))).symm) ?_
            rw [show mAm2 (mFree τ (mlw τ j) fr).2 (mlw τ j) fr (mAm1 (mFree τ (mlw τ j) fr).1 (τ 1 (566 + 4 * j + 2))) = mAmt τ j fr from rfl]
            refine v_istore_8 hC (by decide) rfl dX7_serve_271 ?_
            refine v_aload_0 hC dX7_serve_273 ?_
            refine v_get hC fX7_34 (by decide) rfl rfl dX7_serve_274 ?_
            refine v_iload_7 hC dX7_serve_277 ?_
            refine v_dup2 hC rfl rfl dX7_serve_279 ?_
            refine w_iald (k := 9) hC N_9 (by first | omega | (simp only [mcl, mRd]; omega)) dX7_serve_280 ?_
            refine v_iload_8 hC dX7_serve_281 ?_
            refine v_iadd hC dX7_serve_283 ?_
            refine w_iast (k := 9) hC N_9 (by first | omega | (simp only [mcl, mRd]; omega)) dX7_serve_284 ?_
            refine v_iload_1 hC dX7_serve_285 ?_
            refine v_istore_11 hC (by decide) rfl dX7_serve_286 ?_
            refine v_forget_9 (v_forget_10 ?_)
            refine up_loop (fun d : Nat => V X E 288 [some (.ref (adr E 54)), some (.int (nI fr)), some (.int (nI (mL τ))), some (.int (nI (D ||| 2 ^ j))), some (.int s), some (.int (nI t)), some (.int (nI j)), some (.int (nI (mlw τ j))), some (.int (mAmt τ j fr)), none, none, some (.int (nI (fr + d)))] [] (σ) (it (fmA (mlw τ j) (mAmt τ j fr)) fr d (wr (mFree τ (mlw τ j) fr).2 9 (mlw τ j) ((mFree τ (mlw τ j) fr).2 9 (mlw τ j) + mAmt τ j fr)))) (Nat.zero_le (24 - fr)) ?_ (fun d _ hd ih => ?_)
            · refine v_iload_11 hC dX7_serve_288 ?_
              refine v_bipush hC dX7_serve_290 bp_24 ?_
              refine v_icge (tgt := 333) hC dX7_serve_292 (by decide) (fun h292 => ?_) (fun h292 => absurd (nI_le (by omega) (by omega)) h292)
              refine v_aload_0 hC dX7_serve_333 ?_
              refine v_get hC fX7_7 (by decide) rfl rfl dX7_serve_334 ?_
              refine v_sipush hC dX7_serve_337 sp_566 ?_
              refine v_iconst hC dX7_serve_340 ic_4 ?_
              refine v_iload_6 hC dX7_serve_341 ?_
              refine v_imulN hC dX7_serve_343 ?_
              refine v_iaddN hC dX7_serve_344 ?_
              refine v_iconst hC dX7_serve_345 ic_3 ?_
              refine v_iaddN hC dX7_serve_346 ?_
              refine v_iload_8 hC dX7_serve_347 ?_
              refine w_iast (k := 1) hC N_1 (by first | omega | (simp only [mcl, mRd]; omega)) dX7_serve_349 ?_
              refine v_iload_4 hC dX7_serve_350 ?_
              refine v_iload_8 hC dX7_serve_352 ?_
              refine v_iadd hC dX7_serve_354 ?_
              refine v_istore_4 hC (by decide) rfl dX7_serve_355 ?_
              refine v_iinc1_5 hC (by decide) rfl dX7_serve_357 ?_
              refine v_goto (tgt := 102) hC dX7_serve_360 (by decide) ?_
              subst hjn
              exact v_forget_6 (v_forget_7 (v_forget_8 (v_forget_11 ih0)))
            · refine v_iload_11 hC dX7_serve_288 ?_
              refine v_bipush hC dX7_serve_290 bp_24 ?_
              refine v_icge (tgt := 333) hC dX7_serve_292 (by decide) (fun h292 => absurd h292 (nI_ge (by omega) (by omega))) (fun h292 => ?_)
              refine v_aload_0 hC dX7_serve_295 ?_
              refine v_iload_7 hC dX7_serve_296 ?_
              refine v_iload_11 hC dX7_serve_298 ?_
              refine v_cv2r hC lX7_105 ⟨by decide, 7, _, rfl, rfl, fun _ _ _ => ⟨_, rfl⟩⟩ (k_X7_sign (by omega) (by omega)) ⟨Nat.le_of_ble_eq_true rfl, Nat.le_of_ble_eq_true rfl, rfl, rfl⟩ (Nat.le_of_ble_eq_true rfl) dX7_serve_300 ?_
              refine v_ifeq (tgt := 327) hC dX7_serve_303 (by decide) (fun h303 => ?_) (fun h303 => ?_)
              · refine v_iinc1_11 hC (by decide) rfl dX7_serve_327 ?_
                refine v_goto (tgt := 288) hC dX7_serve_330 (by decide) ?_
                exact v_world rfl (if_pos h303).symm ih
              · refine v_aload_0 hC dX7_serve_306 ?_
                refine v_get hC fX7_7 (by decide) rfl rfl dX7_serve_307 ?_
                refine v_bipush hC dX7_serve_310 bp_50 ?_
                refine v_bipush hC dX7_serve_312 bp_24 ?_
                refine v_iload_7 hC dX7_serve_314 ?_
                refine v_imulN hC dX7_serve_316 ?_
                refine v_iaddN hC dX7_serve_317 ?_
                refine v_iload_11 hC dX7_serve_318 ?_
                refine v_iaddN hC dX7_serve_320 ?_
                refine v_dup2 hC rfl rfl dX7_serve_321 ?_
                refine w_iald (k := 1) hC N_1 (by first | omega | (simp only [mcl, mRd]; omega)) dX7_serve_322 ?_
                refine v_iload_8 hC dX7_serve_323 ?_
                refine v_iadd hC dX7_serve_325 ?_
                refine w_iast (k := 1) hC N_1 (by first | omega | (simp only [mcl, mRd]; omega)) dX7_serve_326 ?_
                refine v_iinc1_11 hC (by decide) rfl dX7_serve_327 ?_
                refine v_goto (tgt := 288) hC dX7_serve_330 (by decide) ?_
                exact v_world rfl (if_neg h303).symm ih
          · refine v_sipush hC dX7_serve_255 sp_1000 ?_
            refine v_aload_0 hC dX7_serve_258 ?_
            refine v_get hC fX7_34 (by decide) rfl rfl dX7_serve_259 ?_
            refine v_iload_7 hC dX7_serve_262 ?_
            refine w_iald (k := 9) hC N_9 (by first | omega | (simp only [mcl, mRd]; omega)) dX7_serve_264 ?_
            refine v_isub hC dX7_serve_265 ?_
            refine v_goto (tgt := 271) hC dX7_serve_266 (by decide) ?_
            refine v_top (show _ = mAm2 (mFree τ (mlw τ j) fr).2 (mlw τ j) fr _ from (if_pos ⟨Or.inr h224, Int32.not_le.mp h252⟩).symm) ?_
            rw [show mAm2 (mFree τ (mlw τ j) fr).2 (mlw τ j) fr (mAm1 (mFree τ (mlw τ j) fr).1 (τ 1 (566 + 4 * j + 2))) = mAmt τ j fr from rfl]
            refine v_istore_8 hC (by decide) rfl dX7_serve_271 ?_
            refine v_aload_0 hC dX7_serve_273 ?_
            refine v_get hC fX7_34 (by decide) rfl rfl dX7_serve_274 ?_
            refine v_iload_7 hC dX7_serve_277 ?_
            refine v_dup2 hC rfl rfl dX7_serve_279 ?_
            refine w_iald (k := 9) hC N_9 (by first | omega | (simp only [mcl, mRd]; omega)) dX7_serve_280 ?_
            refine v_iload_8 hC dX7_serve_281 ?_
            refine v_iadd hC dX7_serve_283 ?_
            refine w_iast (k := 9) hC N_9 (by first | omega | (simp only [mcl, mRd]; omega)) dX7_serve_284 ?_
            refine v_iload_1 hC dX7_serve_285 ?_
            refine v_istore_11 hC (by decide) rfl dX7_serve_286 ?_
            refine v_forget_9 (v_forget_10 ?_)
            refine up_loop (fun d : Nat => V X E 288 [some (.ref (adr E 54)), some (.int (nI fr)), some (.int (nI (mL τ))), some (.int (nI (D ||| 2 ^ j))), some (.int s), some (.int (nI t)), some (.int (nI j)), some (.int (nI (mlw τ j))), some (.int (mAmt τ j fr)), none, none, some (.int (nI (fr + d)))] [] (σ) (it (fmA (mlw τ j) (mAmt τ j fr)) fr d (wr (mFree τ (mlw τ j) fr).2 9 (mlw τ j) ((mFree τ (mlw τ j) fr).2 9 (mlw τ j) + mAmt τ j fr)))) (Nat.zero_le (24 - fr)) ?_ (fun d _ hd ih => ?_)
            · refine v_iload_11 hC dX7_serve_288 ?_
              refine v_bipush hC dX7_serve_290 bp_24 ?_
              refine v_icge (tgt := 333) hC dX7_serve_292 (by decide) (fun h292 => ?_) (fun h292 => absurd (nI_le (by omega) (by omega)) h292)
              refine v_aload_0 hC dX7_serve_333 ?_
              refine v_get hC fX7_7 (by decide) rfl rfl dX7_serve_334 ?_
              refine v_sipush hC dX7_serve_337 sp_566 ?_
              refine v_iconst hC dX7_serve_340 ic_4 ?_
              refine v_iload_6 hC dX7_serve_341 ?_
              refine v_imulN hC dX7_serve_343 ?_
              refine v_iaddN hC dX7_serve_344 ?_
              refine v_iconst hC dX7_serve_345 ic_3 ?_
              refine v_iaddN hC dX7_serve_346 ?_
              refine v_iload_8 hC dX7_serve_347 ?_
              refine w_iast (k := 1) hC N_1 (by first | omega | (simp only [mcl, mRd]; omega)) dX7_serve_349 ?_
              refine v_iload_4 hC dX7_serve_350 ?_
              refine v_iload_8 hC dX7_serve_352 ?_
              refine v_iadd hC dX7_serve_354 ?_
              refine v_istore_4 hC (by decide) rfl dX7_serve_355 ?_
              refine v_iinc1_5 hC (by decide) rfl dX7_serve_357 ?_
              refine v_goto (tgt := 102) hC dX7_serve_360 (by decide) ?_
              subst hjn
              exact v_forget_6 (v_forget_7 (v_forget_8 (v_forget_11 ih0)))
            · refine v_iload_11 hC dX7_serve_288 ?_
              refine v_bipush hC dX7_serve_290 bp_24 ?_
              refine v_icge (tgt := 333) hC dX7_serve_292 (by decide) (fun h292 => absurd h292 (nI_ge (by omega) (by omega))) (fun h292 => ?_)
              refine v_aload_0 hC dX7_serve_295 ?_
              refine v_iload_7 hC dX7_serve_296 ?_
              refine v_iload_11 hC dX7_serve_298 ?_
              refine v_cv2r hC lX7_105 ⟨by decide, 7, _, rfl, rfl, fun _ _ _ => ⟨_, rfl⟩⟩ (k_X7_sign (by omega) (by omega)) ⟨Nat.le_of_ble_eq_true rfl, Nat.le_of_ble_eq_true rfl, rfl, rfl⟩ (Nat.le_of_ble_eq_true rfl) dX7_serve_300 ?_
              refine v_ifeq (tgt := 327) hC dX7_serve_303 (by decide) (fun h303 => ?_) (fun h303 => ?_)
              · refine v_iinc1_11 hC (by decide) rfl dX7_serve_327 ?_
                refine v_goto (tgt := 288) hC dX7_serve_330 (by decide) ?_
                exact v_world rfl (if_pos h303).symm ih
              · refine v_aload_0 hC dX7_serve_306 ?_
                refine v_get hC fX7_7 (by decide) rfl rfl dX7_serve_307 ?_
                refine v_bipush hC dX7_serve_310 bp_50 ?_
                refine v_bipush hC dX7_serve_312 bp_24 ?_
                refine v_iload_7 hC dX7_serve_314 ?_
                refine v_imulN hC dX7_serve_316 ?_
                refine v_iaddN hC dX7_serve_317 ?_
                refine v_iload_11 hC dX7_serve_318 ?_
                refine v_iaddN hC dX7_serve_320 ?_
                refine v_dup2 hC rfl rfl dX7_serve_321 ?_
                refine w_iald (k := 1) hC N_1 (by first | omega | (simp only [mcl, mRd]; omega)) dX7_serve_322 ?_
                refine v_iload_8 hC dX7_serve_323 ?_
                refine v_iadd hC dX7_serve_325 ?_
                refine w_iast (k := 1) hC N_1 (by first | omega | (simp only [mcl, mRd]; omega)) dX7_serve_326 ?_
                refine v_iinc1_11 hC (by decide) rfl dX7_serve_327 ?_
                refine v_goto (tgt := 288) hC dX7_serve_330 (by decide) ?_
                exact v_world rfl (if_neg h303).symm ih
    · refine v_iload_9 hC dX7_serve_202 ?_
      refine v_goto (tgt := 209) hC dX7_serve_204 (by decide) ?_
      refine v_top (show _ = mAm1 _ _ from (if_neg h199).symm) ?_
      refine v_istore_8 hC (by decide) rfl dX7_serve_209 ?_
      refine v_iload_1 hC dX7_serve_211 ?_
      refine v_bipush hC dX7_serve_212 bp_23 ?_
      refine v_iclt (tgt := 227) hC dX7_serve_214 (by decide) (fun h214 => ?_) (fun h214 => ?_)
      · refine v_iconst hC dX7_serve_227 ic_1 ?_
        refine v_goto (tgt := 232) hC dX7_serve_228 (by decide) ?_
        refine v_istore_10 hC (by decide) rfl dX7_serve_232 ?_
        refine v_iload_10 hC dX7_serve_234 ?_
        refine v_ifeq (tgt := 269) hC dX7_serve_236 (by decide) (fun h236 => absurd h236 (by decide)) (fun h236 => ?_)
        refine v_sipush hC dX7_serve_239 sp_1000 ?_
        refine v_aload_0 hC dX7_serve_242 ?_
        refine v_get hC fX7_34 (by decide) rfl rfl dX7_serve_243 ?_
        refine v_iload_7 hC dX7_serve_246 ?_
        refine w_iald (k := 9) hC N_9 (by first | omega | (simp only [mcl, mRd]; omega)) dX7_serve_248 ?_
        refine v_isub hC dX7_serve_249 ?_
        refine v_iload_8 hC dX7_serve_250 ?_
        refine v_icge (tgt := 269) hC dX7_serve_252 (by decide) (fun h252 => ?_) (fun h252 => ?_)
        · refine v_iload_8 hC dX7_serve_269 ?_
          refine v_top (show _ = mAm2 (mFree τ (mlw τ j) fr).2 (mlw τ j) fr _ from (if_neg (fun q => absurd q.2 (Int32.not_lt.mpr h252))).symm) ?_
          rw [show mAm2 (mFree τ (mlw τ j) fr).2 (mlw τ j) fr (mAm1 (mFree τ (mlw τ j) fr).1 (τ 1 (566 + 4 * j + 2))) = mAmt τ j fr from rfl]
          refine v_istore_8 hC (by decide) rfl dX7_serve_271 ?_
          refine v_aload_0 hC dX7_serve_273 ?_
          refine v_get hC fX7_34 (by decide) rfl rfl dX7_serve_274 ?_
          refine v_iload_7 hC dX7_serve_277 ?_
          refine v_dup2 hC rfl rfl dX7_serve_279 ?_
          refine w_iald (k := 9) hC N_9 (by first | omega | (simp only [mcl, mRd]; omega)) dX7_serve_280 ?_
          refine v_iload_8 hC dX7_serve_281 ?_
          refine v_iadd hC dX7_serve_283 ?_
          refine w_iast (k := 9) hC N_9 (by first | omega | (simp only [mcl, mRd]; omega)) dX7_serve_284 ?_
          refine v_iload_1 hC dX7_serve_285 ?_
          refine v_istore_11 hC (by decide) rfl dX7_serve_286 ?_
          refine v_forget_9 (v_forget_10 ?_)
          refine up_loop (fun d : Nat => V X E 288 [some (.ref (adr E 54)), some (.int (nI fr)), some (.int (nI (mL τ))), some (.int (nI (D ||| 2 ^ j))), some (.int s), some (.int (nI t)), some (.int (nI j)), some (.int (nI (mlw τ j))), some (.int (mAmt τ j fr)), none, none, some (.int (nI (fr + d)))] [] (σ) (it (fmA (mlw τ j) (mAmt τ j fr)) fr d (wr (mFree τ (mlw τ j) fr).2 9 (mlw τ j) ((mFree τ (mlw τ j) fr).2 9 (mlw τ j) + mAmt τ j fr)))) (Nat.zero_le (24 - fr)) ?_ (fun d _ hd ih => ?_)
          · refine v_iload_11 hC dX7_serve_288 ?_
            refine v_bipush hC dX7_serve_290 bp_24 ?_
            refine v_icge (tgt := 333) hC dX7_serve_292 (by decide) (fun h292 => ?_) (fun h292 => absurd (nI_le (by omega) (by omega)) h292)
            refine v_aload_0 hC dX7_serve_333 ?_
            refine v_get hC fX7_7 (by decide) rfl rfl dX7_serve_334 ?_
            refine v_sipush hC dX7_serve_337 sp_566 ?_
            refine v_iconst hC dX7_serve_340 ic_4 ?_
            refine v_iload_6 hC dX7_serve_341 ?_
            refine v_imulN hC dX7_serve_343 ?_
            refine v_iaddN hC dX7_serve_344 ?_
            refine v_iconst hC dX7_serve_345 ic_3 ?_
            refine v_iaddN hC dX7_serve_346 ?_
            refine v_iload_8 hC dX7_serve_347 ?_
            refine w_iast (k := 1) hC N_1 (by first | omega | (simp only [mcl, mRd]; omega)) dX7_serve_349 ?_
            refine v_iload_4 hC dX7_serve_350 ?_
            refine v_iload_8 hC dX7_serve_352 ?_
            refine v_iadd hC dX7_serve_354 ?_
            refine v_istore_4 hC (by decide) rfl dX7_serve_355 ?_
            refine v_iinc1_5 hC (by decide) rfl dX7_serve_357 ?_
            refine v_goto (tgt := 102) hC dX7_serve_360 (by decide) ?_
            subst hjn
            exact v_forget_6 (v_forget_7 (v_forget_8 (v_forget_11 ih0)))
          · refine v_iload_11 hC dX7_serve_288 ?_
            refine v_bipush hC dX7_serve_290 bp_24 ?_
            refine v_icge (tgt := 333) hC dX7_serve_292 (by decide) (fun h292 => absurd h292 (nI_ge (by omega) (by omega))) (fun h292 => ?_)
            refine v_aload_0 hC dX7_serve_295 ?_
            refine v_iload_7 hC dX7_serve_296 ?_
            refine v_iload_11 hC dX7_serve_298 ?_
            refine v_cv2r hC lX7_105 ⟨by decide, 7, _, rfl, rfl, fun _ _ _ => ⟨_, rfl⟩⟩ (k_X7_sign (by omega) (by omega)) ⟨Nat.le_of_ble_eq_true rfl, Nat.le_of_ble_eq_true rfl, rfl, rfl⟩ (Nat.le_of_ble_eq_true rfl) dX7_serve_300 ?_
            refine v_ifeq (tgt := 327) hC dX7_serve_303 (by decide) (fun h303 => ?_) (fun h303 => ?_)
            · refine v_iinc1_11 hC (by decide) rfl dX7_serve_327 ?_
              refine v_goto (tgt := 288) hC dX7_serve_330 (by decide) ?_
              exact v_world rfl (if_pos h303).symm ih
            · refine v_aload_0 hC dX7_serve_306 ?_
              refine v_get hC fX7_7 (by decide) rfl rfl dX7_serve_307 ?_
              refine v_bipush hC dX7_serve_310 bp_50 ?_
              refine v_bipush hC dX7_serve_312 bp_24 ?_
              refine v_iload_7 hC dX7_serve_314 ?_
              refine v_imulN hC dX7_serve_316 ?_
              refine v_iaddN hC dX7_serve_317 ?_
              refine v_iload_11 hC dX7_serve_318 ?_
              refine v_iaddN hC dX7_serve_320 ?_
              refine v_dup2 hC rfl rfl dX7_serve_321 ?_
              refine w_iald (k := 1) hC N_1 (by first | omega | (simp only [mcl, mRd]; omega)) dX7_serve_322 ?_
              refine v_iload_8 hC dX7_serve_323 ?_
              refine v_iadd hC dX7_serve_325 ?_
              refine w_iast (k := 1) hC N_1 (by first | omega | (simp only [mcl, mRd]; omega)) dX7_serve_326 ?_
              refine v_iinc1_11 hC (by decide) rfl dX7_serve_327 ?_
              refine v_goto (tgt := 288) hC dX7_serve_330 (by decide) ?_
              exact v_world rfl (if_neg h303).symm ih
        · refine v_sipush hC dX7_serve_255 sp_1000 ?_
          refine v_aload_0 hC dX7_serve_258 ?_
          refine v_get hC fX7_34 (by decide) rfl rfl dX7_serve_259 ?_
          refine v_iload_7 hC dX7_serve_262 ?_
          refine w_iald (k := 9) hC N_9 (by first | omega | (simp only [mcl, mRd]; omega)) dX7_serve_264 ?_
          refine v_isub hC dX7_serve_265 ?_
          refine v_goto (tgt := 271) hC dX7_serve_266 (by decide) ?_
          refine v_top (show _ = mAm2 (mFree τ (mlw τ j) fr).2 (mlw τ j) fr _ from (if_pos ⟨Or.inl h214, Int32.not_le.mp h252⟩).symm) ?_
          rw [show mAm2 (mFree τ (mlw τ j) fr).2 (mlw τ j) fr (mAm1 (mFree τ (mlw τ j) fr).1 (τ 1 (566 + 4 * j + 2))) = mAmt τ j fr from rfl]
          refine v_istore_8 hC (by decide) rfl dX7_serve_271 ?_
          refine v_aload_0 hC dX7_serve_273 ?_
          refine v_get hC fX7_34 (by decide) rfl rfl dX7_serve_274 ?_
          refine v_iload_7 hC dX7_serve_277 ?_
          refine v_dup2 hC rfl rfl dX7_serve_279 ?_
          refine w_iald (k := 9) hC N_9 (by first | omega | (simp only [mcl, mRd]; omega)) dX7_serve_280 ?_
          refine v_iload_8 hC dX7_serve_281 ?_
          refine v_iadd hC dX7_serve_283 ?_
          refine w_iast (k := 9) hC N_9 (by first | omega | (simp only [mcl, mRd]; omega)) dX7_serve_284 ?_
          refine v_iload_1 hC dX7_serve_285 ?_
          refine v_istore_11 hC (by decide) rfl dX7_serve_286 ?_
          refine v_forget_9 (v_forget_10 ?_)
          refine up_loop (fun d : Nat => V X E 288 [some (.ref (adr E 54)), some (.int (nI fr)), some (.int (nI (mL τ))), some (.int (nI (D ||| 2 ^ j))), some (.int s), some (.int (nI t)), some (.int (nI j)), some (.int (nI (mlw τ j))), some (.int (mAmt τ j fr)), none, none, some (.int (nI (fr + d)))] [] (σ) (it (fmA (mlw τ j) (mAmt τ j fr)) fr d (wr (mFree τ (mlw τ j) fr).2 9 (mlw τ j) ((mFree τ (mlw τ j) fr).2 9 (mlw τ j) + mAmt τ j fr)))) (Nat.zero_le (24 - fr)) ?_ (fun d _ hd ih => ?_)
          · refine v_iload_11 hC dX7_serve_288 ?_
            refine v_bipush hC dX7_serve_290 bp_24 ?_
            refine v_icge (tgt := 333) hC dX7_serve_292 (by decide) (fun h292 => ?_) (fun h292 => absurd (nI_le (by omega) (by omega)) h292)
            refine v_aload_0 hC dX7_serve_333 ?_
            refine v_get hC fX7_7 (by decide) rfl rfl dX7_serve_334 ?_
            refine v_sipush hC dX7_serve_337 sp_566 ?_
            refine v_iconst hC dX7_serve_340 ic_4 ?_
            refine v_iload_6 hC dX7_serve_341 ?_
            refine v_imulN hC dX7_serve_343 ?_
            refine v_iaddN hC dX7_serve_344 ?_
            refine v_iconst hC dX7_serve_345 ic_3 ?_
            refine v_iaddN hC dX7_serve_346 ?_
            refine v_iload_8 hC dX7_serve_347 ?_
            refine w_iast (k := 1) hC N_1 (by first | omega | (simp only [mcl, mRd]; omega)) dX7_serve_349 ?_
            refine v_iload_4 hC dX7_serve_350 ?_
            refine v_iload_8 hC dX7_serve_352 ?_
            refine v_iadd hC dX7_serve_354 ?_
            refine v_istore_4 hC (by decide) rfl dX7_serve_355 ?_
            refine v_iinc1_5 hC (by decide) rfl dX7_serve_357 ?_
            refine v_goto (tgt := 102) hC dX7_serve_360 (by decide) ?_
            subst hjn
            exact v_forget_6 (v_forget_7 (v_forget_8 (v_forget_11 ih0)))
          · refine v_iload_11 hC dX7_serve_288 ?_
            refine v_bipush hC dX7_serve_290 bp_24 ?_
            refine v_icge (tgt := 333) hC dX7_serve_292 (by decide) (fun h292 => absurd h292 (nI_ge (by omega) (by omega))) (fun h292 => ?_)
            refine v_aload_0 hC dX7_serve_295 ?_
            refine v_iload_7 hC dX7_serve_296 ?_
            refine v_iload_11 hC dX7_serve_298 ?_
            refine v_cv2r hC lX7_105 ⟨by decide, 7, _, rfl, rfl, fun _ _ _ => ⟨_, rfl⟩⟩ (k_X7_sign (by omega) (by omega)) ⟨Nat.le_of_ble_eq_true rfl, Nat.le_of_ble_eq_true rfl, rfl, rfl⟩ (Nat.le_of_ble_eq_true rfl) dX7_serve_300 ?_
            refine v_ifeq (tgt := 327) hC dX7_serve_303 (by decide) (fun h303 => ?_) (fun h303 => ?_)
            · refine v_iinc1_11 hC (by decide) rfl dX7_serve_327 ?_
              refine v_goto (tgt := 288) hC dX7_serve_330 (by decide) ?_
              exact v_world rfl (if_pos h303).symm ih
            · refine v_aload_0 hC dX7_serve_306 ?_
              refine v_get hC fX7_7 (by decide) rfl rfl dX7_serve_307 ?_
              refine v_bipush hC dX7_serve_310 bp_50 ?_
              refine v_bipush hC dX7_serve_312 bp_24 ?_
              refine v_iload_7 hC dX7_serve_314 ?_
              refine v_imulN hC dX7_serve_316 ?_
              refine v_iaddN hC dX7_serve_317 ?_
              refine v_iload_11 hC dX7_serve_318 ?_
              refine v_iaddN hC dX7_serve_320 ?_
              refine v_dup2 hC rfl rfl dX7_serve_321 ?_
              refine w_iald (k := 1) hC N_1 (by first | omega | (simp only [mcl, mRd]; omega)) dX7_serve_322 ?_
              refine v_iload_8 hC dX7_serve_323 ?_
              refine v_iadd hC dX7_serve_325 ?_
              refine w_iast (k := 1) hC N_1 (by first | omega | (simp only [mcl, mRd]; omega)) dX7_serve_326 ?_
              refine v_iinc1_11 hC (by decide) rfl dX7_serve_327 ?_
              refine v_goto (tgt := 288) hC dX7_serve_330 (by decide) ?_
              exact v_world rfl (if_neg h303).symm ih
      · refine v_aload_0 hC dX7_serve_217 ?_
        refine v_iload_7 hC dX7_serve_218 ?_
        refine v_iload_1 hC dX7_serve_220 ?_
        refine v_cv2r hC lX7_105 ⟨by decide, 7, _, rfl, rfl, fun _ _ _ => ⟨_, rfl⟩⟩ (k_X7_sign (by omega) (by omega)) ⟨Nat.le_of_ble_eq_true rfl, Nat.le_of_ble_eq_true rfl, rfl, rfl⟩ (Nat.le_of_ble_eq_true rfl) dX7_serve_221 ?_
        refine v_ifeq (tgt := 231) hC dX7_serve_224 (by decide) (fun h224 => ?_) (fun h224 => ?_)
        · refine v_iconst hC dX7_serve_231 ic_0 ?_
          refine v_istore_10 hC (by decide) rfl dX7_serve_232 ?_
          refine v_iload_10 hC dX7_serve_234 ?_
          refine v_ifeq (tgt := 269) hC dX7_serve_236 (by decide) (fun h236 => ?_) (fun h236 => absurd (by decide) h236)
          refine v_iload_8 hC dX7_serve_269 ?_
          refine v_top (show _ = mAm2 (mFree τ (mlw τ j) fr).2 (mlw τ j) fr _ from (if_neg (fun q => q.1.elim h214 (fun z => z h224))).symm) ?_
          rw [show mAm2 (mFree τ (mlw τ j) fr).2 (mlw τ j) fr (mAm1 (mFree τ (mlw τ j) fr).1 (τ 1 (566 + 4 * j + 2))) = mAmt τ j fr from rfl]
          refine v_istore_8 hC (by decide) rfl dX7_serve_271 ?_
          refine v_aload_0 hC dX7_serve_273 ?_
          refine v_get hC fX7_34 (by decide) rfl rfl dX7_serve_274 ?_
          refine v_iload_7 hC dX7_serve_277 ?_
          refine v_dup2 hC rfl rfl dX7_serve_279 ?_
          refine w_iald (k := 9) hC N_9 (by first | omega | (simp only [mcl, mRd]; omega)) dX7_serve_280 ?_
          refine v_iload_8 hC dX7_serve_281 ?_
          refine v_iadd hC dX7_serve_283 ?_
          refine w_iast (k := 9) hC N_9 (by first | omega | (simp only [mcl, mRd]; omega)) dX7_serve_284 ?_
          refine v_iload_1 hC dX7_serve_285 ?_
          refine v_istore_11 hC (by decide) rfl dX7_serve_286 ?_
          refine v_forget_9 (v_forget_10 ?_)
          refine up_loop (fun d : Nat => V X E 288 [some (.ref (adr E 54)), some (.int (nI fr)), some (.int (nI (mL τ))), some (.int (nI (D ||| 2 ^ j))), some (.int s), some (.int (nI t)), some (.int (nI j)), some (.int (nI (mlw τ j))), some (.int (mAmt τ j fr)), none, none, some (.int (nI (fr + d)))] [] (σ) (it (fmA (mlw τ j) (mAmt τ j fr)) fr d (wr (mFree τ (mlw τ j) fr).2 9 (mlw τ j) ((mFree τ (mlw τ j) fr).2 9 (mlw τ j) + mAmt τ j fr)))) (Nat.zero_le (24 - fr)) ?_ (fun d _ hd ih => ?_)
          · refine v_iload_11 hC dX7_serve_288 ?_
            refine v_bipush hC dX7_serve_290 bp_24 ?_
            refine v_icge (tgt := 333) hC dX7_serve_292 (by decide) (fun h292 => ?_) (fun h292 => absurd (nI_le (by omega) (by omega)) h292)
            refine v_aload_0 hC dX7_serve_333 ?_
            refine v_get hC fX7_7 (by decide) rfl rfl dX7_serve_334 ?_
            refine v_sipush hC dX7_serve_337 sp_566 ?_
            refine v_iconst hC dX7_serve_340 ic_4 ?_
            refine v_iload_6 hC dX7_serve_341 ?_
            refine v_imulN hC dX7_serve_343 ?_
            refine v_iaddN hC dX7_serve_344 ?_
            refine v_iconst hC dX7_serve_345 ic_3 ?_
            refine v_iaddN hC dX7_serve_346 ?_
            refine v_iload_8 hC dX7_serve_347 ?_
            refine w_iast (k := 1) hC N_1 (by first | omega | (simp only [mcl, mRd]; omega)) dX7_serve_349 ?_
            refine v_iload_4 hC dX7_serve_350 ?_
            refine v_iload_8 hC dX7_serve_352 ?_
            refine v_iadd hC dX7_serve_354 ?_
            refine v_istore_4 hC (by decide) rfl dX7_serve_355 ?_
            refine v_iinc1_5 hC (by decide) rfl dX7_serve_357 ?_
            refine v_goto (tgt := 102) hC dX7_serve_360 (by decide) ?_
            subst hjn
            exact v_forget_6 (v_forget_7 (v_forget_8 (v_forget_11 ih0)))
          · refine v_iload_11 hC dX7_serve_288 ?_
            refine v_bipush hC dX7_serve_290 bp_24 ?_
            refine v_icge (tgt := 333) hC dX7_serve_292 (by decide) (fun h292 => absurd h292 (nI_ge (by omega) (by omega))) (fun h292 => ?_)
            refine v_aload_0 hC dX7_serve_295 ?_
            refine v_iload_7 hC dX7_serve_296 ?_
            refine v_iload_11 hC dX7_serve_298 ?_
            refine v_cv2r hC lX7_105 ⟨by decide, 7, _, rfl, rfl, fun _ _ _ => ⟨_, rfl⟩⟩ (k_X7_sign (by omega) (by omega)) ⟨Nat.le_of_ble_eq_true rfl, Nat.le_of_ble_eq_true rfl, rfl, rfl⟩ (Nat.le_of_ble_eq_true rfl) dX7_serve_300 ?_
            refine v_ifeq (tgt := 327) hC dX7_serve_303 (by decide) (fun h303 => ?_) (fun h303 => ?_)
            · refine v_iinc1_11 hC (by decide) rfl dX7_serve_327 ?_
              refine v_goto (tgt := 288) hC dX7_serve_330 (by decide) ?_
              exact v_world rfl (if_pos h303).symm ih
            · refine v_aload_0 hC dX7_serve_306 ?_
              refine v_get hC fX7_7 (by decide) rfl rfl dX7_serve_307 ?_
              refine v_bipush hC dX7_serve_310 bp_50 ?_
              refine v_bipush hC dX7_serve_312 bp_24 ?_
              refine v_iload_7 hC dX7_serve_314 ?_
              refine v_imulN hC dX7_serve_316 ?_
              refine v_iaddN hC dX7_serve_317 ?_
              refine v_iload_11 hC dX7_serve_318 ?_
              refine v_iaddN hC dX7_serve_320 ?_
              refine v_dup2 hC rfl rfl dX7_serve_321 ?_
              refine w_iald (k := 1) hC N_1 (by first | omega | (simp only [mcl, mRd]; omega)) dX7_serve_322 ?_
              refine v_iload_8 hC dX7_serve_323 ?_
              refine v_iadd hC dX7_serve_325 ?_
              refine w_iast (k := 1) hC N_1 (by first | omega | (simp only [mcl, mRd]; omega)) dX7_serve_326 ?_
              refine v_iinc1_11 hC (by decide) rfl dX7_serve_327 ?_
              refine v_goto (tgt := 288) hC dX7_serve_330 (by decide) ?_
              exact v_world rfl (if_neg h303).symm ih
        · refine v_iconst hC dX7_serve_227 ic_1 ?_
          refine v_goto (tgt := 232) hC dX7_serve_228 (by decide) ?_
          refine v_istore_10 hC (by decide) rfl dX7_serve_232 ?_
          refine v_iload_10 hC dX7_serve_234 ?_
          refine v_ifeq (tgt := 269) hC dX7_serve_236 (by decide) (fun h236 => absurd h236 (by decide)) (fun h236 => ?_)
          refine v_sipush hC dX7_serve_239 sp_1000 ?_
          refine v_aload_0 hC dX7_serve_242 ?_
          refine v_get hC fX7_34 (by decide) rfl rfl dX7_serve_243 ?_
          refine v_iload_7 hC dX7_serve_246 ?_
          refine w_iald (k := 9) hC N_9 (by first | omega | (simp only [mcl, mRd]; omega)) dX7_serve_248 ?_
          refine v_isub hC dX7_serve_249 ?_
          refine v_iload_8 hC dX7_serve_250 ?_
          refine v_icge (tgt := 269) hC dX7_serve_252 (by decide) (fun h252 => ?_) (fun h252 => ?_)
          · refine v_iload_8 hC dX7_serve_269 ?_
            refine v_top (show _ = mAm2 (mFree τ (mlw τ j) fr).2 (mlw τ j) fr _ from (if_neg (fun q => absurd q.2 (Int32.not_lt.mpr h252))).symm) ?_
            rw [show mAm2 (mFree τ (mlw τ j) fr).2 (mlw τ j) fr (mAm1 (mFree τ (mlw τ j) fr).1 (τ 1 (566 + 4 * j + 2))) = mAmt τ j fr from rfl]
            refine v_istore_8 hC (by decide) rfl dX7_serve_271 ?_
            refine v_aload_0 hC dX7_serve_273 ?_
            refine v_get hC fX7_34 (by decide) rfl rfl dX7_serve_274 ?_
            refine v_iload_7 hC dX7_serve_277 ?_
            refine v_dup2 hC rfl rfl dX7_serve_279 ?_
            refine w_iald (k := 9) hC N_9 (by first | omega | (simp only [mcl, mRd]; omega)) dX7_serve_280 ?_
            refine v_iload_8 hC dX7_serve_281 ?_
            refine v_iadd hC dX7_serve_283 ?_
            refine w_iast (k := 9) hC N_9 (by first | omega | (simp only [mcl, mRd]; omega)) dX7_serve_284 ?_
            refine v_iload_1 hC dX7_serve_285 ?_
            refine v_istore_11 hC (by decide) rfl dX7_serve_286 ?_
            refine v_forget_9 (v_forget_10 ?_)
            refine up_loop (fun d : Nat => V X E 288 [some (.ref (adr E 54)), some (.int (nI fr)), some (.int (nI (mL τ))), some (.int (nI (D ||| 2 ^ j))), some (.int s), some (.int (nI t)), some (.int (nI j)), some (.int (nI (mlw τ j))), some (.int (mAmt τ j fr)), none, none, some (.int (nI (fr + d)))] [] (σ) (it (fmA (mlw τ j) (mAmt τ j fr)) fr d (wr (mFree τ (mlw τ j) fr).2 9 (mlw τ j) ((mFree τ (mlw τ j) fr).2 9 (mlw τ j) + mAmt τ j fr)))) (Nat.zero_le (24 - fr)) ?_ (fun d _ hd ih => ?_)
            · refine v_iload_11 hC dX7_serve_288 ?_
              refine v_bipush hC dX7_serve_290 bp_24 ?_
              refine v_icge (tgt := 333) hC dX7_serve_292 (by decide) (fun h292 => ?_) (fun h292 => absurd (nI_le (by omega) (by omega)) h292)
              refine v_aload_0 hC dX7_serve_333 ?_
              refine v_get hC fX7_7 (by decide) rfl rfl dX7_serve_334 ?_
              refine v_sipush hC dX7_serve_337 sp_566 ?_
              refine v_iconst hC dX7_serve_340 ic_4 ?_
              refine v_iload_6 hC dX7_serve_341 ?_
              refine v_imulN hC dX7_serve_343 ?_
              refine v_iaddN hC dX7_serve_344 ?_
              refine v_iconst hC dX7_serve_345 ic_3 ?_
              refine v_iaddN hC dX7_serve_346 ?_
              refine v_iload_8 hC dX7_serve_347 ?_
              refine w_iast (k := 1) hC N_1 (by first | omega | (simp only [mcl, mRd]; omega)) dX7_serve_349 ?_
              refine v_iload_4 hC dX7_serve_350 ?_
              refine v_iload_8 hC dX7_serve_352 ?_
              refine v_iadd hC dX7_serve_354 ?_
              refine v_istore_4 hC (by decide) rfl dX7_serve_355 ?_
              refine v_iinc1_5 hC (by decide) rfl dX7_serve_357 ?_
              refine v_goto (tgt := 102) hC dX7_serve_360 (by decide) ?_
              subst hjn
              exact v_forget_6 (v_forget_7 (v_forget_8 (v_forget_11 ih0)))
            · refine v_iload_11 hC dX7_serve_288 ?_
              refine v_bipush hC dX7_serve_290 bp_24 ?_
              refine v_icge (tgt := 333) hC dX7_serve_292 (by decide) (fun h292 => absurd h292 (nI_ge (by omega) (by omega))) (fun h292 => ?_)
              refine v_aload_0 hC dX7_serve_295 ?_
              refine v_iload_7 hC dX7_serve_296 ?_
              refine v_iload_11 hC dX7_serve_298 ?_
              refine v_cv2r hC lX7_105 ⟨by decide, 7, _, rfl, rfl, fun _ _ _ => ⟨_, rfl⟩⟩ (k_X7_sign (by omega) (by omega)) ⟨Nat.le_of_ble_eq_true rfl, Nat.le_of_ble_eq_true rfl, rfl, rfl⟩ (Nat.le_of_ble_eq_true rfl) dX7_serve_300 ?_
              refine v_ifeq (tgt := 327) hC dX7_serve_303 (by decide) (fun h303 => ?_) (fun h303 => ?_)
              · refine v_iinc1_11 hC (by decide) rfl dX7_serve_327 ?_
                refine v_goto (tgt := 288) hC dX7_serve_330 (by decide) ?_
                exact v_world rfl (if_pos h303).symm ih
              · refine v_aload_0 hC dX7_serve_306 ?_
                refine v_get hC fX7_7 (by decide) rfl rfl dX7_serve_307 ?_
                refine v_bipush hC dX7_serve_310 bp_50 ?_
                refine v_bipush hC dX7_serve_312 bp_24 ?_
                refine v_iload_7 hC dX7_serve_314 ?_
                refine v_imulN hC dX7_serve_316 ?_
                refine v_iaddN hC dX7_serve_317 ?_
                refine v_iload_11 hC dX7_serve_318 ?_
                refine v_iaddN hC dX7_serve_320 ?_
                refine v_dup2 hC rfl rfl dX7_serve_321 ?_
                refine w_iald (k := 1) hC N_1 (by first | omega | (simp only [mcl, mRd]; omega)) dX7_serve_322 ?_
                refine v_iload_8 hC dX7_serve_323 ?_
                refine v_iadd hC dX7_serve_325 ?_
                refine w_iast (k := 1) hC N_1 (by first | omega | (simp only [mcl, mRd]; omega)) dX7_serve_326 ?_
                refine v_iinc1_11 hC (by decide) rfl dX7_serve_327 ?_
                refine v_goto (tgt := 288) hC dX7_serve_330 (by decide) ?_
                exact v_world rfl (if_neg h303).symm ih
          · refine v_sipush hC dX7_serve_255 sp_1000 ?_
            refine v_aload_0 hC dX7_serve_258 ?_
            refine v_get hC fX7_34 (by decide) rfl rfl dX7_serve_259 ?_
            refine v_iload_7 hC dX7_serve_262 ?_
            refine w_iald (k := 9) hC N_9 (by first | omega | (simp only [mcl, mRd]; omega)) dX7_serve_264 ?_
            refine v_isub hC dX7_serve_265 ?_
            refine v_goto (tgt := 271) hC dX7_serve_266 (by decide) ?_
            refine v_top (show _ = mAm2 (mFree τ (mlw τ j) fr).2 (mlw τ j) fr _ from (if_pos ⟨Or.inr h224, Int32.not_le.mp h252⟩).symm) ?_
            rw [show mAm2 (mFree τ (mlw τ j) fr).2 (mlw τ j) fr (mAm1 (mFree τ (mlw τ j) fr).1 (τ 1 (566 + 4 * j + 2))) = mAmt τ j fr from rfl]
            refine v_istore_8 hC (by decide) rfl dX7_serve_271 ?_
            refine v_aload_0 hC dX7_serve_273 ?_
            refine v_get hC fX7_34 (by decide) rfl rfl dX7_serve_274 ?_
            refine v_iload_7 hC dX7_serve_277 ?_
            refine v_dup2 hC rfl rfl dX7_serve_279 ?_
            refine w_iald (k := 9) hC N_9 (by first | omega | (simp only [mcl, mRd]; omega)) dX7_serve_280 ?_
            refine v_iload_8 hC dX7_serve_281 ?_
            refine v_iadd hC dX7_serve_283 ?_
            refine w_iast (k := 9) hC N_9 (by first | omega | (simp only [mcl, mRd]; omega)) dX7_serve_284 ?_
            refine v_iload_1 hC dX7_serve_285 ?_
            refine v_istore_11 hC (by decide) rfl dX7_serve_286 ?_
            refine v_forget_9 (v_forget_10 ?_)
            refine up_loop (fun d : Nat => V X E 288 [some (.ref (adr E 54)), some (.int (nI fr)), some (.int (nI (mL τ))), some (.int (nI (D ||| 2 ^ j))), some (.int s), some (.int (nI t)), some (.int (nI j)), some (.int (nI (mlw τ j))), some (.int (mAmt τ j fr)), none, none, some (.int (nI (fr + d)))] [] (σ) (it (fmA (mlw τ j) (mAmt τ j fr)) fr d (wr (mFree τ (mlw τ j) fr).2 9 (mlw τ j) ((mFree τ (mlw τ j) fr).2 9 (mlw τ j) + mAmt τ j fr)))) (Nat.zero_le (24 - fr)) ?_ (fun d _ hd ih => ?_)
            · refine v_iload_11 hC dX7_serve_288 ?_
              refine v_bipush hC dX7_serve_290 bp_24 ?_
              refine v_icge (tgt := 333) hC dX7_serve_292 (by decide) (fun h292 => ?_) (fun h292 => absurd (nI_le (by omega) (by omega)) h292)
              refine v_aload_0 hC dX7_serve_333 ?_
              refine v_get hC fX7_7 (by decide) rfl rfl dX7_serve_334 ?_
              refine v_sipush hC dX7_serve_337 sp_566 ?_
              refine v_iconst hC dX7_serve_340 ic_4 ?_
              refine v_iload_6 hC dX7_serve_341 ?_
              refine v_imulN hC dX7_serve_343 ?_
              refine v_iaddN hC dX7_serve_344 ?_
              refine v_iconst hC dX7_serve_345 ic_3 ?_
              refine v_iaddN hC dX7_serve_346 ?_
              refine v_iload_8 hC dX7_serve_347 ?_
              refine w_iast (k := 1) hC N_1 (by first | omega | (simp only [mcl, mRd]; omega)) dX7_serve_349 ?_
              refine v_iload_4 hC dX7_serve_350 ?_
              refine v_iload_8 hC dX7_serve_352 ?_
              refine v_iadd hC dX7_serve_354 ?_
              refine v_istore_4 hC (by decide) rfl dX7_serve_355 ?_
              refine v_iinc1_5 hC (by decide) rfl dX7_serve_357 ?_
              refine v_goto (tgt := 102) hC dX7_serve_360 (by decide) ?_
              subst hjn
              exact v_forget_6 (v_forget_7 (v_forget_8 (v_forget_11 ih0)))
            · refine v_iload_11 hC dX7_serve_288 ?_
              refine v_bipush hC dX7_serve_290 bp_24 ?_
              refine v_icge (tgt := 333) hC dX7_serve_292 (by decide) (fun h292 => absurd h292 (nI_ge (by omega) (by omega))) (fun h292 => ?_)
              refine v_aload_0 hC dX7_serve_295 ?_
              refine v_iload_7 hC dX7_serve_296 ?_
              refine v_iload_11 hC dX7_serve_298 ?_
              refine v_cv2r hC lX7_105 ⟨by decide, 7, _, rfl, rfl, fun _ _ _ => ⟨_, rfl⟩⟩ (k_X7_sign (by omega) (by omega)) ⟨Nat.le_of_ble_eq_true rfl, Nat.le_of_ble_eq_true rfl, rfl, rfl⟩ (Nat.le_of_ble_eq_true rfl) dX7_serve_300 ?_
              refine v_ifeq (tgt := 327) hC dX7_serve_303 (by decide) (fun h303 => ?_) (fun h303 => ?_)
              · refine v_iinc1_11 hC (by decide) rfl dX7_serve_327 ?_
                refine v_goto (tgt := 288) hC dX7_serve_330 (by decide) ?_
                exact v_world rfl (if_pos h303).symm ih
              · refine v_aload_0 hC dX7_serve_306 ?_
                refine v_get hC fX7_7 (by decide) rfl rfl dX7_serve_307 ?_
                refine v_bipush hC dX7_serve_310 bp_50 ?_
                refine v_bipush hC dX7_serve_312 bp_24 ?_
                refine v_iload_7 hC dX7_serve_314 ?_
                refine v_imulN hC dX7_serve_316 ?_
                refine v_iaddN hC dX7_serve_317 ?_
                refine v_iload_11 hC dX7_serve_318 ?_
                refine v_iaddN hC dX7_serve_320 ?_
                refine v_dup2 hC rfl rfl dX7_serve_321 ?_
                refine w_iald (k := 1) hC N_1 (by first | omega | (simp only [mcl, mRd]; omega)) dX7_serve_322 ?_
                refine v_iload_8 hC dX7_serve_323 ?_
                refine v_iadd hC dX7_serve_325 ?_
                refine w_iast (k := 1) hC N_1 (by first | omega | (simp only [mcl, mRd]; omega)) dX7_serve_326 ?_
                refine v_iinc1_11 hC (by decide) rfl dX7_serve_327 ?_
                refine v_goto (tgt := 288) hC dX7_serve_330 (by decide) ?_
                exact v_world rfl (if_neg h303).symm ih
  · refine v_iload_7 hC dX7_serve_114 ?_
    refine v_iload_2 hC dX7_serve_116 ?_
    refine v_icge (tgt := 161) hC dX7_serve_117 (by decide) (fun h117 => absurd h117 (nI_ge hd (by omega))) (fun h117 => ?_)
    refine v_iload_3 hC dX7_serve_120 ?_
    refine v_iload_7 hC dX7_serve_121 ?_
    refine v_ishr hC dX7_serve_123 ?_
    refine v_iconst hC dX7_serve_124 ic_1 ?_
    refine v_iand hC dX7_serve_125 ?_
    refine v_ifne (tgt := 155) hC dX7_serve_126 (by decide) (fun h126 => ?_) (fun h126 => ?_)
    · refine v_iinc1_7 hC (by decide) rfl dX7_serve_155 ?_
      refine v_goto (tgt := 114) hC dX7_serve_158 (by decide) ?_
      exact v_leq_6 (if_neg (fun q => h126 ((sh_bit hD (by omega)).mpr q.1))).symm ih
    · refine v_iload_6 hC dX7_serve_129 ?_
      refine v_iflt (tgt := 151) hC dX7_serve_131 (by decide) (fun h131 => ?_) (fun h131 => ?_)
      · refine v_iload_7 hC dX7_serve_151 ?_
        refine v_istore_6 hC (by decide) rfl dX7_serve_153 ?_
        refine v_iinc1_7 hC (by decide) rfl dX7_serve_155 ?_
        refine v_goto (tgt := 114) hC dX7_serve_158 (by decide) ?_
        exact v_leq_6 (if_pos ⟨(sh_bit hD (by omega)).mp h126, Or.inl h131⟩).symm ih
      · refine v_aload_0 hC dX7_serve_134 ?_
        refine v_iload_7 hC dX7_serve_135 ?_
        refine v_iconst hC dX7_serve_137 ic_1 ?_
        refine v_cv2r hC lX7_132 ⟨by decide, 7, _, rfl, rfl, fun _ _ _ => ⟨_, rfl⟩⟩ (k_X7_licenceOf (by omega) (by omega)) ⟨Nat.le_of_ble_eq_true rfl, Nat.le_of_ble_eq_true rfl, rfl, rfl⟩ (Nat.le_of_ble_eq_true rfl) dX7_serve_138 ?_
        refine v_aload_0 hC dX7_serve_141 ?_
        refine v_iload_6 hC dX7_serve_142 ?_
        refine v_top (nI_self h131) ?_
        have hx10 := nx_10 (μ := τ) (D := D) (n := d) (by omega)
        refine v_iconst hC dX7_serve_144 ic_1 ?_
        refine v_cv2r hC lX7_132 ⟨by decide, 7, _, rfl, rfl, fun _ _ _ => ⟨_, rfl⟩⟩ (k_X7_licenceOf (by omega) (by omega)) ⟨Nat.le_of_ble_eq_true rfl, Nat.le_of_ble_eq_true rfl, rfl, rfl⟩ (Nat.le_of_ble_eq_true rfl) dX7_serve_145 ?_
        refine v_icge (tgt := 155) hC dX7_serve_148 (by decide) (fun h148 => ?_) (fun h148 => ?_)
        · refine v_iinc1_7 hC (by decide) rfl dX7_serve_155 ?_
          refine v_goto (tgt := 114) hC dX7_serve_158 (by decide) ?_
          exact v_leq_6 (if_neg (fun q => q.2.elim h131 (fun z => absurd z (Int32.not_lt.mpr h148)))).symm ih
        · refine v_iload_7 hC dX7_serve_151 ?_
          refine v_istore_6 hC (by decide) rfl dX7_serve_153 ?_
          refine v_iinc1_7 hC (by decide) rfl dX7_serve_155 ?_
          refine v_goto (tgt := 114) hC dX7_serve_158 (by decide) ?_
          exact v_leq_6 (if_pos ⟨(sh_bit hD (by omega)).mp h126, Or.inr (Int32.not_le.mp h148)⟩).symm ih
