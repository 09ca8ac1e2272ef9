set_option maxRecDepth 100000 in
theorem ini_X0 : Cond.initialized RX0 ∈ gT := mem_gT 72 (by decide +kernel) (by decide +kernel)
set_option maxRecDepth 100000 in
theorem ini_X1 : Cond.initialized RX1 ∈ gT := mem_gT 73 (by decide +kernel) (by decide +kernel)
set_option maxRecDepth 100000 in
theorem ini_X2 : Cond.initialized RX2 ∈ gT := mem_gT 74 (by decide +kernel) (by decide +kernel)
set_option maxRecDepth 100000 in
theorem ini_X3 : Cond.initialized RX3 ∈ gT := mem_gT 71 (by decide +kernel) (by decide +kernel)
set_option maxRecDepth 100000 in
theorem ini_X4 : Cond.initialized RX4 ∈ gT := mem_gT 69 (by decide +kernel) (by decide +kernel)
set_option maxRecDepth 100000 in
theorem ini_X5 : Cond.initialized RX5 ∈ gT := mem_gT 70 (by decide +kernel) (by decide +kernel)
set_option maxRecDepth 100000 in
theorem ini_X6 : Cond.initialized RX6 ∈ gT := mem_gT 68 (by decide +kernel) (by decide +kernel)
set_option maxRecDepth 100000 in
theorem ini_X7 : Cond.initialized RX7 ∈ gT := mem_gT 75 (by decide +kernel) (by decide +kernel)
set_option maxRecDepth 100000 in
theorem ini_Math : Cond.initialized "java/lang/Math" ∈ gT := mem_gT 76 (by decide +kernel) (by decide +kernel)
set_option maxRecDepth 100000 in
theorem ini_System : Cond.initialized "java/lang/System" ∈ gT := mem_gT 77 (by decide +kernel) (by decide +kernel)
set_option maxRecDepth 100000 in
theorem st_max : Cond.static Lib.Math.max.name ∈ gT := mem_gT 332 (by decide +kernel) (by decide +kernel)
set_option maxRecDepth 100000 in
theorem co_max : Cond.code Lib.Math.max.name Lib.Math.max.code 2 (some .int) ∈ gT := mem_gT 333 (by decide +kernel) (by decide +kernel)
set_option maxRecDepth 100000 in
theorem st_min : Cond.static Lib.Math.min.name ∈ gT := mem_gT 335 (by decide +kernel) (by decide +kernel)
set_option maxRecDepth 100000 in
theorem co_min : Cond.code Lib.Math.min.name Lib.Math.min.code 2 (some .int) ∈ gT := mem_gT 336 (by decide +kernel) (by decide +kernel)
set_option maxRecDepth 100000 in
theorem st_abs : Cond.static Lib.Math.abs.name ∈ gT := mem_gT 329 (by decide +kernel) (by decide +kernel)
set_option maxRecDepth 100000 in
theorem co_abs : Cond.code Lib.Math.abs.name Lib.Math.abs.code 1 (some .int) ∈ gT := mem_gT 330 (by decide +kernel) (by decide +kernel)
set_option maxRecDepth 100000 in
theorem st_acopy : Cond.static arraycopyName ∈ gT := mem_gT 402 (by decide +kernel) (by decide +kernel)
set_option maxRecDepth 100000 in
theorem na_acopy : Cond.native arraycopyName ∈ gT := mem_gT 403 (by decide +kernel) (by decide +kernel)
abbrev MX0_add : MT := (yX0_add, cX0_add, 5, (some .int), { frames := 0, cells := 0, slots := 0, locals := 0 })
set_option maxRecDepth 100000 in
theorem ok_X0_add : okM MX0_add 3 := ⟨ini_X0, mem_gT 557 rfl (by decide +kernel), (by decide +kernel)⟩
set_option maxRecDepth 100000 in
theorem im_X0_add : Cond.instanceMethod yX0_add ∈ gT := mem_gT 556 (by decide +kernel) (by decide +kernel)
set_option maxRecDepth 100000 in
theorem se_X0_add : Cond.selects yX0_add.cls yX0_add yX0_add ∈ gT := mem_gT 28 (by decide +kernel) (by decide +kernel)
abbrev MX0_nextUnserved : MT := (yX0_nextUnserved, cX0_nextUnserved, 3, (some .int), { frames := 0, cells := 0, slots := 0, locals := 0 })
set_option maxRecDepth 100000 in
theorem ok_X0_nextUnserved : okM MX0_nextUnserved 0 := ⟨ini_X0, mem_gT 570 rfl (by decide +kernel), (by decide +kernel)⟩
set_option maxRecDepth 100000 in
theorem im_X0_nextUnserved : Cond.instanceMethod yX0_nextUnserved ∈ gT := mem_gT 569 (by decide +kernel) (by decide +kernel)
set_option maxRecDepth 100000 in
theorem se_X0_nextUnserved : Cond.selects yX0_nextUnserved.cls yX0_nextUnserved yX0_nextUnserved ∈ gT := mem_gT 30 (by decide +kernel) (by decide +kernel)
abbrev MX0_take : MT := (yX0_take, cX0_take, 2, none, { frames := 2, cells := 0, slots := 0, locals := 47 })
set_option maxRecDepth 100000 in
theorem ok_X0_take : okM MX0_take 1 := ⟨ini_X0, mem_gT 673 rfl (by decide +kernel), (by decide +kernel)⟩
set_option maxRecDepth 100000 in
theorem im_X0_take : Cond.instanceMethod yX0_take ∈ gT := mem_gT 672 (by decide +kernel) (by decide +kernel)
set_option maxRecDepth 100000 in
theorem se_X0_take : Cond.selects yX0_take.cls yX0_take yX0_take ∈ gT := mem_gT 45 (by decide +kernel) (by decide +kernel)
abbrev MX1_has : MT := (yX1_has, cX1_has, 3, (some .boolean), { frames := 0, cells := 0, slots := 0, locals := 0 })
set_option maxRecDepth 100000 in
theorem ok_X1_has : okM MX1_has 2 := ⟨ini_X1, mem_gT 613 rfl (by decide +kernel), (by decide +kernel)⟩
set_option maxRecDepth 100000 in
theorem im_X1_has : Cond.instanceMethod yX1_has ∈ gT := mem_gT 612 (by decide +kernel) (by decide +kernel)
set_option maxRecDepth 100000 in
theorem se_X1_has : Cond.selects yX1_has.cls yX1_has yX1_has ∈ gT := mem_gT 36 (by decide +kernel) (by decide +kernel)
abbrev MX1_at : MT := (yX1_at, cX1_at, 3, (some .int), { frames := 0, cells := 0, slots := 0, locals := 0 })
set_option maxRecDepth 100000 in
theorem ok_X1_at : okM MX1_at 2 := ⟨ini_X1, mem_gT 626 rfl (by decide +kernel), (by decide +kernel)⟩
set_option maxRecDepth 100000 in
theorem im_X1_at : Cond.instanceMethod yX1_at ∈ gT := mem_gT 625 (by decide +kernel) (by decide +kernel)
set_option maxRecDepth 100000 in
theorem se_X1_at : Cond.selects yX1_at.cls yX1_at yX1_at ∈ gT := mem_gT 38 (by decide +kernel) (by decide +kernel)
abbrev MX1_write : MT := (yX1_write, cX1_write, 4, none, { frames := 1, cells := 0, slots := 0, locals := 22 })
set_option maxRecDepth 100000 in
theorem ok_X1_write : okM MX1_write 3 := ⟨ini_X1, mem_gT 617 rfl (by decide +kernel), (by decide +kernel)⟩
set_option maxRecDepth 100000 in
theorem im_X1_write : Cond.instanceMethod yX1_write ∈ gT := mem_gT 616 (by decide +kernel) (by decide +kernel)
set_option maxRecDepth 100000 in
theorem se_X1_write : Cond.selects yX1_write.cls yX1_write yX1_write ∈ gT := mem_gT 37 (by decide +kernel) (by decide +kernel)
abbrev MX1_take : MT := (yX1_take, cX1_take, 2, none, { frames := 2, cells := 0, slots := 0, locals := 47 })
set_option maxRecDepth 100000 in
theorem ok_X1_take : okM MX1_take 1 := ⟨ini_X1, mem_gT 678 rfl (by decide +kernel), (by decide +kernel)⟩
set_option maxRecDepth 100000 in
theorem im_X1_take : Cond.instanceMethod yX1_take ∈ gT := mem_gT 677 (by decide +kernel) (by decide +kernel)
set_option maxRecDepth 100000 in
theorem se_X1_take : Cond.selects yX1_take.cls yX1_take yX1_take ∈ gT := mem_gT 46 (by decide +kernel) (by decide +kernel)
abbrev MX2_isMissing : MT := (yX2_isMissing, cX2_isMissing, 1, (some .boolean), { frames := 0, cells := 0, slots := 0, locals := 0 })
set_option maxRecDepth 100000 in
theorem ok_X2_isMissing : okM MX2_isMissing 0 := ⟨ini_X2, mem_gT 381 rfl (by decide +kernel), (by decide +kernel)⟩
set_option maxRecDepth 100000 in
theorem im_X2_isMissing : Cond.instanceMethod yX2_isMissing ∈ gT := mem_gT 380 (by decide +kernel) (by decide +kernel)
set_option maxRecDepth 100000 in
theorem se_X2_isMissing : Cond.selects yX2_isMissing.cls yX2_isMissing yX2_isMissing ∈ gT := mem_gT 9 (by decide +kernel) (by decide +kernel)
abbrev MX2_start : MT := (yX2_start, cX2_start, 3, (some .int), { frames := 1, cells := 0, slots := 0, locals := 22 })
set_option maxRecDepth 100000 in
theorem ok_X2_start : okM MX2_start 2 := ⟨ini_X2, mem_gT 370 rfl (by decide +kernel), (by decide +kernel)⟩
set_option maxRecDepth 100000 in
theorem im_X2_start : Cond.instanceMethod yX2_start ∈ gT := mem_gT 369 (by decide +kernel) (by decide +kernel)
set_option maxRecDepth 100000 in
theorem se_X2_start : Cond.selects yX2_start.cls yX2_start yX2_start ∈ gT := mem_gT 8 (by decide +kernel) (by decide +kernel)
abbrev MX2_write : MT := (yX2_write, cX2_write, 3, none, { frames := 1, cells := 0, slots := 0, locals := 20 })
set_option maxRecDepth 100000 in
theorem ok_X2_write : okM MX2_write 2 := ⟨ini_X2, mem_gT 386 rfl (by decide +kernel), (by decide +kernel)⟩
set_option maxRecDepth 100000 in
theorem im_X2_write : Cond.instanceMethod yX2_write ∈ gT := mem_gT 385 (by decide +kernel) (by decide +kernel)
set_option maxRecDepth 100000 in
theorem se_X2_write : Cond.selects yX2_write.cls yX2_write yX2_write ∈ gT := mem_gT 10 (by decide +kernel) (by decide +kernel)
abbrev MX2_hasPart : MT := (yX2_hasPart, cX2_hasPart, 3, (some .boolean), { frames := 0, cells := 0, slots := 0, locals := 0 })
set_option maxRecDepth 100000 in
theorem ok_X2_hasPart : okM MX2_hasPart 2 := ⟨ini_X2, mem_gT 400 rfl (by decide +kernel), (by decide +kernel)⟩
set_option maxRecDepth 100000 in
theorem im_X2_hasPart : Cond.instanceMethod yX2_hasPart ∈ gT := mem_gT 399 (by decide +kernel) (by decide +kernel)
set_option maxRecDepth 100000 in
theorem se_X2_hasPart : Cond.selects yX2_hasPart.cls yX2_hasPart yX2_hasPart ∈ gT := mem_gT 11 (by decide +kernel) (by decide +kernel)
abbrev MX2_startsWithNumbers : MT := (yX2_startsWithNumbers, cX2_startsWithNumbers, 3, (some .boolean), { frames := 1, cells := 0, slots := 0, locals := 20 })
set_option maxRecDepth 100000 in
theorem ok_X2_startsWithNumbers : okM MX2_startsWithNumbers 1 := ⟨ini_X2, mem_gT 415 rfl (by decide +kernel), (by decide +kernel)⟩
set_option maxRecDepth 100000 in
theorem im_X2_startsWithNumbers : Cond.instanceMethod yX2_startsWithNumbers ∈ gT := mem_gT 414 (by decide +kernel) (by decide +kernel)
set_option maxRecDepth 100000 in
theorem se_X2_startsWithNumbers : Cond.selects yX2_startsWithNumbers.cls yX2_startsWithNumbers yX2_startsWithNumbers ∈ gT := mem_gT 12 (by decide +kernel) (by decide +kernel)
abbrev MX2_startsWithAmounts : MT := (yX2_startsWithAmounts, cX2_startsWithAmounts, 3, (some .boolean), { frames := 2, cells := 0, slots := 0, locals := 43 })
set_option maxRecDepth 100000 in
theorem ok_X2_startsWithAmounts : okM MX2_startsWithAmounts 1 := ⟨ini_X2, mem_gT 420 rfl (by decide +kernel), (by decide +kernel)⟩
set_option maxRecDepth 100000 in
theorem im_X2_startsWithAmounts : Cond.instanceMethod yX2_startsWithAmounts ∈ gT := mem_gT 419 (by decide +kernel) (by decide +kernel)
set_option maxRecDepth 100000 in
theorem se_X2_startsWithAmounts : Cond.selects yX2_startsWithAmounts.cls yX2_startsWithAmounts yX2_startsWithAmounts ∈ gT := mem_gT 13 (by decide +kernel) (by decide +kernel)
abbrev MX2_whole : MT := (yX2_whole, cX2_whole, 2, (some .int), { frames := 1, cells := 0, slots := 0, locals := 22 })
set_option maxRecDepth 100000 in
theorem ok_X2_whole : okM MX2_whole 1 := ⟨ini_X2, mem_gT 424 rfl (by decide +kernel), (by decide +kernel)⟩
set_option maxRecDepth 100000 in
theorem im_X2_whole : Cond.instanceMethod yX2_whole ∈ gT := mem_gT 423 (by decide +kernel) (by decide +kernel)
set_option maxRecDepth 100000 in
theorem se_X2_whole : Cond.selects yX2_whole.cls yX2_whole yX2_whole ∈ gT := mem_gT 14 (by decide +kernel) (by decide +kernel)
abbrev MX2_isNoNumber : MT := (yX2_isNoNumber, cX2_isNoNumber, 1, (some .boolean), { frames := 0, cells := 0, slots := 0, locals := 0 })
set_option maxRecDepth 100000 in
theorem ok_X2_isNoNumber : okM MX2_isNoNumber 1 := ⟨ini_X2, mem_gT 389 rfl (by decide +kernel), (by decide +kernel)⟩
set_option maxRecDepth 100000 in
theorem st_X2_isNoNumber : Cond.static yX2_isNoNumber ∈ gT := mem_gT 388 (by decide +kernel) (by decide +kernel)
abbrev MX2_cut : MT := (yX2_cut, cX2_cut, 3, (some .int), { frames := 0, cells := 0, slots := 0, locals := 0 })
set_option maxRecDepth 100000 in
theorem ok_X2_cut : okM MX2_cut 1 := ⟨ini_X2, mem_gT 427 rfl (by decide +kernel), (by decide +kernel)⟩
set_option maxRecDepth 100000 in
theorem st_X2_cut : Cond.static yX2_cut ∈ gT := mem_gT 426 (by decide +kernel) (by decide +kernel)
abbrev MX3_row : MT := (yX3_row, cX3_row, 2, (some .int), { frames := 0, cells := 0, slots := 0, locals := 0 })
set_option maxRecDepth 100000 in
theorem ok_X3_row : okM MX3_row 2 := ⟨ini_X3, mem_gT 136 rfl (by decide +kernel), (by decide +kernel)⟩
set_option maxRecDepth 100000 in
theorem st_X3_row : Cond.static yX3_row ∈ gT := mem_gT 135 (by decide +kernel) (by decide +kernel)
abbrev MX3_keepsOrder : MT := (yX3_keepsOrder, cX3_keepsOrder, 5, (some .boolean), { frames := 1, cells := 0, slots := 0, locals := 21 })
set_option maxRecDepth 100000 in
theorem ok_X3_keepsOrder : okM MX3_keepsOrder 4 := ⟨ini_X3, mem_gT 353 rfl (by decide +kernel), (by decide +kernel)⟩
set_option maxRecDepth 100000 in
theorem im_X3_keepsOrder : Cond.instanceMethod yX3_keepsOrder ∈ gT := mem_gT 352 (by decide +kernel) (by decide +kernel)
set_option maxRecDepth 100000 in
theorem se_X3_keepsOrder : Cond.selects yX3_keepsOrder.cls yX3_keepsOrder yX3_keepsOrder ∈ gT := mem_gT 7 (by decide +kernel) (by decide +kernel)
abbrev MX3_startTrial : MT := (yX3_startTrial, cX3_startTrial, 4, none, { frames := 1, cells := 0, slots := 0, locals := 21 })
set_option maxRecDepth 100000 in
theorem ok_X3_startTrial : okM MX3_startTrial 2 := ⟨ini_X3, mem_gT 634 rfl (by decide +kernel), (by decide +kernel)⟩
set_option maxRecDepth 100000 in
theorem im_X3_startTrial : Cond.instanceMethod yX3_startTrial ∈ gT := mem_gT 633 (by decide +kernel) (by decide +kernel)
set_option maxRecDepth 100000 in
theorem se_X3_startTrial : Cond.selects yX3_startTrial.cls yX3_startTrial yX3_startTrial ∈ gT := mem_gT 39 (by decide +kernel) (by decide +kernel)
abbrev MX3_tryFactor : MT := (yX3_tryFactor, cX3_tryFactor, 5, none, { frames := 1, cells := 0, slots := 0, locals := 21 })
set_option maxRecDepth 100000 in
theorem ok_X3_tryFactor : okM MX3_tryFactor 3 := ⟨ini_X3, mem_gT 638 rfl (by decide +kernel), (by decide +kernel)⟩
set_option maxRecDepth 100000 in
theorem im_X3_tryFactor : Cond.instanceMethod yX3_tryFactor ∈ gT := mem_gT 637 (by decide +kernel) (by decide +kernel)
set_option maxRecDepth 100000 in
theorem se_X3_tryFactor : Cond.selects yX3_tryFactor.cls yX3_tryFactor yX3_tryFactor ∈ gT := mem_gT 40 (by decide +kernel) (by decide +kernel)
abbrev MX3_take : MT := (yX3_take, cX3_take, 2, none, { frames := 2, cells := 0, slots := 0, locals := 47 })
set_option maxRecDepth 100000 in
theorem ok_X3_take : okM MX3_take 1 := ⟨ini_X3, mem_gT 668 rfl (by decide +kernel), (by decide +kernel)⟩
set_option maxRecDepth 100000 in
theorem im_X3_take : Cond.instanceMethod yX3_take ∈ gT := mem_gT 667 (by decide +kernel) (by decide +kernel)
set_option maxRecDepth 100000 in
theorem se_X3_take : Cond.selects yX3_take.cls yX3_take yX3_take ∈ gT := mem_gT 44 (by decide +kernel) (by decide +kernel)
abbrev MX4_drawOf : MT := (yX4_drawOf, cX4_drawOf, 3, (some .int), { frames := 0, cells := 0, slots := 0, locals := 0 })
set_option maxRecDepth 100000 in
theorem ok_X4_drawOf : okM MX4_drawOf 2 := ⟨ini_X4, mem_gT 319 rfl (by decide +kernel), (by decide +kernel)⟩
set_option maxRecDepth 100000 in
theorem im_X4_drawOf : Cond.instanceMethod yX4_drawOf ∈ gT := mem_gT 318 (by decide +kernel) (by decide +kernel)
set_option maxRecDepth 100000 in
theorem se_X4_drawOf : Cond.selects yX4_drawOf.cls yX4_drawOf yX4_drawOf ∈ gT := mem_gT 5 (by decide +kernel) (by decide +kernel)
abbrev MX4_setDraw : MT := (yX4_setDraw, cX4_setDraw, 4, none, { frames := 0, cells := 0, slots := 0, locals := 0 })
set_option maxRecDepth 100000 in
theorem ok_X4_setDraw : okM MX4_setDraw 3 := ⟨ini_X4, mem_gT 435 rfl (by decide +kernel), (by decide +kernel)⟩
set_option maxRecDepth 100000 in
theorem im_X4_setDraw : Cond.instanceMethod yX4_setDraw ∈ gT := mem_gT 434 (by decide +kernel) (by decide +kernel)
set_option maxRecDepth 100000 in
theorem se_X4_setDraw : Cond.selects yX4_setDraw.cls yX4_setDraw yX4_setDraw ∈ gT := mem_gT 15 (by decide +kernel) (by decide +kernel)
abbrev MX4_sumOfDraws : MT := (yX4_sumOfDraws, cX4_sumOfDraws, 4, (some .int), { frames := 1, cells := 0, slots := 0, locals := 22 })
set_option maxRecDepth 100000 in
theorem ok_X4_sumOfDraws : okM MX4_sumOfDraws 1 := ⟨ini_X4, mem_gT 315 rfl (by decide +kernel), (by decide +kernel)⟩
set_option maxRecDepth 100000 in
theorem im_X4_sumOfDraws : Cond.instanceMethod yX4_sumOfDraws ∈ gT := mem_gT 314 (by decide +kernel) (by decide +kernel)
set_option maxRecDepth 100000 in
theorem se_X4_sumOfDraws : Cond.selects yX4_sumOfDraws.cls yX4_sumOfDraws yX4_sumOfDraws ∈ gT := mem_gT 4 (by decide +kernel) (by decide +kernel)
abbrev MX4_counted : MT := (yX4_counted, cX4_counted, 3, (some .int), { frames := 1, cells := 0, slots := 0, locals := 22 })
set_option maxRecDepth 100000 in
theorem ok_X4_counted : okM MX4_counted 2 := ⟨ini_X4, mem_gT 448 rfl (by decide +kernel), (by decide +kernel)⟩
set_option maxRecDepth 100000 in
theorem im_X4_counted : Cond.instanceMethod yX4_counted ∈ gT := mem_gT 447 (by decide +kernel) (by decide +kernel)
set_option maxRecDepth 100000 in
theorem se_X4_counted : Cond.selects yX4_counted.cls yX4_counted yX4_counted ∈ gT := mem_gT 16 (by decide +kernel) (by decide +kernel)
abbrev MX4_rowBetween : MT := (yX4_rowBetween, cX4_rowBetween, 3, (some .int), { frames := 2, cells := 0, slots := 0, locals := 44 })
set_option maxRecDepth 100000 in
theorem ok_X4_rowBetween : okM MX4_rowBetween 2 := ⟨ini_X4, mem_gT 484 rfl (by decide +kernel), (by decide +kernel)⟩
set_option maxRecDepth 100000 in
theorem im_X4_rowBetween : Cond.instanceMethod yX4_rowBetween ∈ gT := mem_gT 483 (by decide +kernel) (by decide +kernel)
set_option maxRecDepth 100000 in
theorem se_X4_rowBetween : Cond.selects yX4_rowBetween.cls yX4_rowBetween yX4_rowBetween ∈ gT := mem_gT 21 (by decide +kernel) (by decide +kernel)
abbrev MX4_lowering : MT := (yX4_lowering, cX4_lowering, 8, (some .int), { frames := 3, cells := 0, slots := 0, locals := 66 })
set_option maxRecDepth 100000 in
theorem ok_X4_lowering : okM MX4_lowering 4 := ⟨ini_X4, mem_gT 480 rfl (by decide +kernel), (by decide +kernel)⟩
set_option maxRecDepth 100000 in
theorem im_X4_lowering : Cond.instanceMethod yX4_lowering ∈ gT := mem_gT 479 (by decide +kernel) (by decide +kernel)
set_option maxRecDepth 100000 in
theorem se_X4_lowering : Cond.selects yX4_lowering.cls yX4_lowering yX4_lowering ∈ gT := mem_gT 20 (by decide +kernel) (by decide +kernel)
abbrev MX4_loweringOfOneMore : MT := (yX4_loweringOfOneMore, cX4_loweringOfOneMore, 8, (some .int), { frames := 3, cells := 0, slots := 0, locals := 66 })
set_option maxRecDepth 100000 in
theorem ok_X4_loweringOfOneMore : okM MX4_loweringOfOneMore 4 := ⟨ini_X4, mem_gT 547 rfl (by decide +kernel), (by decide +kernel)⟩
set_option maxRecDepth 100000 in
theorem im_X4_loweringOfOneMore : Cond.instanceMethod yX4_loweringOfOneMore ∈ gT := mem_gT 546 (by decide +kernel) (by decide +kernel)
set_option maxRecDepth 100000 in
theorem se_X4_loweringOfOneMore : Cond.selects yX4_loweringOfOneMore.cls yX4_loweringOfOneMore yX4_loweringOfOneMore ∈ gT := mem_gT 27 (by decide +kernel) (by decide +kernel)
abbrev MX4_raisedByRain : MT := (yX4_raisedByRain, cX4_raisedByRain, 4, (some .int), { frames := 1, cells := 0, slots := 0, locals := 21 })
set_option maxRecDepth 100000 in
theorem ok_X4_raisedByRain : okM MX4_raisedByRain 1 := ⟨ini_X4, mem_gT 475 rfl (by decide +kernel), (by decide +kernel)⟩
set_option maxRecDepth 100000 in
theorem im_X4_raisedByRain : Cond.instanceMethod yX4_raisedByRain ∈ gT := mem_gT 474 (by decide +kernel) (by decide +kernel)
set_option maxRecDepth 100000 in
theorem se_X4_raisedByRain : Cond.selects yX4_raisedByRain.cls yX4_raisedByRain yX4_raisedByRain ∈ gT := mem_gT 19 (by decide +kernel) (by decide +kernel)
abbrev MX4_headOf : MT := (yX4_headOf, cX4_headOf, 5, (some .int), { frames := 4, cells := 0, slots := 0, locals := 93 })
set_option maxRecDepth 100000 in
theorem ok_X4_headOf : okM MX4_headOf 2 := ⟨ini_X4, mem_gT 471 rfl (by decide +kernel), (by decide +kernel)⟩
set_option maxRecDepth 100000 in
theorem im_X4_headOf : Cond.instanceMethod yX4_headOf ∈ gT := mem_gT 470 (by decide +kernel) (by decide +kernel)
set_option maxRecDepth 100000 in
theorem se_X4_headOf : Cond.selects yX4_headOf.cls yX4_headOf yX4_headOf ∈ gT := mem_gT 18 (by decide +kernel) (by decide +kernel)
abbrev MX4_aboveLimit : MT := (yX4_aboveLimit, cX4_aboveLimit, 3, (some .int), { frames := 5, cells := 0, slots := 0, locals := 117 })
set_option maxRecDepth 100000 in
theorem ok_X4_aboveLimit : okM MX4_aboveLimit 2 := ⟨ini_X4, mem_gT 513 rfl (by decide +kernel), (by decide +kernel)⟩
set_option maxRecDepth 100000 in
theorem im_X4_aboveLimit : Cond.instanceMethod yX4_aboveLimit ∈ gT := mem_gT 512 (by decide +kernel) (by decide +kernel)
set_option maxRecDepth 100000 in
theorem se_X4_aboveLimit : Cond.selects yX4_aboveLimit.cls yX4_aboveLimit yX4_aboveLimit ∈ gT := mem_gT 23 (by decide +kernel) (by decide +kernel)
abbrev MX4_findSpare : MT := (yX4_findSpare, cX4_findSpare, 4, none, { frames := 5, cells := 0, slots := 0, locals := 117 })
set_option maxRecDepth 100000 in
theorem ok_X4_findSpare : okM MX4_findSpare 1 := ⟨ini_X4, mem_gT 534 rfl (by decide +kernel), (by decide +kernel)⟩
set_option maxRecDepth 100000 in
theorem im_X4_findSpare : Cond.instanceMethod yX4_findSpare ∈ gT := mem_gT 533 (by decide +kernel) (by decide +kernel)
set_option maxRecDepth 100000 in
theorem se_X4_findSpare : Cond.selects yX4_findSpare.cls yX4_findSpare yX4_findSpare ∈ gT := mem_gT 24 (by decide +kernel) (by decide +kernel)
abbrev MX4_useSpare : MT := (yX4_useSpare, cX4_useSpare, 6, none, { frames := 4, cells := 0, slots := 0, locals := 93 })
set_option maxRecDepth 100000 in
theorem ok_X4_useSpare : okM MX4_useSpare 3 := ⟨ini_X4, mem_gT 582 rfl (by decide +kernel), (by decide +kernel)⟩
set_option maxRecDepth 100000 in
theorem im_X4_useSpare : Cond.instanceMethod yX4_useSpare ∈ gT := mem_gT 581 (by decide +kernel) (by decide +kernel)
set_option maxRecDepth 100000 in
theorem se_X4_useSpare : Cond.selects yX4_useSpare.cls yX4_useSpare yX4_useSpare ∈ gT := mem_gT 33 (by decide +kernel) (by decide +kernel)
abbrev MX4_freeOf : MT := (yX4_freeOf, cX4_freeOf, 7, (some .int), { frames := 4, cells := 0, slots := 0, locals := 93 })
set_option maxRecDepth 100000 in
theorem ok_X4_freeOf : okM MX4_freeOf 2 := ⟨ini_X4, mem_gT 538 rfl (by decide +kernel), (by decide +kernel)⟩
set_option maxRecDepth 100000 in
theorem im_X4_freeOf : Cond.instanceMethod yX4_freeOf ∈ gT := mem_gT 537 (by decide +kernel) (by decide +kernel)
set_option maxRecDepth 100000 in
theorem se_X4_freeOf : Cond.selects yX4_freeOf.cls yX4_freeOf yX4_freeOf ∈ gT := mem_gT 25 (by decide +kernel) (by decide +kernel)
abbrev MX4_unserve : MT := (yX4_unserve, cX4_unserve, 4, none, { frames := 1, cells := 0, slots := 0, locals := 23 })
set_option maxRecDepth 100000 in
theorem ok_X4_unserve : okM MX4_unserve 1 := ⟨ini_X4, mem_gT 565 rfl (by decide +kernel), (by decide +kernel)⟩
set_option maxRecDepth 100000 in
theorem im_X4_unserve : Cond.instanceMethod yX4_unserve ∈ gT := mem_gT 564 (by decide +kernel) (by decide +kernel)
set_option maxRecDepth 100000 in
theorem se_X4_unserve : Cond.selects yX4_unserve.cls yX4_unserve yX4_unserve ∈ gT := mem_gT 29 (by decide +kernel) (by decide +kernel)
abbrev MX4_grant : MT := (yX4_grant, cX4_grant, 7, (some .int), { frames := 5, cells := 0, slots := 0, locals := 118 })
set_option maxRecDepth 100000 in
theorem ok_X4_grant : okM MX4_grant 3 := ⟨ini_X4, mem_gT 574 rfl (by decide +kernel), (by decide +kernel)⟩
set_option maxRecDepth 100000 in
theorem im_X4_grant : Cond.instanceMethod yX4_grant ∈ gT := mem_gT 573 (by decide +kernel) (by decide +kernel)
set_option maxRecDepth 100000 in
theorem se_X4_grant : Cond.selects yX4_grant.cls yX4_grant yX4_grant ∈ gT := mem_gT 31 (by decide +kernel) (by decide +kernel)
abbrev MX4_roomForDraws : MT := (yX4_roomForDraws, cX4_roomForDraws, 5, (some .int), { frames := 1, cells := 0, slots := 0, locals := 22 })
set_option maxRecDepth 100000 in
theorem ok_X4_roomForDraws : okM MX4_roomForDraws 2 := ⟨ini_X4, mem_gT 578 rfl (by decide +kernel), (by decide +kernel)⟩
set_option maxRecDepth 100000 in
theorem im_X4_roomForDraws : Cond.instanceMethod yX4_roomForDraws ∈ gT := mem_gT 577 (by decide +kernel) (by decide +kernel)
set_option maxRecDepth 100000 in
theorem se_X4_roomForDraws : Cond.selects yX4_roomForDraws.cls yX4_roomForDraws yX4_roomForDraws ∈ gT := mem_gT 32 (by decide +kernel) (by decide +kernel)
abbrev MX4_leastToHold : MT := (yX4_leastToHold, cX4_leastToHold, 6, (some .int), { frames := 5, cells := 0, slots := 0, locals := 117 })
set_option maxRecDepth 100000 in
theorem ok_X4_leastToHold : okM MX4_leastToHold 3 := ⟨ini_X4, mem_gT 594 rfl (by decide +kernel), (by decide +kernel)⟩
set_option maxRecDepth 100000 in
theorem im_X4_leastToHold : Cond.instanceMethod yX4_leastToHold ∈ gT := mem_gT 593 (by decide +kernel) (by decide +kernel)
set_option maxRecDepth 100000 in
theorem se_X4_leastToHold : Cond.selects yX4_leastToHold.cls yX4_leastToHold yX4_leastToHold ∈ gT := mem_gT 34 (by decide +kernel) (by decide +kernel)
abbrev MX4_mostToMove : MT := (yX4_mostToMove, cX4_mostToMove, 12, (some .int), { frames := 3, cells := 0, slots := 0, locals := 66 })
set_option maxRecDepth 100000 in
theorem ok_X4_mostToMove : okM MX4_mostToMove 3 := ⟨ini_X4, mem_gT 602 rfl (by decide +kernel), (by decide +kernel)⟩
set_option maxRecDepth 100000 in
theorem im_X4_mostToMove : Cond.instanceMethod yX4_mostToMove ∈ gT := mem_gT 601 (by decide +kernel) (by decide +kernel)
set_option maxRecDepth 100000 in
theorem se_X4_mostToMove : Cond.selects yX4_mostToMove.cls yX4_mostToMove yX4_mostToMove ∈ gT := mem_gT 35 (by decide +kernel) (by decide +kernel)
abbrev MX4_sumOfSquares : MT := (yX4_sumOfSquares, cX4_sumOfSquares, 7, (some .long), { frames := 5, cells := 0, slots := 0, locals := 117 })
set_option maxRecDepth 100000 in
theorem ok_X4_sumOfSquares : okM MX4_sumOfSquares 0 := ⟨ini_X4, mem_gT 643 rfl (by decide +kernel), (by decide +kernel)⟩
set_option maxRecDepth 100000 in
theorem im_X4_sumOfSquares : Cond.instanceMethod yX4_sumOfSquares ∈ gT := mem_gT 642 (by decide +kernel) (by decide +kernel)
set_option maxRecDepth 100000 in
theorem se_X4_sumOfSquares : Cond.selects yX4_sumOfSquares.cls yX4_sumOfSquares yX4_sumOfSquares ∈ gT := mem_gT 41 (by decide +kernel) (by decide +kernel)
abbrev MX4_take : MT := (yX4_take, cX4_take, 2, none, { frames := 3, cells := 0, slots := 0, locals := 68 })
set_option maxRecDepth 100000 in
theorem ok_X4_take : okM MX4_take 1 := ⟨ini_X4, mem_gT 657 rfl (by decide +kernel), (by decide +kernel)⟩
set_option maxRecDepth 100000 in
theorem im_X4_take : Cond.instanceMethod yX4_take ∈ gT := mem_gT 656 (by decide +kernel) (by decide +kernel)
set_option maxRecDepth 100000 in
theorem se_X4_take : Cond.selects yX4_take.cls yX4_take yX4_take ∈ gT := mem_gT 42 (by decide +kernel) (by decide +kernel)
abbrev MX5_add : MT := (yX5_add, cX5_add, 6, (some .int), { frames := 0, cells := 0, slots := 0, locals := 0 })
set_option maxRecDepth 100000 in
theorem ok_X5_add : okM MX5_add 4 := ⟨ini_X5, mem_gT 289 rfl (by decide +kernel), (by decide +kernel)⟩
set_option maxRecDepth 100000 in
theorem im_X5_add : Cond.instanceMethod yX5_add ∈ gT := mem_gT 288 (by decide +kernel) (by decide +kernel)
set_option maxRecDepth 100000 in
theorem se_X5_add : Cond.selects yX5_add.cls yX5_add yX5_add ∈ gT := mem_gT 1 (by decide +kernel) (by decide +kernel)
abbrev MX5_isOneOf : MT := (yX5_isOneOf, cX5_isOneOf, 3, (some .boolean), { frames := 0, cells := 0, slots := 0, locals := 0 })
set_option maxRecDepth 100000 in
theorem ok_X5_isOneOf : okM MX5_isOneOf 2 := ⟨ini_X5, mem_gT 306 rfl (by decide +kernel), (by decide +kernel)⟩
set_option maxRecDepth 100000 in
theorem im_X5_isOneOf : Cond.instanceMethod yX5_isOneOf ∈ gT := mem_gT 305 (by decide +kernel) (by decide +kernel)
set_option maxRecDepth 100000 in
theorem se_X5_isOneOf : Cond.selects yX5_isOneOf.cls yX5_isOneOf yX5_isOneOf ∈ gT := mem_gT 3 (by decide +kernel) (by decide +kernel)
abbrev MX5_isDrawing : MT := (yX5_isDrawing, cX5_isDrawing, 2, (some .boolean), { frames := 0, cells := 0, slots := 0, locals := 0 })
set_option maxRecDepth 100000 in
theorem ok_X5_isDrawing : okM MX5_isDrawing 1 := ⟨ini_X5, mem_gT 542 rfl (by decide +kernel), (by decide +kernel)⟩
set_option maxRecDepth 100000 in
theorem im_X5_isDrawing : Cond.instanceMethod yX5_isDrawing ∈ gT := mem_gT 541 (by decide +kernel) (by decide +kernel)
set_option maxRecDepth 100000 in
theorem se_X5_isDrawing : Cond.selects yX5_isDrawing.cls yX5_isDrawing yX5_isDrawing ∈ gT := mem_gT 26 (by decide +kernel) (by decide +kernel)
abbrev MX5_isOwnMonth : MT := (yX5_isOwnMonth, cX5_isOwnMonth, 3, (some .boolean), { frames := 0, cells := 0, slots := 0, locals := 0 })
set_option maxRecDepth 100000 in
theorem ok_X5_isOwnMonth : okM MX5_isOwnMonth 2 := ⟨ini_X5, mem_gT 452 rfl (by decide +kernel), (by decide +kernel)⟩
set_option maxRecDepth 100000 in
theorem im_X5_isOwnMonth : Cond.instanceMethod yX5_isOwnMonth ∈ gT := mem_gT 451 (by decide +kernel) (by decide +kernel)
set_option maxRecDepth 100000 in
theorem se_X5_isOwnMonth : Cond.selects yX5_isOwnMonth.cls yX5_isOwnMonth yX5_isOwnMonth ∈ gT := mem_gT 17 (by decide +kernel) (by decide +kernel)
abbrev MX5_apart : MT := (yX5_apart, cX5_apart, 4, (some .int), { frames := 1, cells := 0, slots := 0, locals := 21 })
set_option maxRecDepth 100000 in
theorem ok_X5_apart : okM MX5_apart 2 := ⟨ini_X5, mem_gT 327 rfl (by decide +kernel), (by decide +kernel)⟩
set_option maxRecDepth 100000 in
theorem im_X5_apart : Cond.instanceMethod yX5_apart ∈ gT := mem_gT 326 (by decide +kernel) (by decide +kernel)
set_option maxRecDepth 100000 in
theorem se_X5_apart : Cond.selects yX5_apart.cls yX5_apart yX5_apart ∈ gT := mem_gT 6 (by decide +kernel) (by decide +kernel)
abbrev MX5_layer : MT := (yX5_layer, cX5_layer, 3, (some .int), { frames := 0, cells := 0, slots := 0, locals := 0 })
set_option maxRecDepth 100000 in
theorem ok_X5_layer : okM MX5_layer 2 := ⟨ini_X5, mem_gT 488 rfl (by decide +kernel), (by decide +kernel)⟩
set_option maxRecDepth 100000 in
theorem im_X5_layer : Cond.instanceMethod yX5_layer ∈ gT := mem_gT 487 (by decide +kernel) (by decide +kernel)
set_option maxRecDepth 100000 in
theorem se_X5_layer : Cond.selects yX5_layer.cls yX5_layer yX5_layer ∈ gT := mem_gT 22 (by decide +kernel) (by decide +kernel)
abbrev MX5_take : MT := (yX5_take, cX5_take, 2, none, { frames := 2, cells := 0, slots := 0, locals := 47 })
set_option maxRecDepth 100000 in
theorem ok_X5_take : okM MX5_take 1 := ⟨ini_X5, mem_gT 661 rfl (by decide +kernel), (by decide +kernel)⟩
set_option maxRecDepth 100000 in
theorem im_X5_take : Cond.instanceMethod yX5_take ∈ gT := mem_gT 660 (by decide +kernel) (by decide +kernel)
set_option maxRecDepth 100000 in
theorem se_X5_take : Cond.selects yX5_take.cls yX5_take yX5_take ∈ gT := mem_gT 43 (by decide +kernel) (by decide +kernel)
abbrev MX6_well : MT := (yX6_well, cX6_well, 5, (some .int), { frames := 2, cells := 0, slots := 0, locals := 42 })
set_option maxRecDepth 100000 in
theorem ok_X6_well : okM MX6_well 4 := ⟨ini_X6, mem_gT 265 rfl (by decide +kernel), (by decide +kernel)⟩
set_option maxRecDepth 100000 in
theorem im_X6_well : Cond.instanceMethod yX6_well ∈ gT := mem_gT 263 (by decide +kernel) (by decide +kernel)
set_option maxRecDepth 100000 in
theorem se_X6_well : Cond.selects yX6_well.cls yX6_well yX6_well ∈ gT := mem_gT 264 (by decide +kernel) (by decide +kernel)
abbrev MX6_limit : MT := (yX6_limit, cX6_limit, 4, (some .int), { frames := 2, cells := 0, slots := 0, locals := 43 })
set_option maxRecDepth 100000 in
theorem ok_X6_limit : okM MX6_limit 2 := ⟨ini_X6, mem_gT 294 rfl (by decide +kernel), (by decide +kernel)⟩
set_option maxRecDepth 100000 in
theorem im_X6_limit : Cond.instanceMethod yX6_limit ∈ gT := mem_gT 292 (by decide +kernel) (by decide +kernel)
set_option maxRecDepth 100000 in
theorem se_X6_limit : Cond.selects yX6_limit.cls yX6_limit yX6_limit ∈ gT := mem_gT 293 (by decide +kernel) (by decide +kernel)
abbrev MX6_as : MT := (yX6_as, cX6_as, 3, (some .int), { frames := 2, cells := 0, slots := 0, locals := 43 })
set_option maxRecDepth 100000 in
theorem ok_X6_as : okM MX6_as 2 := ⟨ini_X6, mem_gT 302 rfl (by decide +kernel), (by decide +kernel)⟩
set_option maxRecDepth 100000 in
theorem im_X6_as : Cond.instanceMethod yX6_as ∈ gT := mem_gT 300 (by decide +kernel) (by decide +kernel)
set_option maxRecDepth 100000 in
theorem se_X6_as : Cond.selects yX6_as.cls yX6_as yX6_as ∈ gT := mem_gT 301 (by decide +kernel) (by decide +kernel)
abbrev MX6_of : MT := (yX6_of, cX6_of, 3, (some .int), { frames := 2, cells := 0, slots := 0, locals := 45 })
set_option maxRecDepth 100000 in
theorem ok_X6_of : okM MX6_of 2 := ⟨ini_X6, mem_gT 311 rfl (by decide +kernel), (by decide +kernel)⟩
set_option maxRecDepth 100000 in
theorem im_X6_of : Cond.instanceMethod yX6_of ∈ gT := mem_gT 309 (by decide +kernel) (by decide +kernel)
set_option maxRecDepth 100000 in
theorem se_X6_of : Cond.selects yX6_of.cls yX6_of yX6_of ∈ gT := mem_gT 310 (by decide +kernel) (by decide +kernel)
abbrev MX6_distance : MT := (yX6_distance, cX6_distance, 3, (some .int), { frames := 2, cells := 0, slots := 0, locals := 44 })
set_option maxRecDepth 100000 in
theorem ok_X6_distance : okM MX6_distance 2 := ⟨ini_X6, mem_gT 323 rfl (by decide +kernel), (by decide +kernel)⟩
set_option maxRecDepth 100000 in
theorem im_X6_distance : Cond.instanceMethod yX6_distance ∈ gT := mem_gT 321 (by decide +kernel) (by decide +kernel)
set_option maxRecDepth 100000 in
theorem se_X6_distance : Cond.selects yX6_distance.cls yX6_distance yX6_distance ∈ gT := mem_gT 322 (by decide +kernel) (by decide +kernel)
abbrev MX6_table : MT := (yX6_table, cX6_table, 7, (some .int), { frames := 2, cells := 0, slots := 0, locals := 45 })
set_option maxRecDepth 100000 in
theorem ok_X6_table : okM MX6_table 4 := ⟨ini_X6, mem_gT 340 rfl (by decide +kernel), (by decide +kernel)⟩
set_option maxRecDepth 100000 in
theorem im_X6_table : Cond.instanceMethod yX6_table ∈ gT := mem_gT 338 (by decide +kernel) (by decide +kernel)
set_option maxRecDepth 100000 in
theorem se_X6_table : Cond.selects yX6_table.cls yX6_table yX6_table ∈ gT := mem_gT 339 (by decide +kernel) (by decide +kernel)
abbrev MX6_rainTable : MT := (yX6_rainTable, cX6_rainTable, 4, (some .int), { frames := 2, cells := 0, slots := 0, locals := 42 })
set_option maxRecDepth 100000 in
theorem ok_X6_rainTable : okM MX6_rainTable 2 := ⟨ini_X6, mem_gT 359 rfl (by decide +kernel), (by decide +kernel)⟩
set_option maxRecDepth 100000 in
theorem im_X6_rainTable : Cond.instanceMethod yX6_rainTable ∈ gT := mem_gT 357 (by decide +kernel) (by decide +kernel)
set_option maxRecDepth 100000 in
theorem se_X6_rainTable : Cond.selects yX6_rainTable.cls yX6_rainTable yX6_rainTable ∈ gT := mem_gT 358 (by decide +kernel) (by decide +kernel)
abbrev MX6_sheet : MT := (yX6_sheet, cX6_sheet, 4, (some .int), { frames := 2, cells := 0, slots := 0, locals := 44 })
set_option maxRecDepth 100000 in
theorem ok_X6_sheet : okM MX6_sheet 3 := ⟨ini_X6, mem_gT 363 rfl (by decide +kernel), (by decide +kernel)⟩
set_option maxRecDepth 100000 in
theorem im_X6_sheet : Cond.instanceMethod yX6_sheet ∈ gT := mem_gT 361 (by decide +kernel) (by decide +kernel)
set_option maxRecDepth 100000 in
theorem se_X6_sheet : Cond.selects yX6_sheet.cls yX6_sheet yX6_sheet ∈ gT := mem_gT 362 (by decide +kernel) (by decide +kernel)
abbrev MX6_put : MT := (yX6_put, cX6_put, 4, (some .int), { frames := 2, cells := 0, slots := 0, locals := 42 })
set_option maxRecDepth 100000 in
theorem ok_X6_put : okM MX6_put 3 := ⟨ini_X6, mem_gT 377 rfl (by decide +kernel), (by decide +kernel)⟩
set_option maxRecDepth 100000 in
theorem im_X6_put : Cond.instanceMethod yX6_put ∈ gT := mem_gT 375 (by decide +kernel) (by decide +kernel)
set_option maxRecDepth 100000 in
theorem se_X6_put : Cond.selects yX6_put.cls yX6_put yX6_put ∈ gT := mem_gT 376 (by decide +kernel) (by decide +kernel)
abbrev MX6_copy : MT := (yX6_copy, cX6_copy, 6, (some .int), { frames := 2, cells := 0, slots := 0, locals := 42 })
set_option maxRecDepth 100000 in
theorem ok_X6_copy : okM MX6_copy 5 := ⟨ini_X6, mem_gT 396 rfl (by decide +kernel), (by decide +kernel)⟩
set_option maxRecDepth 100000 in
theorem im_X6_copy : Cond.instanceMethod yX6_copy ∈ gT := mem_gT 394 (by decide +kernel) (by decide +kernel)
set_option maxRecDepth 100000 in
theorem se_X6_copy : Cond.selects yX6_copy.cls yX6_copy yX6_copy ∈ gT := mem_gT 395 (by decide +kernel) (by decide +kernel)
abbrev MX6_draws : MT := (yX6_draws, cX6_draws, 7, (some .int), { frames := 3, cells := 0, slots := 0, locals := 65 })
set_option maxRecDepth 100000 in
theorem ok_X6_draws : okM MX6_draws 3 := ⟨ini_X6, mem_gT 407 rfl (by decide +kernel), (by decide +kernel)⟩
set_option maxRecDepth 100000 in
theorem im_X6_draws : Cond.instanceMethod yX6_draws ∈ gT := mem_gT 405 (by decide +kernel) (by decide +kernel)
set_option maxRecDepth 100000 in
theorem se_X6_draws : Cond.selects yX6_draws.cls yX6_draws yX6_draws ∈ gT := mem_gT 406 (by decide +kernel) (by decide +kernel)
abbrev MX6_draw : MT := (yX6_draw, cX6_draw, 5, (some .int), { frames := 2, cells := 0, slots := 0, locals := 43 })
set_option maxRecDepth 100000 in
theorem ok_X6_draw : okM MX6_draw 3 := ⟨ini_X6, mem_gT 439 rfl (by decide +kernel), (by decide +kernel)⟩
set_option maxRecDepth 100000 in
theorem im_X6_draw : Cond.instanceMethod yX6_draw ∈ gT := mem_gT 437 (by decide +kernel) (by decide +kernel)
set_option maxRecDepth 100000 in
theorem se_X6_draw : Cond.selects yX6_draw.cls yX6_draw yX6_draw ∈ gT := mem_gT 438 (by decide +kernel) (by decide +kernel)
abbrev MX6_counts : MT := (yX6_counts, cX6_counts, 3, (some .int), { frames := 2, cells := 0, slots := 0, locals := 44 })
set_option maxRecDepth 100000 in
theorem ok_X6_counts : okM MX6_counts 2 := ⟨ini_X6, mem_gT 444 rfl (by decide +kernel), (by decide +kernel)⟩
set_option maxRecDepth 100000 in
theorem im_X6_counts : Cond.instanceMethod yX6_counts ∈ gT := mem_gT 442 (by decide +kernel) (by decide +kernel)
set_option maxRecDepth 100000 in
theorem se_X6_counts : Cond.selects yX6_counts.cls yX6_counts yX6_counts ∈ gT := mem_gT 443 (by decide +kernel) (by decide +kernel)
abbrev MX6_rain : MT := (yX6_rain, cX6_rain, 4, (some .int), { frames := 2, cells := 0, slots := 0, locals := 42 })
set_option maxRecDepth 100000 in
theorem ok_X6_rain : okM MX6_rain 2 := ⟨ini_X6, mem_gT 458 rfl (by decide +kernel), (by decide +kernel)⟩
set_option maxRecDepth 100000 in
theorem im_X6_rain : Cond.instanceMethod yX6_rain ∈ gT := mem_gT 456 (by decide +kernel) (by decide +kernel)
set_option maxRecDepth 100000 in
theorem se_X6_rain : Cond.selects yX6_rain.cls yX6_rain yX6_rain ∈ gT := mem_gT 457 (by decide +kernel) (by decide +kernel)
abbrev MX6_dry : MT := (yX6_dry, cX6_dry, 1, (some .int), { frames := 1, cells := 0, slots := 0, locals := 22 })
set_option maxRecDepth 100000 in
theorem ok_X6_dry : okM MX6_dry 0 := ⟨ini_X6, mem_gT 462 rfl (by decide +kernel), (by decide +kernel)⟩
set_option maxRecDepth 100000 in
theorem im_X6_dry : Cond.instanceMethod yX6_dry ∈ gT := mem_gT 460 (by decide +kernel) (by decide +kernel)
set_option maxRecDepth 100000 in
theorem se_X6_dry : Cond.selects yX6_dry.cls yX6_dry yX6_dry ∈ gT := mem_gT 461 (by decide +kernel) (by decide +kernel)
abbrev MX6_head : MT := (yX6_head, cX6_head, 3, (some .int), { frames := 5, cells := 0, slots := 0, locals := 117 })
set_option maxRecDepth 100000 in
theorem ok_X6_head : okM MX6_head 2 := ⟨ini_X6, mem_gT 467 rfl (by decide +kernel), (by decide +kernel)⟩
set_option maxRecDepth 100000 in
theorem im_X6_head : Cond.instanceMethod yX6_head ∈ gT := mem_gT 465 (by decide +kernel) (by decide +kernel)
set_option maxRecDepth 100000 in
theorem se_X6_head : Cond.selects yX6_head.cls yX6_head yX6_head ∈ gT := mem_gT 466 (by decide +kernel) (by decide +kernel)
abbrev MX6_by : MT := (yX6_by, cX6_by, 4, (some .int), { frames := 4, cells := 0, slots := 0, locals := 93 })
set_option maxRecDepth 100000 in
theorem ok_X6_by : okM MX6_by 3 := ⟨ini_X6, mem_gT 494 rfl (by decide +kernel), (by decide +kernel)⟩
set_option maxRecDepth 100000 in
theorem im_X6_by : Cond.instanceMethod yX6_by ∈ gT := mem_gT 492 (by decide +kernel) (by decide +kernel)
set_option maxRecDepth 100000 in
theorem se_X6_by : Cond.selects yX6_by.cls yX6_by yX6_by ∈ gT := mem_gT 493 (by decide +kernel) (by decide +kernel)
abbrev MX6_rained : MT := (yX6_rained, cX6_rained, 3, (some .int), { frames := 2, cells := 0, slots := 0, locals := 44 })
set_option maxRecDepth 100000 in
theorem ok_X6_rained : okM MX6_rained 2 := ⟨ini_X6, mem_gT 499 rfl (by decide +kernel), (by decide +kernel)⟩
set_option maxRecDepth 100000 in
theorem im_X6_rained : Cond.instanceMethod yX6_rained ∈ gT := mem_gT 497 (by decide +kernel) (by decide +kernel)
set_option maxRecDepth 100000 in
theorem se_X6_rained : Cond.selects yX6_rained.cls yX6_rained yX6_rained ∈ gT := mem_gT 498 (by decide +kernel) (by decide +kernel)
abbrev MX6_most : MT := (yX6_most, cX6_most, 7, (some .int), { frames := 4, cells := 0, slots := 0, locals := 93 })
set_option maxRecDepth 100000 in
theorem ok_X6_most : okM MX6_most 2 := ⟨ini_X6, mem_gT 504 rfl (by decide +kernel), (by decide +kernel)⟩
set_option maxRecDepth 100000 in
theorem im_X6_most : Cond.instanceMethod yX6_most ∈ gT := mem_gT 502 (by decide +kernel) (by decide +kernel)
set_option maxRecDepth 100000 in
theorem se_X6_most : Cond.selects yX6_most.cls yX6_most yX6_most ∈ gT := mem_gT 503 (by decide +kernel) (by decide +kernel)
abbrev MX6_when : MT := (yX6_when, cX6_when, 4, (some .int), { frames := 6, cells := 0, slots := 0, locals := 139 })
set_option maxRecDepth 100000 in
theorem ok_X6_when : okM MX6_when 2 := ⟨ini_X6, mem_gT 509 rfl (by decide +kernel), (by decide +kernel)⟩
set_option maxRecDepth 100000 in
theorem im_X6_when : Cond.instanceMethod yX6_when ∈ gT := mem_gT 507 (by decide +kernel) (by decide +kernel)
set_option maxRecDepth 100000 in
theorem se_X6_when : Cond.selects yX6_when.cls yX6_when yX6_when ∈ gT := mem_gT 508 (by decide +kernel) (by decide +kernel)
abbrev MX6_near : MT := (yX6_near, cX6_near, 5, (some .int), { frames := 6, cells := 0, slots := 0, locals := 139 })
set_option maxRecDepth 100000 in
theorem ok_X6_near : okM MX6_near 2 := ⟨ini_X6, mem_gT 518 rfl (by decide +kernel), (by decide +kernel)⟩
set_option maxRecDepth 100000 in
theorem im_X6_near : Cond.instanceMethod yX6_near ∈ gT := mem_gT 516 (by decide +kernel) (by decide +kernel)
set_option maxRecDepth 100000 in
theorem se_X6_near : Cond.selects yX6_near.cls yX6_near yX6_near ∈ gT := mem_gT 517 (by decide +kernel) (by decide +kernel)
abbrev MX6_low : MT := (yX6_low, cX6_low, 4, (some .int), { frames := 6, cells := 0, slots := 0, locals := 139 })
set_option maxRecDepth 100000 in
theorem ok_X6_low : okM MX6_low 1 := ⟨ini_X6, mem_gT 522 rfl (by decide +kernel), (by decide +kernel)⟩
set_option maxRecDepth 100000 in
theorem im_X6_low : Cond.instanceMethod yX6_low ∈ gT := mem_gT 520 (by decide +kernel) (by decide +kernel)
set_option maxRecDepth 100000 in
theorem se_X6_low : Cond.selects yX6_low.cls yX6_low yX6_low ∈ gT := mem_gT 521 (by decide +kernel) (by decide +kernel)
abbrev MX6_without : MT := (yX6_without, cX6_without, 5, (some .int), { frames := 4, cells := 0, slots := 0, locals := 93 })
set_option maxRecDepth 100000 in
theorem ok_X6_without : okM MX6_without 4 := ⟨ini_X6, mem_gT 526 rfl (by decide +kernel), (by decide +kernel)⟩
set_option maxRecDepth 100000 in
theorem im_X6_without : Cond.instanceMethod yX6_without ∈ gT := mem_gT 524 (by decide +kernel) (by decide +kernel)
set_option maxRecDepth 100000 in
theorem se_X6_without : Cond.selects yX6_without.cls yX6_without yX6_without ∈ gT := mem_gT 525 (by decide +kernel) (by decide +kernel)
abbrev MX6_free : MT := (yX6_free, cX6_free, 3, (some .int), { frames := 6, cells := 0, slots := 0, locals := 140 })
set_option maxRecDepth 100000 in
theorem ok_X6_free : okM MX6_free 2 := ⟨ini_X6, mem_gT 530 rfl (by decide +kernel), (by decide +kernel)⟩
set_option maxRecDepth 100000 in
theorem im_X6_free : Cond.instanceMethod yX6_free ∈ gT := mem_gT 528 (by decide +kernel) (by decide +kernel)
set_option maxRecDepth 100000 in
theorem se_X6_free : Cond.selects yX6_free.cls yX6_free yX6_free ∈ gT := mem_gT 529 (by decide +kernel) (by decide +kernel)
abbrev MX6_licence : MT := (yX6_licence, cX6_licence, 4, (some .int), { frames := 2, cells := 0, slots := 0, locals := 43 })
set_option maxRecDepth 100000 in
theorem ok_X6_licence : okM MX6_licence 3 := ⟨ini_X6, mem_gT 552 rfl (by decide +kernel), (by decide +kernel)⟩
set_option maxRecDepth 100000 in
theorem im_X6_licence : Cond.instanceMethod yX6_licence ∈ gT := mem_gT 550 (by decide +kernel) (by decide +kernel)
set_option maxRecDepth 100000 in
theorem se_X6_licence : Cond.selects yX6_licence.cls yX6_licence yX6_licence ∈ gT := mem_gT 551 (by decide +kernel) (by decide +kernel)
abbrev MX6_serve : MT := (yX6_serve, cX6_serve, 6, (some .int), { frames := 6, cells := 0, slots := 0, locals := 144 })
set_option maxRecDepth 100000 in
theorem ok_X6_serve : okM MX6_serve 1 := ⟨ini_X6, mem_gT 561 rfl (by decide +kernel), (by decide +kernel)⟩
set_option maxRecDepth 100000 in
theorem im_X6_serve : Cond.instanceMethod yX6_serve ∈ gT := mem_gT 559 (by decide +kernel) (by decide +kernel)
set_option maxRecDepth 100000 in
theorem se_X6_serve : Cond.selects yX6_serve.cls yX6_serve yX6_serve ∈ gT := mem_gT 560 (by decide +kernel) (by decide +kernel)
abbrev MX6_served : MT := (yX6_served, cX6_served, 4, (some .int), { frames := 1, cells := 0, slots := 0, locals := 22 })
set_option maxRecDepth 100000 in
theorem ok_X6_served : okM MX6_served 2 := ⟨ini_X6, mem_gT 586 rfl (by decide +kernel), (by decide +kernel)⟩
set_option maxRecDepth 100000 in
theorem im_X6_served : Cond.instanceMethod yX6_served ∈ gT := mem_gT 584 (by decide +kernel) (by decide +kernel)
set_option maxRecDepth 100000 in
theorem se_X6_served : Cond.selects yX6_served.cls yX6_served yX6_served ∈ gT := mem_gT 585 (by decide +kernel) (by decide +kernel)
abbrev MX6_hold : MT := (yX6_hold, cX6_hold, 5, (some .int), { frames := 6, cells := 0, slots := 0, locals := 142 })
set_option maxRecDepth 100000 in
theorem ok_X6_hold : okM MX6_hold 3 := ⟨ini_X6, mem_gT 590 rfl (by decide +kernel), (by decide +kernel)⟩
set_option maxRecDepth 100000 in
theorem im_X6_hold : Cond.instanceMethod yX6_hold ∈ gT := mem_gT 588 (by decide +kernel) (by decide +kernel)
set_option maxRecDepth 100000 in
theorem se_X6_hold : Cond.selects yX6_hold.cls yX6_hold yX6_hold ∈ gT := mem_gT 589 (by decide +kernel) (by decide +kernel)
abbrev MX6_move : MT := (yX6_move, cX6_move, 5, (some .int), { frames := 4, cells := 0, slots := 0, locals := 97 })
set_option maxRecDepth 100000 in
theorem ok_X6_move : okM MX6_move 3 := ⟨ini_X6, mem_gT 598 rfl (by decide +kernel), (by decide +kernel)⟩
set_option maxRecDepth 100000 in
theorem im_X6_move : Cond.instanceMethod yX6_move ∈ gT := mem_gT 596 (by decide +kernel) (by decide +kernel)
set_option maxRecDepth 100000 in
theorem se_X6_move : Cond.selects yX6_move.cls yX6_move yX6_move ∈ gT := mem_gT 597 (by decide +kernel) (by decide +kernel)
abbrev MX6_read : MT := (yX6_read, cX6_read, 4, (some .int), { frames := 2, cells := 0, slots := 0, locals := 45 })
set_option maxRecDepth 100000 in
theorem ok_X6_read : okM MX6_read 3 := ⟨ini_X6, mem_gT 607 rfl (by decide +kernel), (by decide +kernel)⟩
set_option maxRecDepth 100000 in
theorem im_X6_read : Cond.instanceMethod yX6_read ∈ gT := mem_gT 605 (by decide +kernel) (by decide +kernel)
set_option maxRecDepth 100000 in
theorem se_X6_read : Cond.selects yX6_read.cls yX6_read yX6_read ∈ gT := mem_gT 606 (by decide +kernel) (by decide +kernel)
abbrev MX6_differ : MT := (yX6_differ, cX6_differ, 3, (some .int), { frames := 5, cells := 0, slots := 0, locals := 117 })
set_option maxRecDepth 100000 in
theorem ok_X6_differ : okM MX6_differ 2 := ⟨ini_X6, mem_gT 622 rfl (by decide +kernel), (by decide +kernel)⟩
set_option maxRecDepth 100000 in
theorem im_X6_differ : Cond.instanceMethod yX6_differ ∈ gT := mem_gT 620 (by decide +kernel) (by decide +kernel)
set_option maxRecDepth 100000 in
theorem se_X6_differ : Cond.selects yX6_differ.cls yX6_differ yX6_differ ∈ gT := mem_gT 621 (by decide +kernel) (by decide +kernel)
abbrev MX6_fit : MT := (yX6_fit, cX6_fit, 9, (some .int), { frames := 6, cells := 0, slots := 0, locals := 143 })
set_option maxRecDepth 100000 in
theorem ok_X6_fit : okM MX6_fit 2 := ⟨ini_X6, mem_gT 630 rfl (by decide +kernel), (by decide +kernel)⟩
set_option maxRecDepth 100000 in
theorem im_X6_fit : Cond.instanceMethod yX6_fit ∈ gT := mem_gT 628 (by decide +kernel) (by decide +kernel)
set_option maxRecDepth 100000 in
theorem se_X6_fit : Cond.selects yX6_fit.cls yX6_fit yX6_fit ∈ gT := mem_gT 629 (by decide +kernel) (by decide +kernel)
abbrev MX6_squares : MT := (yX6_squares, cX6_squares, 1, (some .long), { frames := 6, cells := 0, slots := 0, locals := 143 })
set_option maxRecDepth 100000 in
theorem ok_X6_squares : okM MX6_squares 0 := ⟨ini_X6, mem_gT 649 rfl (by decide +kernel), (by decide +kernel)⟩
set_option maxRecDepth 100000 in
theorem im_X6_squares : Cond.instanceMethod yX6_squares ∈ gT := mem_gT 647 (by decide +kernel) (by decide +kernel)
set_option maxRecDepth 100000 in
theorem se_X6_squares : Cond.selects yX6_squares.cls yX6_squares yX6_squares ∈ gT := mem_gT 648 (by decide +kernel) (by decide +kernel)
abbrev MX6_keep : MT := (yX6_keep, cX6_keep, 1, (some .int), { frames := 4, cells := 0, slots := 0, locals := 89 })
set_option maxRecDepth 100000 in
theorem ok_X6_keep : okM MX6_keep 0 := ⟨ini_X6, mem_gT 653 rfl (by decide +kernel), (by decide +kernel)⟩
set_option maxRecDepth 100000 in
theorem im_X6_keep : Cond.instanceMethod yX6_keep ∈ gT := mem_gT 651 (by decide +kernel) (by decide +kernel)
set_option maxRecDepth 100000 in
theorem se_X6_keep : Cond.selects yX6_keep.cls yX6_keep yX6_keep ∈ gT := mem_gT 652 (by decide +kernel) (by decide +kernel)
abbrev MX6_back : MT := (yX6_back, cX6_back, 1, (some .int), { frames := 4, cells := 0, slots := 0, locals := 89 })
set_option maxRecDepth 100000 in
theorem ok_X6_back : okM MX6_back 0 := ⟨ini_X6, mem_gT 684 rfl (by decide +kernel), (by decide +kernel)⟩
set_option maxRecDepth 100000 in
theorem im_X6_back : Cond.instanceMethod yX6_back ∈ gT := mem_gT 682 (by decide +kernel) (by decide +kernel)
set_option maxRecDepth 100000 in
theorem se_X6_back : Cond.selects yX6_back.cls yX6_back yX6_back ∈ gT := mem_gT 683 (by decide +kernel) (by decide +kernel)
abbrev MX6_told : MT := (yX6_told, cX6_told, 2, (some .int), { frames := 1, cells := 0, slots := 0, locals := 21 })
set_option maxRecDepth 100000 in
theorem ok_X6_told : okM MX6_told 1 := ⟨ini_X6, mem_gT 688 rfl (by decide +kernel), (by decide +kernel)⟩
set_option maxRecDepth 100000 in
theorem im_X6_told : Cond.instanceMethod yX6_told ∈ gT := mem_gT 686 (by decide +kernel) (by decide +kernel)
set_option maxRecDepth 100000 in
theorem se_X6_told : Cond.selects yX6_told.cls yX6_told yX6_told ∈ gT := mem_gT 687 (by decide +kernel) (by decide +kernel)
abbrev MX6_finding : MT := (yX6_finding, cX6_finding, 2, (some .int), { frames := 0, cells := 0, slots := 0, locals := 0 })
set_option maxRecDepth 100000 in
theorem ok_X6_finding : okM MX6_finding 1 := ⟨ini_X6, mem_gT 284 rfl (by decide +kernel), (by decide +kernel)⟩
set_option maxRecDepth 100000 in
theorem im_X6_finding : Cond.instanceMethod yX6_finding ∈ gT := mem_gT 283 (by decide +kernel) (by decide +kernel)
set_option maxRecDepth 100000 in
theorem se_X6_finding : Cond.selects yX6_finding.cls yX6_finding yX6_finding ∈ gT := mem_gT 0 (by decide +kernel) (by decide +kernel)
abbrev MX6_isWell : MT := (yX6_isWell, cX6_isWell, 2, (some .boolean), { frames := 1, cells := 0, slots := 0, locals := 22 })
set_option maxRecDepth 100000 in
theorem ok_X6_isWell : okM MX6_isWell 1 := ⟨ini_X6, mem_gT 298 rfl (by decide +kernel), (by decide +kernel)⟩
set_option maxRecDepth 100000 in
theorem im_X6_isWell : Cond.instanceMethod yX6_isWell ∈ gT := mem_gT 297 (by decide +kernel) (by decide +kernel)
set_option maxRecDepth 100000 in
theorem se_X6_isWell : Cond.selects yX6_isWell.cls yX6_isWell yX6_isWell ∈ gT := mem_gT 2 (by decide +kernel) (by decide +kernel)
abbrev MX6_isMonth : MT := (yX6_isMonth, cX6_isMonth, 1, (some .boolean), { frames := 1, cells := 0, slots := 0, locals := 22 })
set_option maxRecDepth 100000 in
theorem ok_X6_isMonth : okM MX6_isMonth 1 := ⟨ini_X6, mem_gT 410 rfl (by decide +kernel), (by decide +kernel)⟩
set_option maxRecDepth 100000 in
theorem st_X6_isMonth : Cond.static yX6_isMonth ∈ gT := mem_gT 409 (by decide +kernel) (by decide +kernel)
abbrev MX6_isKind : MT := (yX6_isKind, cX6_isKind, 1, (some .boolean), { frames := 1, cells := 0, slots := 0, locals := 22 })
set_option maxRecDepth 100000 in
theorem ok_X6_isKind : okM MX6_isKind 1 := ⟨ini_X6, mem_gT 268 rfl (by decide +kernel), (by decide +kernel)⟩
set_option maxRecDepth 100000 in
theorem st_X6_isKind : Cond.static yX6_isKind ∈ gT := mem_gT 267 (by decide +kernel) (by decide +kernel)
abbrev MX6_isPlace : MT := (yX6_isPlace, cX6_isPlace, 1, (some .boolean), { frames := 1, cells := 0, slots := 0, locals := 22 })
set_option maxRecDepth 100000 in
theorem ok_X6_isPlace : okM MX6_isPlace 1 := ⟨ini_X6, mem_gT 274 rfl (by decide +kernel), (by decide +kernel)⟩
set_option maxRecDepth 100000 in
theorem st_X6_isPlace : Cond.static yX6_isPlace ∈ gT := mem_gT 273 (by decide +kernel) (by decide +kernel)
abbrev MX6_isHeadBound : MT := (yX6_isHeadBound, cX6_isHeadBound, 1, (some .boolean), { frames := 1, cells := 0, slots := 0, locals := 22 })
set_option maxRecDepth 100000 in
theorem ok_X6_isHeadBound : okM MX6_isHeadBound 1 := ⟨ini_X6, mem_gT 277 rfl (by decide +kernel), (by decide +kernel)⟩
set_option maxRecDepth 100000 in
theorem st_X6_isHeadBound : Cond.static yX6_isHeadBound ∈ gT := mem_gT 276 (by decide +kernel) (by decide +kernel)
abbrev MX6_isAmount : MT := (yX6_isAmount, cX6_isAmount, 1, (some .boolean), { frames := 1, cells := 0, slots := 0, locals := 22 })
set_option maxRecDepth 100000 in
theorem ok_X6_isAmount : okM MX6_isAmount 1 := ⟨ini_X6, mem_gT 349 rfl (by decide +kernel), (by decide +kernel)⟩
set_option maxRecDepth 100000 in
theorem st_X6_isAmount : Cond.static yX6_isAmount ∈ gT := mem_gT 348 (by decide +kernel) (by decide +kernel)
abbrev MX6_isLayer : MT := (yX6_isLayer, cX6_isLayer, 1, (some .boolean), { frames := 1, cells := 0, slots := 0, locals := 22 })
set_option maxRecDepth 100000 in
theorem ok_X6_isLayer : okM MX6_isLayer 1 := ⟨ini_X6, mem_gT 343 rfl (by decide +kernel), (by decide +kernel)⟩
set_option maxRecDepth 100000 in
theorem st_X6_isLayer : Cond.static yX6_isLayer ∈ gT := mem_gT 342 (by decide +kernel) (by decide +kernel)
abbrev MX6_isAge : MT := (yX6_isAge, cX6_isAge, 1, (some .boolean), { frames := 1, cells := 0, slots := 0, locals := 22 })
set_option maxRecDepth 100000 in
theorem ok_X6_isAge : okM MX6_isAge 1 := ⟨ini_X6, mem_gT 346 rfl (by decide +kernel), (by decide +kernel)⟩
set_option maxRecDepth 100000 in
theorem st_X6_isAge : Cond.static yX6_isAge ∈ gT := mem_gT 345 (by decide +kernel) (by decide +kernel)
abbrev MX6_isSheet : MT := (yX6_isSheet, cX6_isSheet, 1, (some .boolean), { frames := 1, cells := 0, slots := 0, locals := 22 })
set_option maxRecDepth 100000 in
theorem ok_X6_isSheet : okM MX6_isSheet 1 := ⟨ini_X6, mem_gT 366 rfl (by decide +kernel), (by decide +kernel)⟩
set_option maxRecDepth 100000 in
theorem st_X6_isSheet : Cond.static yX6_isSheet ∈ gT := mem_gT 365 (by decide +kernel) (by decide +kernel)
abbrev MX6_within : MT := (yX6_within, cX6_within, 3, (some .boolean), { frames := 0, cells := 0, slots := 0, locals := 0 })
set_option maxRecDepth 100000 in
theorem ok_X6_within : okM MX6_within 3 := ⟨ini_X6, mem_gT 271 rfl (by decide +kernel), (by decide +kernel)⟩
set_option maxRecDepth 100000 in
theorem st_X6_within : Cond.static yX6_within ∈ gT := mem_gT 270 (by decide +kernel) (by decide +kernel)
abbrev MX6_clear : MT := (yX6_clear, cX6_clear, 3, (some .int), { frames := 0, cells := 0, slots := 0, locals := 0 })
set_option maxRecDepth 100000 in
theorem ok_X6_clear : okM MX6_clear 1 := ⟨ini_X6, mem_gT 373 rfl (by decide +kernel), (by decide +kernel)⟩
set_option maxRecDepth 100000 in
theorem st_X6_clear : Cond.static yX6_clear ∈ gT := mem_gT 372 (by decide +kernel) (by decide +kernel)
abbrev MX6_copyRow : MT := (yX6_copyRow, cX6_copyRow, 2, none, { frames := 1, cells := 0, slots := 0, locals := 26 })
set_option maxRecDepth 100000 in
theorem ok_X6_copyRow : okM MX6_copyRow 2 := ⟨ini_X6, mem_gT 664 rfl (by decide +kernel), (by decide +kernel)⟩
set_option maxRecDepth 100000 in
theorem st_X6_copyRow : Cond.static yX6_copyRow ∈ gT := mem_gT 663 (by decide +kernel) (by decide +kernel)
abbrev MX7_in : MT := (yX7_in, cX7_in, 3, (some .boolean), { frames := 0, cells := 0, slots := 0, locals := 0 })
set_option maxRecDepth 100000 in
theorem ok_X7_in : okM MX7_in 3 := ⟨ini_X7, mem_gT 738 rfl (by decide +kernel), (by decide +kernel)⟩
set_option maxRecDepth 100000 in
theorem st_X7_in : Cond.static yX7_in ∈ gT := mem_gT 737 (by decide +kernel) (by decide +kernel)
abbrev MX7_found : MT := (yX7_found, cX7_found, 2, (some .int), { frames := 0, cells := 0, slots := 0, locals := 0 })
set_option maxRecDepth 100000 in
theorem ok_X7_found : okM MX7_found 1 := ⟨ini_X7, mem_gT 748 rfl (by decide +kernel), (by decide +kernel)⟩
set_option maxRecDepth 100000 in
theorem im_X7_found : Cond.instanceMethod yX7_found ∈ gT := mem_gT 747 (by decide +kernel) (by decide +kernel)
set_option maxRecDepth 100000 in
theorem se_X7_found : Cond.selects yX7_found.cls yX7_found yX7_found ∈ gT := mem_gT 47 (by decide +kernel) (by decide +kernel)
abbrev MX7_wells : MT := (yX7_wells, cX7_wells, 1, (some .int), { frames := 0, cells := 0, slots := 0, locals := 0 })
set_option maxRecDepth 100000 in
theorem ok_X7_wells : okM MX7_wells 0 := ⟨ini_X7, mem_gT 752 rfl (by decide +kernel), (by decide +kernel)⟩
set_option maxRecDepth 100000 in
theorem im_X7_wells : Cond.instanceMethod yX7_wells ∈ gT := mem_gT 751 (by decide +kernel) (by decide +kernel)
set_option maxRecDepth 100000 in
theorem se_X7_wells : Cond.selects yX7_wells.cls yX7_wells yX7_wells ∈ gT := mem_gT 48 (by decide +kernel) (by decide +kernel)
abbrev MX7_isWell : MT := (yX7_isWell, cX7_isWell, 2, (some .boolean), { frames := 1, cells := 0, slots := 0, locals := 22 })
set_option maxRecDepth 100000 in
theorem ok_X7_isWell : okM MX7_isWell 1 := ⟨ini_X7, mem_gT 761 rfl (by decide +kernel), (by decide +kernel)⟩
set_option maxRecDepth 100000 in
theorem im_X7_isWell : Cond.instanceMethod yX7_isWell ∈ gT := mem_gT 760 (by decide +kernel) (by decide +kernel)
set_option maxRecDepth 100000 in
theorem se_X7_isWell : Cond.selects yX7_isWell.cls yX7_isWell yX7_isWell ∈ gT := mem_gT 49 (by decide +kernel) (by decide +kernel)
abbrev MX7_isMonth : MT := (yX7_isMonth, cX7_isMonth, 1, (some .boolean), { frames := 1, cells := 0, slots := 0, locals := 22 })
set_option maxRecDepth 100000 in
theorem ok_X7_isMonth : okM MX7_isMonth 1 := ⟨ini_X7, mem_gT 831 rfl (by decide +kernel), (by decide +kernel)⟩
set_option maxRecDepth 100000 in
theorem st_X7_isMonth : Cond.static yX7_isMonth ∈ gT := mem_gT 830 (by decide +kernel) (by decide +kernel)
abbrev MX7_isHead : MT := (yX7_isHead, cX7_isHead, 1, (some .boolean), { frames := 1, cells := 0, slots := 0, locals := 22 })
set_option maxRecDepth 100000 in
theorem ok_X7_isHead : okM MX7_isHead 1 := ⟨ini_X7, mem_gT 741 rfl (by decide +kernel), (by decide +kernel)⟩
set_option maxRecDepth 100000 in
theorem st_X7_isHead : Cond.static yX7_isHead ∈ gT := mem_gT 740 (by decide +kernel) (by decide +kernel)
abbrev MX7_told0 : MT := (yX7_told0, cX7_told0, 3, (some .int), { frames := 0, cells := 0, slots := 0, locals := 0 })
set_option maxRecDepth 100000 in
theorem ok_X7_told0 : okM MX7_told0 2 := ⟨ini_X7, mem_gT 765 rfl (by decide +kernel), (by decide +kernel)⟩
set_option maxRecDepth 100000 in
theorem im_X7_told0 : Cond.instanceMethod yX7_told0 ∈ gT := mem_gT 764 (by decide +kernel) (by decide +kernel)
set_option maxRecDepth 100000 in
theorem se_X7_told0 : Cond.selects yX7_told0.cls yX7_told0 yX7_told0 ∈ gT := mem_gT 50 (by decide +kernel) (by decide +kernel)
abbrev MX7_kindOf : MT := (yX7_kindOf, cX7_kindOf, 2, (some .int), { frames := 1, cells := 0, slots := 0, locals := 22 })
set_option maxRecDepth 100000 in
theorem ok_X7_kindOf : okM MX7_kindOf 1 := ⟨ini_X7, mem_gT 773 rfl (by decide +kernel), (by decide +kernel)⟩
set_option maxRecDepth 100000 in
theorem im_X7_kindOf : Cond.instanceMethod yX7_kindOf ∈ gT := mem_gT 772 (by decide +kernel) (by decide +kernel)
set_option maxRecDepth 100000 in
theorem se_X7_kindOf : Cond.selects yX7_kindOf.cls yX7_kindOf yX7_kindOf ∈ gT := mem_gT 51 (by decide +kernel) (by decide +kernel)
abbrev MX7_well : MT := (yX7_well, cX7_well, 6, (some .int), { frames := 2, cells := 0, slots := 0, locals := 42 })
set_option maxRecDepth 100000 in
theorem ok_X7_well : okM MX7_well 4 := ⟨ini_X7, mem_gT 735 rfl (by decide +kernel), (by decide +kernel)⟩
set_option maxRecDepth 100000 in
theorem im_X7_well : Cond.instanceMethod yX7_well ∈ gT := mem_gT 733 (by decide +kernel) (by decide +kernel)
set_option maxRecDepth 100000 in
theorem se_X7_well : Cond.selects yX7_well.cls yX7_well yX7_well ∈ gT := mem_gT 734 (by decide +kernel) (by decide +kernel)
abbrev MX7_limit : MT := (yX7_limit, cX7_limit, 4, (some .int), { frames := 2, cells := 0, slots := 0, locals := 43 })
set_option maxRecDepth 100000 in
theorem ok_X7_limit : okM MX7_limit 2 := ⟨ini_X7, mem_gT 757 rfl (by decide +kernel), (by decide +kernel)⟩
set_option maxRecDepth 100000 in
theorem im_X7_limit : Cond.instanceMethod yX7_limit ∈ gT := mem_gT 755 (by decide +kernel) (by decide +kernel)
set_option maxRecDepth 100000 in
theorem se_X7_limit : Cond.selects yX7_limit.cls yX7_limit yX7_limit ∈ gT := mem_gT 756 (by decide +kernel) (by decide +kernel)
abbrev MX7_as : MT := (yX7_as, cX7_as, 5, (some .int), { frames := 2, cells := 0, slots := 0, locals := 43 })
set_option maxRecDepth 100000 in
theorem ok_X7_as : okM MX7_as 2 := ⟨ini_X7, mem_gT 769 rfl (by decide +kernel), (by decide +kernel)⟩
set_option maxRecDepth 100000 in
theorem im_X7_as : Cond.instanceMethod yX7_as ∈ gT := mem_gT 767 (by decide +kernel) (by decide +kernel)
set_option maxRecDepth 100000 in
theorem se_X7_as : Cond.selects yX7_as.cls yX7_as yX7_as ∈ gT := mem_gT 768 (by decide +kernel) (by decide +kernel)
abbrev MX7_drawOf : MT := (yX7_drawOf, cX7_drawOf, 3, (some .int), { frames := 0, cells := 0, slots := 0, locals := 0 })
set_option maxRecDepth 100000 in
theorem ok_X7_drawOf : okM MX7_drawOf 2 := ⟨ini_X7, mem_gT 782 rfl (by decide +kernel), (by decide +kernel)⟩
set_option maxRecDepth 100000 in
theorem im_X7_drawOf : Cond.instanceMethod yX7_drawOf ∈ gT := mem_gT 781 (by decide +kernel) (by decide +kernel)
set_option maxRecDepth 100000 in
theorem se_X7_drawOf : Cond.selects yX7_drawOf.cls yX7_drawOf yX7_drawOf ∈ gT := mem_gT 52 (by decide +kernel) (by decide +kernel)
abbrev MX7_of : MT := (yX7_of, cX7_of, 5, (some .int), { frames := 2, cells := 0, slots := 0, locals := 43 })
set_option maxRecDepth 100000 in
theorem ok_X7_of : okM MX7_of 2 := ⟨ini_X7, mem_gT 778 rfl (by decide +kernel), (by decide +kernel)⟩
set_option maxRecDepth 100000 in
theorem im_X7_of : Cond.instanceMethod yX7_of ∈ gT := mem_gT 776 (by decide +kernel) (by decide +kernel)
set_option maxRecDepth 100000 in
theorem se_X7_of : Cond.selects yX7_of.cls yX7_of yX7_of ∈ gT := mem_gT 777 (by decide +kernel) (by decide +kernel)
abbrev MX7_apart : MT := (yX7_apart, cX7_apart, 6, (some .int), { frames := 1, cells := 0, slots := 0, locals := 22 })
set_option maxRecDepth 100000 in
theorem ok_X7_apart : okM MX7_apart 2 := ⟨ini_X7, mem_gT 790 rfl (by decide +kernel), (by decide +kernel)⟩
set_option maxRecDepth 100000 in
theorem im_X7_apart : Cond.instanceMethod yX7_apart ∈ gT := mem_gT 789 (by decide +kernel) (by decide +kernel)
set_option maxRecDepth 100000 in
theorem se_X7_apart : Cond.selects yX7_apart.cls yX7_apart yX7_apart ∈ gT := mem_gT 53 (by decide +kernel) (by decide +kernel)
abbrev MX7_distance : MT := (yX7_distance, cX7_distance, 3, (some .int), { frames := 2, cells := 0, slots := 0, locals := 47 })
set_option maxRecDepth 100000 in
theorem ok_X7_distance : okM MX7_distance 2 := ⟨ini_X7, mem_gT 786 rfl (by decide +kernel), (by decide +kernel)⟩
set_option maxRecDepth 100000 in
theorem im_X7_distance : Cond.instanceMethod yX7_distance ∈ gT := mem_gT 784 (by decide +kernel) (by decide +kernel)
set_option maxRecDepth 100000 in
theorem se_X7_distance : Cond.selects yX7_distance.cls yX7_distance yX7_distance ∈ gT := mem_gT 785 (by decide +kernel) (by decide +kernel)
abbrev MX7_cell : MT := (yX7_cell, cX7_cell, 3, (some .int), { frames := 0, cells := 0, slots := 0, locals := 0 })
set_option maxRecDepth 100000 in
theorem ok_X7_cell : okM MX7_cell 3 := ⟨ini_X7, mem_gT 797 rfl (by decide +kernel), (by decide +kernel)⟩
set_option maxRecDepth 100000 in
theorem st_X7_cell : Cond.static yX7_cell ∈ gT := mem_gT 796 (by decide +kernel) (by decide +kernel)
abbrev MX7_table : MT := (yX7_table, cX7_table, 6, (some .int), { frames := 1, cells := 0, slots := 0, locals := 22 })
set_option maxRecDepth 100000 in
theorem ok_X7_table : okM MX7_table 4 := ⟨ini_X7, mem_gT 794 rfl (by decide +kernel), (by decide +kernel)⟩
set_option maxRecDepth 100000 in
theorem im_X7_table : Cond.instanceMethod yX7_table ∈ gT := mem_gT 792 (by decide +kernel) (by decide +kernel)
set_option maxRecDepth 100000 in
theorem se_X7_table : Cond.selects yX7_table.cls yX7_table yX7_table ∈ gT := mem_gT 793 (by decide +kernel) (by decide +kernel)
abbrev MX7_rainTable : MT := (yX7_rainTable, cX7_rainTable, 4, (some .int), { frames := 1, cells := 0, slots := 0, locals := 22 })
set_option maxRecDepth 100000 in
theorem ok_X7_rainTable : okM MX7_rainTable 2 := ⟨ini_X7, mem_gT 802 rfl (by decide +kernel), (by decide +kernel)⟩
set_option maxRecDepth 100000 in
theorem im_X7_rainTable : Cond.instanceMethod yX7_rainTable ∈ gT := mem_gT 800 (by decide +kernel) (by decide +kernel)
set_option maxRecDepth 100000 in
theorem se_X7_rainTable : Cond.selects yX7_rainTable.cls yX7_rainTable yX7_rainTable ∈ gT := mem_gT 801 (by decide +kernel) (by decide +kernel)
abbrev MX7_isSheet : MT := (yX7_isSheet, cX7_isSheet, 1, (some .boolean), { frames := 1, cells := 0, slots := 0, locals := 22 })
set_option maxRecDepth 100000 in
theorem ok_X7_isSheet : okM MX7_isSheet 1 := ⟨ini_X7, mem_gT 809 rfl (by decide +kernel), (by decide +kernel)⟩
set_option maxRecDepth 100000 in
theorem st_X7_isSheet : Cond.static yX7_isSheet ∈ gT := mem_gT 808 (by decide +kernel) (by decide +kernel)
abbrev MX7_sheet : MT := (yX7_sheet, cX7_sheet, 5, (some .int), { frames := 2, cells := 0, slots := 0, locals := 42 })
set_option maxRecDepth 100000 in
theorem ok_X7_sheet : okM MX7_sheet 3 := ⟨ini_X7, mem_gT 806 rfl (by decide +kernel), (by decide +kernel)⟩
set_option maxRecDepth 100000 in
theorem im_X7_sheet : Cond.instanceMethod yX7_sheet ∈ gT := mem_gT 804 (by decide +kernel) (by decide +kernel)
set_option maxRecDepth 100000 in
theorem se_X7_sheet : Cond.selects yX7_sheet.cls yX7_sheet yX7_sheet ∈ gT := mem_gT 805 (by decide +kernel) (by decide +kernel)
abbrev MX7_isNone : MT := (yX7_isNone, cX7_isNone, 1, (some .boolean), { frames := 0, cells := 0, slots := 0, locals := 0 })
set_option maxRecDepth 100000 in
theorem ok_X7_isNone : okM MX7_isNone 1 := ⟨ini_X7, mem_gT 817 rfl (by decide +kernel), (by decide +kernel)⟩
set_option maxRecDepth 100000 in
theorem st_X7_isNone : Cond.static yX7_isNone ∈ gT := mem_gT 816 (by decide +kernel) (by decide +kernel)
abbrev MX7_put : MT := (yX7_put, cX7_put, 4, (some .int), { frames := 2, cells := 0, slots := 0, locals := 42 })
set_option maxRecDepth 100000 in
theorem ok_X7_put : okM MX7_put 3 := ⟨ini_X7, mem_gT 813 rfl (by decide +kernel), (by decide +kernel)⟩
set_option maxRecDepth 100000 in
theorem im_X7_put : Cond.instanceMethod yX7_put ∈ gT := mem_gT 811 (by decide +kernel) (by decide +kernel)
set_option maxRecDepth 100000 in
theorem se_X7_put : Cond.selects yX7_put.cls yX7_put yX7_put ∈ gT := mem_gT 812 (by decide +kernel) (by decide +kernel)
abbrev MX7_copy : MT := (yX7_copy, cX7_copy, 7, (some .int), { frames := 2, cells := 0, slots := 0, locals := 42 })
set_option maxRecDepth 100000 in
theorem ok_X7_copy : okM MX7_copy 5 := ⟨ini_X7, mem_gT 824 rfl (by decide +kernel), (by decide +kernel)⟩
set_option maxRecDepth 100000 in
theorem im_X7_copy : Cond.instanceMethod yX7_copy ∈ gT := mem_gT 822 (by decide +kernel) (by decide +kernel)
set_option maxRecDepth 100000 in
theorem se_X7_copy : Cond.selects yX7_copy.cls yX7_copy yX7_copy ∈ gT := mem_gT 823 (by decide +kernel) (by decide +kernel)
abbrev MX7_cut : MT := (yX7_cut, cX7_cut, 4, (some .int), { frames := 0, cells := 0, slots := 0, locals := 0 })
set_option maxRecDepth 100000 in
theorem ok_X7_cut : okM MX7_cut 1 := ⟨ini_X7, mem_gT 835 rfl (by decide +kernel), (by decide +kernel)⟩
set_option maxRecDepth 100000 in
theorem st_X7_cut : Cond.static yX7_cut ∈ gT := mem_gT 834 (by decide +kernel) (by decide +kernel)
abbrev MX7_draws : MT := (yX7_draws, cX7_draws, 7, (some .int), { frames := 2, cells := 0, slots := 0, locals := 43 })
set_option maxRecDepth 100000 in
theorem ok_X7_draws : okM MX7_draws 3 := ⟨ini_X7, mem_gT 828 rfl (by decide +kernel), (by decide +kernel)⟩
set_option maxRecDepth 100000 in
theorem im_X7_draws : Cond.instanceMethod yX7_draws ∈ gT := mem_gT 826 (by decide +kernel) (by decide +kernel)
set_option maxRecDepth 100000 in
theorem se_X7_draws : Cond.selects yX7_draws.cls yX7_draws yX7_draws ∈ gT := mem_gT 827 (by decide +kernel) (by decide +kernel)
abbrev MX7_draw : MT := (yX7_draw, cX7_draw, 5, (some .int), { frames := 2, cells := 0, slots := 0, locals := 43 })
set_option maxRecDepth 100000 in
theorem ok_X7_draw : okM MX7_draw 3 := ⟨ini_X7, mem_gT 841 rfl (by decide +kernel), (by decide +kernel)⟩
set_option maxRecDepth 100000 in
theorem im_X7_draw : Cond.instanceMethod yX7_draw ∈ gT := mem_gT 839 (by decide +kernel) (by decide +kernel)
set_option maxRecDepth 100000 in
theorem se_X7_draw : Cond.selects yX7_draw.cls yX7_draw yX7_draw ∈ gT := mem_gT 840 (by decide +kernel) (by decide +kernel)
abbrev MX7_sign : MT := (yX7_sign, cX7_sign, 4, (some .int), { frames := 2, cells := 0, slots := 0, locals := 43 })
set_option maxRecDepth 100000 in
theorem ok_X7_sign : okM MX7_sign 2 := ⟨ini_X7, mem_gT 849 rfl (by decide +kernel), (by decide +kernel)⟩
set_option maxRecDepth 100000 in
theorem im_X7_sign : Cond.instanceMethod yX7_sign ∈ gT := mem_gT 848 (by decide +kernel) (by decide +kernel)
set_option maxRecDepth 100000 in
theorem se_X7_sign : Cond.selects yX7_sign.cls yX7_sign yX7_sign ∈ gT := mem_gT 54 (by decide +kernel) (by decide +kernel)
abbrev MX7_counts : MT := (yX7_counts, cX7_counts, 3, (some .int), { frames := 3, cells := 0, slots := 0, locals := 66 })
set_option maxRecDepth 100000 in
theorem ok_X7_counts : okM MX7_counts 2 := ⟨ini_X7, mem_gT 845 rfl (by decide +kernel), (by decide +kernel)⟩
set_option maxRecDepth 100000 in
theorem im_X7_counts : Cond.instanceMethod yX7_counts ∈ gT := mem_gT 843 (by decide +kernel) (by decide +kernel)
set_option maxRecDepth 100000 in
theorem se_X7_counts : Cond.selects yX7_counts.cls yX7_counts yX7_counts ∈ gT := mem_gT 844 (by decide +kernel) (by decide +kernel)
abbrev MX7_rain : MT := (yX7_rain, cX7_rain, 4, (some .int), { frames := 2, cells := 0, slots := 0, locals := 42 })
set_option maxRecDepth 100000 in
theorem ok_X7_rain : okM MX7_rain 2 := ⟨ini_X7, mem_gT 853 rfl (by decide +kernel), (by decide +kernel)⟩
set_option maxRecDepth 100000 in
theorem im_X7_rain : Cond.instanceMethod yX7_rain ∈ gT := mem_gT 851 (by decide +kernel) (by decide +kernel)
set_option maxRecDepth 100000 in
theorem se_X7_rain : Cond.selects yX7_rain.cls yX7_rain yX7_rain ∈ gT := mem_gT 852 (by decide +kernel) (by decide +kernel)
abbrev MX7_dry : MT := (yX7_dry, cX7_dry, 3, (some .int), { frames := 0, cells := 0, slots := 0, locals := 0 })
set_option maxRecDepth 100000 in
theorem ok_X7_dry : okM MX7_dry 0 := ⟨ini_X7, mem_gT 857 rfl (by decide +kernel), (by decide +kernel)⟩
set_option maxRecDepth 100000 in
theorem im_X7_dry : Cond.instanceMethod yX7_dry ∈ gT := mem_gT 855 (by decide +kernel) (by decide +kernel)
set_option maxRecDepth 100000 in
theorem se_X7_dry : Cond.selects yX7_dry.cls yX7_dry yX7_dry ∈ gT := mem_gT 856 (by decide +kernel) (by decide +kernel)
abbrev MX7_share : MT := (yX7_share, cX7_share, 5, (some .int), { frames := 2, cells := 0, slots := 0, locals := 47 })
set_option maxRecDepth 100000 in
theorem ok_X7_share : okM MX7_share 3 := ⟨ini_X7, mem_gT 877 rfl (by decide +kernel), (by decide +kernel)⟩
set_option maxRecDepth 100000 in
theorem im_X7_share : Cond.instanceMethod yX7_share ∈ gT := mem_gT 876 (by decide +kernel) (by decide +kernel)
set_option maxRecDepth 100000 in
theorem se_X7_share : Cond.selects yX7_share.cls yX7_share yX7_share ∈ gT := mem_gT 58 (by decide +kernel) (by decide +kernel)
abbrev MX7_lowering : MT := (yX7_lowering, cX7_lowering, 7, (some .int), { frames := 3, cells := 0, slots := 0, locals := 71 })
set_option maxRecDepth 100000 in
theorem ok_X7_lowering : okM MX7_lowering 4 := ⟨ini_X7, mem_gT 873 rfl (by decide +kernel), (by decide +kernel)⟩
set_option maxRecDepth 100000 in
theorem im_X7_lowering : Cond.instanceMethod yX7_lowering ∈ gT := mem_gT 872 (by decide +kernel) (by decide +kernel)
set_option maxRecDepth 100000 in
theorem se_X7_lowering : Cond.selects yX7_lowering.cls yX7_lowering yX7_lowering ∈ gT := mem_gT 57 (by decide +kernel) (by decide +kernel)
abbrev MX7_rainOf : MT := (yX7_rainOf, cX7_rainOf, 4, (some .int), { frames := 0, cells := 0, slots := 0, locals := 0 })
set_option maxRecDepth 100000 in
theorem ok_X7_rainOf : okM MX7_rainOf 1 := ⟨ini_X7, mem_gT 869 rfl (by decide +kernel), (by decide +kernel)⟩
set_option maxRecDepth 100000 in
theorem im_X7_rainOf : Cond.instanceMethod yX7_rainOf ∈ gT := mem_gT 868 (by decide +kernel) (by decide +kernel)
set_option maxRecDepth 100000 in
theorem se_X7_rainOf : Cond.selects yX7_rainOf.cls yX7_rainOf yX7_rainOf ∈ gT := mem_gT 56 (by decide +kernel) (by decide +kernel)
abbrev MX7_headOf : MT := (yX7_headOf, cX7_headOf, 5, (some .int), { frames := 4, cells := 0, slots := 0, locals := 97 })
set_option maxRecDepth 100000 in
theorem ok_X7_headOf : okM MX7_headOf 2 := ⟨ini_X7, mem_gT 865 rfl (by decide +kernel), (by decide +kernel)⟩
set_option maxRecDepth 100000 in
theorem im_X7_headOf : Cond.instanceMethod yX7_headOf ∈ gT := mem_gT 864 (by decide +kernel) (by decide +kernel)
set_option maxRecDepth 100000 in
theorem se_X7_headOf : Cond.selects yX7_headOf.cls yX7_headOf yX7_headOf ∈ gT := mem_gT 55 (by decide +kernel) (by decide +kernel)
abbrev MX7_head : MT := (yX7_head, cX7_head, 3, (some .int), { frames := 5, cells := 0, slots := 0, locals := 121 })
set_option maxRecDepth 100000 in
theorem ok_X7_head : okM MX7_head 2 := ⟨ini_X7, mem_gT 861 rfl (by decide +kernel), (by decide +kernel)⟩
set_option maxRecDepth 100000 in
theorem im_X7_head : Cond.instanceMethod yX7_head ∈ gT := mem_gT 859 (by decide +kernel) (by decide +kernel)
set_option maxRecDepth 100000 in
theorem se_X7_head : Cond.selects yX7_head.cls yX7_head yX7_head ∈ gT := mem_gT 860 (by decide +kernel) (by decide +kernel)
abbrev MX7_by : MT := (yX7_by, cX7_by, 4, (some .int), { frames := 4, cells := 0, slots := 0, locals := 97 })
set_option maxRecDepth 100000 in
theorem ok_X7_by : okM MX7_by 3 := ⟨ini_X7, mem_gT 881 rfl (by decide +kernel), (by decide +kernel)⟩
set_option maxRecDepth 100000 in
theorem im_X7_by : Cond.instanceMethod yX7_by ∈ gT := mem_gT 879 (by decide +kernel) (by decide +kernel)
set_option maxRecDepth 100000 in
theorem se_X7_by : Cond.selects yX7_by.cls yX7_by yX7_by ∈ gT := mem_gT 880 (by decide +kernel) (by decide +kernel)
abbrev MX7_rained : MT := (yX7_rained, cX7_rained, 3, (some .int), { frames := 2, cells := 0, slots := 0, locals := 43 })
set_option maxRecDepth 100000 in
theorem ok_X7_rained : okM MX7_rained 2 := ⟨ini_X7, mem_gT 885 rfl (by decide +kernel), (by decide +kernel)⟩
set_option maxRecDepth 100000 in
theorem im_X7_rained : Cond.instanceMethod yX7_rained ∈ gT := mem_gT 883 (by decide +kernel) (by decide +kernel)
set_option maxRecDepth 100000 in
theorem se_X7_rained : Cond.selects yX7_rained.cls yX7_rained yX7_rained ∈ gT := mem_gT 884 (by decide +kernel) (by decide +kernel)
abbrev MX7_most : MT := (yX7_most, cX7_most, 7, (some .int), { frames := 4, cells := 0, slots := 0, locals := 97 })
set_option maxRecDepth 100000 in
theorem ok_X7_most : okM MX7_most 2 := ⟨ini_X7, mem_gT 889 rfl (by decide +kernel), (by decide +kernel)⟩
set_option maxRecDepth 100000 in
theorem im_X7_most : Cond.instanceMethod yX7_most ∈ gT := mem_gT 887 (by decide +kernel) (by decide +kernel)
set_option maxRecDepth 100000 in
theorem se_X7_most : Cond.selects yX7_most.cls yX7_most yX7_most ∈ gT := mem_gT 888 (by decide +kernel) (by decide +kernel)
abbrev MX7_above : MT := (yX7_above, cX7_above, 3, (some .int), { frames := 5, cells := 0, slots := 0, locals := 121 })
set_option maxRecDepth 100000 in
theorem ok_X7_above : okM MX7_above 2 := ⟨ini_X7, mem_gT 898 rfl (by decide +kernel), (by decide +kernel)⟩
set_option maxRecDepth 100000 in
theorem im_X7_above : Cond.instanceMethod yX7_above ∈ gT := mem_gT 897 (by decide +kernel) (by decide +kernel)
set_option maxRecDepth 100000 in
theorem se_X7_above : Cond.selects yX7_above.cls yX7_above yX7_above ∈ gT := mem_gT 59 (by decide +kernel) (by decide +kernel)
abbrev MX7_when : MT := (yX7_when, cX7_when, 4, (some .int), { frames := 6, cells := 0, slots := 0, locals := 143 })
set_option maxRecDepth 100000 in
theorem ok_X7_when : okM MX7_when 2 := ⟨ini_X7, mem_gT 894 rfl (by decide +kernel), (by decide +kernel)⟩
set_option maxRecDepth 100000 in
theorem im_X7_when : Cond.instanceMethod yX7_when ∈ gT := mem_gT 892 (by decide +kernel) (by decide +kernel)
set_option maxRecDepth 100000 in
theorem se_X7_when : Cond.selects yX7_when.cls yX7_when yX7_when ∈ gT := mem_gT 893 (by decide +kernel) (by decide +kernel)
abbrev MX7_near : MT := (yX7_near, cX7_near, 5, (some .int), { frames := 6, cells := 0, slots := 0, locals := 143 })
set_option maxRecDepth 100000 in
theorem ok_X7_near : okM MX7_near 2 := ⟨ini_X7, mem_gT 902 rfl (by decide +kernel), (by decide +kernel)⟩
set_option maxRecDepth 100000 in
theorem im_X7_near : Cond.instanceMethod yX7_near ∈ gT := mem_gT 900 (by decide +kernel) (by decide +kernel)
set_option maxRecDepth 100000 in
theorem se_X7_near : Cond.selects yX7_near.cls yX7_near yX7_near ∈ gT := mem_gT 901 (by decide +kernel) (by decide +kernel)
abbrev MX7_low : MT := (yX7_low, cX7_low, 4, (some .int), { frames := 6, cells := 0, slots := 0, locals := 143 })
set_option maxRecDepth 100000 in
theorem ok_X7_low : okM MX7_low 1 := ⟨ini_X7, mem_gT 906 rfl (by decide +kernel), (by decide +kernel)⟩
set_option maxRecDepth 100000 in
theorem im_X7_low : Cond.instanceMethod yX7_low ∈ gT := mem_gT 904 (by decide +kernel) (by decide +kernel)
set_option maxRecDepth 100000 in
theorem se_X7_low : Cond.selects yX7_low.cls yX7_low yX7_low ∈ gT := mem_gT 905 (by decide +kernel) (by decide +kernel)
abbrev MX7_without : MT := (yX7_without, cX7_without, 5, (some .int), { frames := 4, cells := 0, slots := 0, locals := 97 })
set_option maxRecDepth 100000 in
theorem ok_X7_without : okM MX7_without 4 := ⟨ini_X7, mem_gT 910 rfl (by decide +kernel), (by decide +kernel)⟩
set_option maxRecDepth 100000 in
theorem im_X7_without : Cond.instanceMethod yX7_without ∈ gT := mem_gT 908 (by decide +kernel) (by decide +kernel)
set_option maxRecDepth 100000 in
theorem se_X7_without : Cond.selects yX7_without.cls yX7_without yX7_without ∈ gT := mem_gT 909 (by decide +kernel) (by decide +kernel)
abbrev MX7_freeOf : MT := (yX7_freeOf, cX7_freeOf, 7, (some .int), { frames := 6, cells := 0, slots := 0, locals := 143 })
set_option maxRecDepth 100000 in
theorem ok_X7_freeOf : okM MX7_freeOf 2 := ⟨ini_X7, mem_gT 918 rfl (by decide +kernel), (by decide +kernel)⟩
set_option maxRecDepth 100000 in
theorem im_X7_freeOf : Cond.instanceMethod yX7_freeOf ∈ gT := mem_gT 917 (by decide +kernel) (by decide +kernel)
set_option maxRecDepth 100000 in
theorem se_X7_freeOf : Cond.selects yX7_freeOf.cls yX7_freeOf yX7_freeOf ∈ gT := mem_gT 60 (by decide +kernel) (by decide +kernel)
abbrev MX7_isFree : MT := (yX7_isFree, cX7_isFree, 6, (some .boolean), { frames := 1, cells := 0, slots := 0, locals := 20 })
set_option maxRecDepth 100000 in
theorem ok_X7_isFree : okM MX7_isFree 2 := ⟨ini_X7, mem_gT 922 rfl (by decide +kernel), (by decide +kernel)⟩
set_option maxRecDepth 100000 in
theorem im_X7_isFree : Cond.instanceMethod yX7_isFree ∈ gT := mem_gT 921 (by decide +kernel) (by decide +kernel)
set_option maxRecDepth 100000 in
theorem se_X7_isFree : Cond.selects yX7_isFree.cls yX7_isFree yX7_isFree ∈ gT := mem_gT 61 (by decide +kernel) (by decide +kernel)
abbrev MX7_free : MT := (yX7_free, cX7_free, 3, (some .int), { frames := 7, cells := 0, slots := 0, locals := 169 })
set_option maxRecDepth 100000 in
theorem ok_X7_free : okM MX7_free 2 := ⟨ini_X7, mem_gT 914 rfl (by decide +kernel), (by decide +kernel)⟩
set_option maxRecDepth 100000 in
theorem im_X7_free : Cond.instanceMethod yX7_free ∈ gT := mem_gT 912 (by decide +kernel) (by decide +kernel)
set_option maxRecDepth 100000 in
theorem se_X7_free : Cond.selects yX7_free.cls yX7_free yX7_free ∈ gT := mem_gT 913 (by decide +kernel) (by decide +kernel)
abbrev MX7_licenceOf : MT := (yX7_licenceOf, cX7_licenceOf, 3, (some .int), { frames := 0, cells := 0, slots := 0, locals := 0 })
set_option maxRecDepth 100000 in
theorem ok_X7_licenceOf : okM MX7_licenceOf 2 := ⟨ini_X7, mem_gT 934 rfl (by decide +kernel), (by decide +kernel)⟩
set_option maxRecDepth 100000 in
theorem im_X7_licenceOf : Cond.instanceMethod yX7_licenceOf ∈ gT := mem_gT 933 (by decide +kernel) (by decide +kernel)
set_option maxRecDepth 100000 in
theorem se_X7_licenceOf : Cond.selects yX7_licenceOf.cls yX7_licenceOf yX7_licenceOf ∈ gT := mem_gT 62 (by decide +kernel) (by decide +kernel)
abbrev MX7_licence : MT := (yX7_licence, cX7_licence, 5, (some .int), { frames := 2, cells := 0, slots := 0, locals := 43 })
set_option maxRecDepth 100000 in
theorem ok_X7_licence : okM MX7_licence 3 := ⟨ini_X7, mem_gT 926 rfl (by decide +kernel), (by decide +kernel)⟩
set_option maxRecDepth 100000 in
theorem im_X7_licence : Cond.instanceMethod yX7_licence ∈ gT := mem_gT 924 (by decide +kernel) (by decide +kernel)
set_option maxRecDepth 100000 in
theorem se_X7_licence : Cond.selects yX7_licence.cls yX7_licence yX7_licence ∈ gT := mem_gT 925 (by decide +kernel) (by decide +kernel)
abbrev MX7_serve : MT := (yX7_serve, cX7_serve, 12, (some .int), { frames := 7, cells := 0, slots := 0, locals := 169 })
set_option maxRecDepth 100000 in
theorem ok_X7_serve : okM MX7_serve 1 := ⟨ini_X7, mem_gT 930 rfl (by decide +kernel), (by decide +kernel)⟩
set_option maxRecDepth 100000 in
theorem im_X7_serve : Cond.instanceMethod yX7_serve ∈ gT := mem_gT 928 (by decide +kernel) (by decide +kernel)
set_option maxRecDepth 100000 in
theorem se_X7_serve : Cond.selects yX7_serve.cls yX7_serve yX7_serve ∈ gT := mem_gT 929 (by decide +kernel) (by decide +kernel)
abbrev MX7_served : MT := (yX7_served, cX7_served, 3, (some .int), { frames := 1, cells := 0, slots := 0, locals := 22 })
set_option maxRecDepth 100000 in
theorem ok_X7_served : okM MX7_served 2 := ⟨ini_X7, mem_gT 938 rfl (by decide +kernel), (by decide +kernel)⟩
set_option maxRecDepth 100000 in
theorem im_X7_served : Cond.instanceMethod yX7_served ∈ gT := mem_gT 936 (by decide +kernel) (by decide +kernel)
set_option maxRecDepth 100000 in
theorem se_X7_served : Cond.selects yX7_served.cls yX7_served yX7_served ∈ gT := mem_gT 937 (by decide +kernel) (by decide +kernel)
abbrev MX7_hold : MT := (yX7_hold, cX7_hold, 7, (some .int), { frames := 5, cells := 0, slots := 0, locals := 121 })
set_option maxRecDepth 100000 in
theorem ok_X7_hold : okM MX7_hold 3 := ⟨ini_X7, mem_gT 942 rfl (by decide +kernel), (by decide +kernel)⟩
set_option maxRecDepth 100000 in
theorem im_X7_hold : Cond.instanceMethod yX7_hold ∈ gT := mem_gT 940 (by decide +kernel) (by decide +kernel)
set_option maxRecDepth 100000 in
theorem se_X7_hold : Cond.selects yX7_hold.cls yX7_hold yX7_hold ∈ gT := mem_gT 941 (by decide +kernel) (by decide +kernel)
abbrev MX7_move : MT := (yX7_move, cX7_move, 7, (some .int), { frames := 4, cells := 0, slots := 0, locals := 98 })
set_option maxRecDepth 100000 in
theorem ok_X7_move : okM MX7_move 3 := ⟨ini_X7, mem_gT 946 rfl (by decide +kernel), (by decide +kernel)⟩
set_option maxRecDepth 100000 in
theorem im_X7_move : Cond.instanceMethod yX7_move ∈ gT := mem_gT 944 (by decide +kernel) (by decide +kernel)
set_option maxRecDepth 100000 in
theorem se_X7_move : Cond.selects yX7_move.cls yX7_move yX7_move ∈ gT := mem_gT 945 (by decide +kernel) (by decide +kernel)
abbrev MX7_mayMove : MT := (yX7_mayMove, cX7_mayMove, 8, (some .boolean), { frames := 3, cells := 0, slots := 0, locals := 71 })
set_option maxRecDepth 100000 in
theorem ok_X7_mayMove : okM MX7_mayMove 5 := ⟨ini_X7, mem_gT 950 rfl (by decide +kernel), (by decide +kernel)⟩
set_option maxRecDepth 100000 in
theorem im_X7_mayMove : Cond.instanceMethod yX7_mayMove ∈ gT := mem_gT 949 (by decide +kernel) (by decide +kernel)
set_option maxRecDepth 100000 in
theorem se_X7_mayMove : Cond.selects yX7_mayMove.cls yX7_mayMove yX7_mayMove ∈ gT := mem_gT 63 (by decide +kernel) (by decide +kernel)
abbrev MX7_reading : MT := (yX7_reading, cX7_reading, 3, (some .int), { frames := 0, cells := 0, slots := 0, locals := 0 })
set_option maxRecDepth 100000 in
theorem ok_X7_reading : okM MX7_reading 2 := ⟨ini_X7, mem_gT 960 rfl (by decide +kernel), (by decide +kernel)⟩
set_option maxRecDepth 100000 in
theorem im_X7_reading : Cond.instanceMethod yX7_reading ∈ gT := mem_gT 959 (by decide +kernel) (by decide +kernel)
set_option maxRecDepth 100000 in
theorem se_X7_reading : Cond.selects yX7_reading.cls yX7_reading yX7_reading ∈ gT := mem_gT 64 (by decide +kernel) (by decide +kernel)
abbrev MX7_read : MT := (yX7_read, cX7_read, 5, (some .int), { frames := 2, cells := 0, slots := 0, locals := 43 })
set_option maxRecDepth 100000 in
theorem ok_X7_read : okM MX7_read 3 := ⟨ini_X7, mem_gT 954 rfl (by decide +kernel), (by decide +kernel)⟩
set_option maxRecDepth 100000 in
theorem im_X7_read : Cond.instanceMethod yX7_read ∈ gT := mem_gT 952 (by decide +kernel) (by decide +kernel)
set_option maxRecDepth 100000 in
theorem se_X7_read : Cond.selects yX7_read.cls yX7_read yX7_read ∈ gT := mem_gT 953 (by decide +kernel) (by decide +kernel)
abbrev MX7_differ : MT := (yX7_differ, cX7_differ, 4, (some .int), { frames := 5, cells := 0, slots := 0, locals := 121 })
set_option maxRecDepth 100000 in
theorem ok_X7_differ : okM MX7_differ 2 := ⟨ini_X7, mem_gT 964 rfl (by decide +kernel), (by decide +kernel)⟩
set_option maxRecDepth 100000 in
theorem im_X7_differ : Cond.instanceMethod yX7_differ ∈ gT := mem_gT 962 (by decide +kernel) (by decide +kernel)
set_option maxRecDepth 100000 in
theorem se_X7_differ : Cond.selects yX7_differ.cls yX7_differ yX7_differ ∈ gT := mem_gT 963 (by decide +kernel) (by decide +kernel)
abbrev MX7_squaresNow : MT := (yX7_squaresNow, cX7_squaresNow, 8, (some .long), { frames := 5, cells := 0, slots := 0, locals := 121 })
set_option maxRecDepth 100000 in
theorem ok_X7_squaresNow : okM MX7_squaresNow 0 := ⟨ini_X7, mem_gT 976 rfl (by decide +kernel), (by decide +kernel)⟩
set_option maxRecDepth 100000 in
theorem im_X7_squaresNow : Cond.instanceMethod yX7_squaresNow ∈ gT := mem_gT 975 (by decide +kernel) (by decide +kernel)
set_option maxRecDepth 100000 in
theorem se_X7_squaresNow : Cond.selects yX7_squaresNow.cls yX7_squaresNow yX7_squaresNow ∈ gT := mem_gT 66 (by decide +kernel) (by decide +kernel)
abbrev MX7_times : MT := (yX7_times, cX7_times, 6, none, { frames := 1, cells := 0, slots := 0, locals := 22 })
set_option maxRecDepth 100000 in
theorem ok_X7_times : okM MX7_times 3 := ⟨ini_X7, mem_gT 972 rfl (by decide +kernel), (by decide +kernel)⟩
set_option maxRecDepth 100000 in
theorem im_X7_times : Cond.instanceMethod yX7_times ∈ gT := mem_gT 971 (by decide +kernel) (by decide +kernel)
set_option maxRecDepth 100000 in
theorem se_X7_times : Cond.selects yX7_times.cls yX7_times yX7_times ∈ gT := mem_gT 65 (by decide +kernel) (by decide +kernel)
abbrev MX7_fit : MT := (yX7_fit, cX7_fit, 9, (some .int), { frames := 6, cells := 0, slots := 0, locals := 148 })
set_option maxRecDepth 100000 in
theorem ok_X7_fit : okM MX7_fit 2 := ⟨ini_X7, mem_gT 968 rfl (by decide +kernel), (by decide +kernel)⟩
set_option maxRecDepth 100000 in
theorem im_X7_fit : Cond.instanceMethod yX7_fit ∈ gT := mem_gT 966 (by decide +kernel) (by decide +kernel)
set_option maxRecDepth 100000 in
theorem se_X7_fit : Cond.selects yX7_fit.cls yX7_fit yX7_fit ∈ gT := mem_gT 967 (by decide +kernel) (by decide +kernel)
abbrev MX7_squares : MT := (yX7_squares, cX7_squares, 1, (some .long), { frames := 6, cells := 0, slots := 0, locals := 148 })
set_option maxRecDepth 100000 in
theorem ok_X7_squares : okM MX7_squares 0 := ⟨ini_X7, mem_gT 980 rfl (by decide +kernel), (by decide +kernel)⟩
set_option maxRecDepth 100000 in
theorem im_X7_squares : Cond.instanceMethod yX7_squares ∈ gT := mem_gT 978 (by decide +kernel) (by decide +kernel)
set_option maxRecDepth 100000 in
theorem se_X7_squares : Cond.selects yX7_squares.cls yX7_squares yX7_squares ∈ gT := mem_gT 979 (by decide +kernel) (by decide +kernel)
abbrev MX7_keep : MT := (yX7_keep, cX7_keep, 2, (some .int), { frames := 1, cells := 0, slots := 0, locals := 20 })
set_option maxRecDepth 100000 in
theorem ok_X7_keep : okM MX7_keep 0 := ⟨ini_X7, mem_gT 984 rfl (by decide +kernel), (by decide +kernel)⟩
set_option maxRecDepth 100000 in
theorem im_X7_keep : Cond.instanceMethod yX7_keep ∈ gT := mem_gT 982 (by decide +kernel) (by decide +kernel)
set_option maxRecDepth 100000 in
theorem se_X7_keep : Cond.selects yX7_keep.cls yX7_keep yX7_keep ∈ gT := mem_gT 983 (by decide +kernel) (by decide +kernel)
abbrev MX7_back : MT := (yX7_back, cX7_back, 2, (some .int), { frames := 1, cells := 0, slots := 0, locals := 21 })
set_option maxRecDepth 100000 in
theorem ok_X7_back : okM MX7_back 0 := ⟨ini_X7, mem_gT 988 rfl (by decide +kernel), (by decide +kernel)⟩
set_option maxRecDepth 100000 in
theorem im_X7_back : Cond.instanceMethod yX7_back ∈ gT := mem_gT 986 (by decide +kernel) (by decide +kernel)
set_option maxRecDepth 100000 in
theorem se_X7_back : Cond.selects yX7_back.cls yX7_back yX7_back ∈ gT := mem_gT 987 (by decide +kernel) (by decide +kernel)
abbrev MX7_told : MT := (yX7_told, cX7_told, 2, (some .int), { frames := 1, cells := 0, slots := 0, locals := 21 })
set_option maxRecDepth 100000 in
theorem ok_X7_told : okM MX7_told 1 := ⟨ini_X7, mem_gT 992 rfl (by decide +kernel), (by decide +kernel)⟩
set_option maxRecDepth 100000 in
theorem im_X7_told : Cond.instanceMethod yX7_told ∈ gT := mem_gT 990 (by decide +kernel) (by decide +kernel)
set_option maxRecDepth 100000 in
theorem se_X7_told : Cond.selects yX7_told.cls yX7_told yX7_told ∈ gT := mem_gT 991 (by decide +kernel) (by decide +kernel)
set_option maxRecDepth 100000 in
theorem lX6_34 : LkS RX6 34 MX6_isKind 1 := ⟨Or.inl (mem_gT 266 (by decide +kernel) (by decide +kernel)), ok_X6_isKind, st_X6_isKind⟩
set_option maxRecDepth 100000 in
theorem lX6_38 : LkS RX6 38 MX6_isPlace 1 := ⟨Or.inl (mem_gT 272 (by decide +kernel) (by decide +kernel)), ok_X6_isPlace, st_X6_isPlace⟩
set_option maxRecDepth 100000 in
theorem lX6_41 : LkS RX6 41 MX6_isHeadBound 1 := ⟨Or.inl (mem_gT 275 (by decide +kernel) (by decide +kernel)), ok_X6_isHeadBound, st_X6_isHeadBound⟩
set_option maxRecDepth 100000 in
theorem lX6_45 : LkV RX6 45 MX6_finding 1 := ⟨Or.inl (mem_gT 281 (by decide +kernel) (by decide +kernel)), ok_X6_finding, im_X6_finding, se_X6_finding⟩
set_option maxRecDepth 100000 in
theorem lX6_59 : LkV RX6 59 MX5_add 4 := ⟨Or.inr ⟨"WellField", mem_nT 286 (by decide +kernel) (by decide +kernel)⟩, ok_X5_add, im_X5_add, se_X5_add⟩
set_option maxRecDepth 100000 in
theorem lX6_63 : LkV RX6 63 MX6_isWell 1 := ⟨Or.inl (mem_gT 295 (by decide +kernel) (by decide +kernel)), ok_X6_isWell, im_X6_isWell, se_X6_isWell⟩
set_option maxRecDepth 100000 in
theorem lX6_70 : LkV RX6 70 MX5_isOneOf 2 := ⟨Or.inr ⟨"WellField", mem_nT 303 (by decide +kernel) (by decide +kernel)⟩, ok_X5_isOneOf, im_X5_isOneOf, se_X5_isOneOf⟩
set_option maxRecDepth 100000 in
theorem lX6_87 : LkV RX6 87 MX4_sumOfDraws 1 := ⟨Or.inr ⟨"WellField", mem_nT 312 (by decide +kernel) (by decide +kernel)⟩, ok_X4_sumOfDraws, im_X4_sumOfDraws, se_X4_sumOfDraws⟩
set_option maxRecDepth 100000 in
theorem lX6_90 : LkV RX6 90 MX5_apart 2 := ⟨Or.inr ⟨"WellField", mem_nT 324 (by decide +kernel) (by decide +kernel)⟩, ok_X5_apart, im_X5_apart, se_X5_apart⟩
set_option maxRecDepth 100000 in
theorem lX6_94 : LkS RX6 94 MX6_isLayer 1 := ⟨Or.inl (mem_gT 341 (by decide +kernel) (by decide +kernel)), ok_X6_isLayer, st_X6_isLayer⟩
set_option maxRecDepth 100000 in
theorem lX6_97 : LkS RX6 97 MX6_isAge 1 := ⟨Or.inl (mem_gT 344 (by decide +kernel) (by decide +kernel)), ok_X6_isAge, st_X6_isAge⟩
set_option maxRecDepth 100000 in
theorem lX6_100 : LkS RX6 100 MX6_isAmount 1 := ⟨Or.inl (mem_gT 347 (by decide +kernel) (by decide +kernel)), ok_X6_isAmount, st_X6_isAmount⟩
set_option maxRecDepth 100000 in
theorem lX6_103 : LkS RX6 103 MX6_within 3 := ⟨Or.inl (mem_gT 269 (by decide +kernel) (by decide +kernel)), ok_X6_within, st_X6_within⟩
set_option maxRecDepth 100000 in
theorem lX6_111 : LkV RX6 111 MX3_keepsOrder 4 := ⟨Or.inr ⟨"WellField", mem_nT 350 (by decide +kernel) (by decide +kernel)⟩, ok_X3_keepsOrder, im_X3_keepsOrder, se_X3_keepsOrder⟩
set_option maxRecDepth 100000 in
theorem lX6_118 : LkS RX6 118 MX3_row 2 := ⟨Or.inr ⟨"WellField", mem_nT 355 (by decide +kernel) (by decide +kernel)⟩, ok_X3_row, st_X3_row⟩
set_option maxRecDepth 100000 in
theorem lX6_127 : LkS RX6 127 MX6_isSheet 1 := ⟨Or.inl (mem_gT 364 (by decide +kernel) (by decide +kernel)), ok_X6_isSheet, st_X6_isSheet⟩
set_option maxRecDepth 100000 in
theorem lX6_130 : LkV RX6 130 MX2_start 2 := ⟨Or.inr ⟨"WellField", mem_nT 367 (by decide +kernel) (by decide +kernel)⟩, ok_X2_start, im_X2_start, se_X2_start⟩
set_option maxRecDepth 100000 in
theorem lX6_133 : LkV RX6 133 MX2_isMissing 0 := ⟨Or.inr ⟨"WellField", mem_nT 378 (by decide +kernel) (by decide +kernel)⟩, ok_X2_isMissing, im_X2_isMissing, se_X2_isMissing⟩
set_option maxRecDepth 100000 in
theorem lX6_139 : LkV RX6 139 MX2_write 2 := ⟨Or.inr ⟨"WellField", mem_nT 383 (by decide +kernel) (by decide +kernel)⟩, ok_X2_write, im_X2_write, se_X2_write⟩
set_option maxRecDepth 100000 in
theorem lX6_146 : LkV RX6 146 MX2_hasPart 2 := ⟨Or.inr ⟨"WellField", mem_nT 397 (by decide +kernel) (by decide +kernel)⟩, ok_X2_hasPart, im_X2_hasPart, se_X2_hasPart⟩
set_option maxRecDepth 100000 in
theorem lX6_152 : Cond.methodLink RX6 152 arraycopyName ∈ gT := mem_gT 401 (by decide +kernel) (by decide +kernel)
set_option maxRecDepth 100000 in
theorem lX6_158 : LkS RX6 158 MX6_isMonth 1 := ⟨Or.inl (mem_gT 408 (by decide +kernel) (by decide +kernel)), ok_X6_isMonth, st_X6_isMonth⟩
set_option maxRecDepth 100000 in
theorem lX6_161 : Cond.methodLink RX6 161 Lib.Math.min.name ∈ gT := mem_gT 411 (by decide +kernel) (by decide +kernel)
set_option maxRecDepth 100000 in
theorem lX6_166 : LkV RX6 166 MX2_startsWithNumbers 1 := ⟨Or.inr ⟨"WellField", mem_nT 412 (by decide +kernel) (by decide +kernel)⟩, ok_X2_startsWithNumbers, im_X2_startsWithNumbers, se_X2_startsWithNumbers⟩
set_option maxRecDepth 100000 in
theorem lX6_170 : LkV RX6 170 MX2_startsWithAmounts 1 := ⟨Or.inr ⟨"WellField", mem_nT 417 (by decide +kernel) (by decide +kernel)⟩, ok_X2_startsWithAmounts, im_X2_startsWithAmounts, se_X2_startsWithAmounts⟩
set_option maxRecDepth 100000 in
theorem lX6_173 : LkV RX6 173 MX2_whole 1 := ⟨Or.inr ⟨"WellField", mem_nT 431 (by decide +kernel) (by decide +kernel)⟩, ok_X2_whole, im_X2_whole, se_X2_whole⟩
set_option maxRecDepth 100000 in
theorem lX6_176 : LkV RX6 176 MX4_setDraw 3 := ⟨Or.inr ⟨"WellField", mem_nT 432 (by decide +kernel) (by decide +kernel)⟩, ok_X4_setDraw, im_X4_setDraw, se_X4_setDraw⟩
set_option maxRecDepth 100000 in
theorem lX6_180 : LkV RX6 180 MX4_drawOf 2 := ⟨Or.inr ⟨"WellField", mem_nT 440 (by decide +kernel) (by decide +kernel)⟩, ok_X4_drawOf, im_X4_drawOf, se_X4_drawOf⟩
set_option maxRecDepth 100000 in
theorem lX6_183 : LkV RX6 183 MX4_counted 2 := ⟨Or.inr ⟨"WellField", mem_nT 445 (by decide +kernel) (by decide +kernel)⟩, ok_X4_counted, im_X4_counted, se_X4_counted⟩
set_option maxRecDepth 100000 in
theorem lX6_192 : LkS RX6 192 MX6_clear 1 := ⟨Or.inl (mem_gT 463 (by decide +kernel) (by decide +kernel)), ok_X6_clear, st_X6_clear⟩
set_option maxRecDepth 100000 in
theorem lX6_196 : LkV RX6 196 MX4_headOf 2 := ⟨Or.inr ⟨"WellField", mem_nT 468 (by decide +kernel) (by decide +kernel)⟩, ok_X4_headOf, im_X4_headOf, se_X4_headOf⟩
set_option maxRecDepth 100000 in
theorem lX6_199 : LkV RX6 199 MX4_lowering 4 := ⟨Or.inr ⟨"WellField", mem_nT 495 (by decide +kernel) (by decide +kernel)⟩, ok_X4_lowering, im_X4_lowering, se_X4_lowering⟩
set_option maxRecDepth 100000 in
theorem lX6_202 : LkV RX6 202 MX4_raisedByRain 1 := ⟨Or.inr ⟨"WellField", mem_nT 500 (by decide +kernel) (by decide +kernel)⟩, ok_X4_raisedByRain, im_X4_raisedByRain, se_X4_raisedByRain⟩
set_option maxRecDepth 100000 in
theorem lX6_206 : LkV RX6 206 MX4_aboveLimit 2 := ⟨Or.inr ⟨"WellField", mem_nT 510 (by decide +kernel) (by decide +kernel)⟩, ok_X4_aboveLimit, im_X4_aboveLimit, se_X4_aboveLimit⟩
set_option maxRecDepth 100000 in
theorem lX6_209 : LkV RX6 209 MX4_findSpare 1 := ⟨Or.inr ⟨"WellField", mem_nT 531 (by decide +kernel) (by decide +kernel)⟩, ok_X4_findSpare, im_X4_findSpare, se_X4_findSpare⟩
set_option maxRecDepth 100000 in
theorem lX6_213 : LkV RX6 213 MX4_freeOf 2 := ⟨Or.inr ⟨"WellField", mem_nT 535 (by decide +kernel) (by decide +kernel)⟩, ok_X4_freeOf, im_X4_freeOf, se_X4_freeOf⟩
set_option maxRecDepth 100000 in
theorem lX6_216 : LkV RX6 216 MX5_isDrawing 1 := ⟨Or.inr ⟨"WellField", mem_nT 553 (by decide +kernel) (by decide +kernel)⟩, ok_X5_isDrawing, im_X5_isDrawing, se_X5_isDrawing⟩
set_option maxRecDepth 100000 in
theorem lX6_226 : LkV RX6 226 MX0_add 3 := ⟨Or.inr ⟨"WellField", mem_nT 554 (by decide +kernel) (by decide +kernel)⟩, ok_X0_add, im_X0_add, se_X0_add⟩
set_option maxRecDepth 100000 in
theorem lX6_229 : LkV RX6 229 MX4_unserve 1 := ⟨Or.inr ⟨"WellField", mem_nT 562 (by decide +kernel) (by decide +kernel)⟩, ok_X4_unserve, im_X4_unserve, se_X4_unserve⟩
set_option maxRecDepth 100000 in
theorem lX6_232 : LkV RX6 232 MX0_nextUnserved 0 := ⟨Or.inr ⟨"WellField", mem_nT 567 (by decide +kernel) (by decide +kernel)⟩, ok_X0_nextUnserved, im_X0_nextUnserved, se_X0_nextUnserved⟩
set_option maxRecDepth 100000 in
theorem lX6_238 : LkV RX6 238 MX4_grant 3 := ⟨Or.inr ⟨"WellField", mem_nT 571 (by decide +kernel) (by decide +kernel)⟩, ok_X4_grant, im_X4_grant, se_X4_grant⟩
set_option maxRecDepth 100000 in
theorem lX6_247 : LkV RX6 247 MX4_leastToHold 3 := ⟨Or.inr ⟨"WellField", mem_nT 591 (by decide +kernel) (by decide +kernel)⟩, ok_X4_leastToHold, im_X4_leastToHold, se_X4_leastToHold⟩
set_option maxRecDepth 100000 in
theorem lX6_250 : LkV RX6 250 MX4_mostToMove 3 := ⟨Or.inr ⟨"WellField", mem_nT 599 (by decide +kernel) (by decide +kernel)⟩, ok_X4_mostToMove, im_X4_mostToMove, se_X4_mostToMove⟩
set_option maxRecDepth 100000 in
theorem lX6_259 : LkV RX6 259 MX1_has 2 := ⟨Or.inr ⟨"WellField", mem_nT 610 (by decide +kernel) (by decide +kernel)⟩, ok_X1_has, im_X1_has, se_X1_has⟩
set_option maxRecDepth 100000 in
theorem lX6_265 : LkV RX6 265 MX1_write 3 := ⟨Or.inr ⟨"WellField", mem_nT 614 (by decide +kernel) (by decide +kernel)⟩, ok_X1_write, im_X1_write, se_X1_write⟩
set_option maxRecDepth 100000 in
theorem lX6_267 : LkV RX6 267 MX1_at 2 := ⟨Or.inr ⟨"WellField", mem_nT 623 (by decide +kernel) (by decide +kernel)⟩, ok_X1_at, im_X1_at, se_X1_at⟩
set_option maxRecDepth 100000 in
theorem lX6_270 : LkV RX6 270 MX3_startTrial 2 := ⟨Or.inr ⟨"WellField", mem_nT 631 (by decide +kernel) (by decide +kernel)⟩, ok_X3_startTrial, im_X3_startTrial, se_X3_startTrial⟩
set_option maxRecDepth 100000 in
theorem lX6_273 : LkV RX6 273 MX3_tryFactor 3 := ⟨Or.inr ⟨"WellField", mem_nT 635 (by decide +kernel) (by decide +kernel)⟩, ok_X3_tryFactor, im_X3_tryFactor, se_X3_tryFactor⟩
set_option maxRecDepth 100000 in
theorem lX6_276 : LkV RX6 276 MX4_sumOfSquares 0 := ⟨Or.inr ⟨"WellField", mem_nT 640 (by decide +kernel) (by decide +kernel)⟩, ok_X4_sumOfSquares, im_X4_sumOfSquares, se_X4_sumOfSquares⟩
set_option maxRecDepth 100000 in
theorem lX6_280 : LkV RX6 280 MX4_take 1 := ⟨Or.inr ⟨"WellField", mem_nT 654 (by decide +kernel) (by decide +kernel)⟩, ok_X4_take, im_X4_take, se_X4_take⟩
set_option maxRecDepth 100000 in
theorem lX0_28 : LkS RX0 28 MX6_copyRow 2 := ⟨Or.inr ⟨"WellField", mem_nT 674 (by decide +kernel) (by decide +kernel)⟩, ok_X6_copyRow, st_X6_copyRow⟩
set_option maxRecDepth 100000 in
theorem lX1_22 : LkV RX1 22 MX1_has 2 := ⟨Or.inl (mem_gT 618 (by decide +kernel) (by decide +kernel)), ok_X1_has, im_X1_has, se_X1_has⟩
set_option maxRecDepth 100000 in
theorem lX1_26 : LkS RX1 26 MX6_copyRow 2 := ⟨Or.inr ⟨"WellField", mem_nT 679 (by decide +kernel) (by decide +kernel)⟩, ok_X6_copyRow, st_X6_copyRow⟩
set_option maxRecDepth 100000 in
theorem lX2_22 : LkS RX2 22 MX6_clear 1 := ⟨Or.inr ⟨"WellField", mem_nT 371 (by decide +kernel) (by decide +kernel)⟩, ok_X6_clear, st_X6_clear⟩
set_option maxRecDepth 100000 in
theorem lX2_26 : LkS RX2 26 MX2_isNoNumber 1 := ⟨Or.inl (mem_gT 387 (by decide +kernel) (by decide +kernel)), ok_X2_isNoNumber, st_X2_isNoNumber⟩
set_option maxRecDepth 100000 in
theorem lX2_31 : LkV RX2 31 MX2_whole 1 := ⟨Or.inl (mem_gT 421 (by decide +kernel) (by decide +kernel)), ok_X2_whole, im_X2_whole, se_X2_whole⟩
set_option maxRecDepth 100000 in
theorem lX2_35 : LkS RX2 35 MX6_isAmount 1 := ⟨Or.inr ⟨"WellField", mem_nT 430 (by decide +kernel) (by decide +kernel)⟩, ok_X6_isAmount, st_X6_isAmount⟩
set_option maxRecDepth 100000 in
theorem lX2_38 : LkS RX2 38 MX2_cut 1 := ⟨Or.inl (mem_gT 425 (by decide +kernel) (by decide +kernel)), ok_X2_cut, st_X2_cut⟩
set_option maxRecDepth 100000 in
theorem lX3_21 : LkS RX3 21 MX3_row 2 := ⟨Or.inl (mem_gT 134 (by decide +kernel) (by decide +kernel)), ok_X3_row, st_X3_row⟩
set_option maxRecDepth 100000 in
theorem lX3_25 : Cond.methodLink RX3 25 Lib.Math.min.name ∈ gT := mem_gT 639 (by decide +kernel) (by decide +kernel)
set_option maxRecDepth 100000 in
theorem lX3_30 : LkS RX3 30 MX6_copyRow 2 := ⟨Or.inr ⟨"WellField", mem_nT 669 (by decide +kernel) (by decide +kernel)⟩, ok_X6_copyRow, st_X6_copyRow⟩
set_option maxRecDepth 100000 in
theorem lX4_49 : LkV RX4 49 MX4_drawOf 2 := ⟨Or.inl (mem_gT 316 (by decide +kernel) (by decide +kernel)), ok_X4_drawOf, im_X4_drawOf, se_X4_drawOf⟩
set_option maxRecDepth 100000 in
theorem lX4_53 : LkV RX4 53 MX5_isOwnMonth 2 := ⟨Or.inr ⟨"WellField", mem_nT 449 (by decide +kernel) (by decide +kernel)⟩, ok_X5_isOwnMonth, im_X5_isOwnMonth, se_X5_isOwnMonth⟩
set_option maxRecDepth 100000 in
theorem lX4_63 : LkV RX4 63 MX5_layer 2 := ⟨Or.inr ⟨"WellField", mem_nT 485 (by decide +kernel) (by decide +kernel)⟩, ok_X5_layer, im_X5_layer, se_X5_layer⟩
set_option maxRecDepth 100000 in
theorem lX4_66 : LkV RX4 66 MX5_apart 2 := ⟨Or.inr ⟨"WellField", mem_nT 489 (by decide +kernel) (by decide +kernel)⟩, ok_X5_apart, im_X5_apart, se_X5_apart⟩
set_option maxRecDepth 100000 in
theorem lX4_69 : LkS RX4 69 MX3_row 2 := ⟨Or.inr ⟨"WellField", mem_nT 490 (by decide +kernel) (by decide +kernel)⟩, ok_X3_row, st_X3_row⟩
set_option maxRecDepth 100000 in
theorem lX4_72 : LkV RX4 72 MX4_rowBetween 2 := ⟨Or.inl (mem_gT 481 (by decide +kernel) (by decide +kernel)), ok_X4_rowBetween, im_X4_rowBetween, se_X4_rowBetween⟩
set_option maxRecDepth 100000 in
theorem lX4_75 : Cond.methodLink RX4 75 Lib.Math.max.name ∈ gT := mem_gT 476 (by decide +kernel) (by decide +kernel)
set_option maxRecDepth 100000 in
theorem lX4_89 : LkV RX4 89 MX4_raisedByRain 1 := ⟨Or.inl (mem_gT 472 (by decide +kernel) (by decide +kernel)), ok_X4_raisedByRain, im_X4_raisedByRain, se_X4_raisedByRain⟩
set_option maxRecDepth 100000 in
theorem lX4_97 : LkV RX4 97 MX4_lowering 4 := ⟨Or.inl (mem_gT 477 (by decide +kernel) (by decide +kernel)), ok_X4_lowering, im_X4_lowering, se_X4_lowering⟩
set_option maxRecDepth 100000 in
theorem lX4_101 : LkV RX4 101 MX4_headOf 2 := ⟨Or.inl (mem_gT 514 (by decide +kernel) (by decide +kernel)), ok_X4_headOf, im_X4_headOf, se_X4_headOf⟩
set_option maxRecDepth 100000 in
theorem lX4_107 : LkV RX4 107 MX4_loweringOfOneMore 4 := ⟨Or.inl (mem_gT 544 (by decide +kernel) (by decide +kernel)), ok_X4_loweringOfOneMore, im_X4_loweringOfOneMore, se_X4_loweringOfOneMore⟩
set_option maxRecDepth 100000 in
theorem lX4_110 : LkV RX4 110 MX5_isDrawing 1 := ⟨Or.inr ⟨"WellField", mem_nT 539 (by decide +kernel) (by decide +kernel)⟩, ok_X5_isDrawing, im_X5_isDrawing, se_X5_isDrawing⟩
set_option maxRecDepth 100000 in
theorem lX4_114 : Cond.methodLink RX4 114 Lib.Math.min.name ∈ gT := mem_gT 548 (by decide +kernel) (by decide +kernel)
set_option maxRecDepth 100000 in
theorem lX4_123 : LkV RX4 123 MX4_setDraw 3 := ⟨Or.inl (mem_gT 566 (by decide +kernel) (by decide +kernel)), ok_X4_setDraw, im_X4_setDraw, se_X4_setDraw⟩
set_option maxRecDepth 100000 in
theorem lX4_130 : LkV RX4 130 MX4_roomForDraws 2 := ⟨Or.inl (mem_gT 575 (by decide +kernel) (by decide +kernel)), ok_X4_roomForDraws, im_X4_roomForDraws, se_X4_roomForDraws⟩
set_option maxRecDepth 100000 in
theorem lX4_133 : LkV RX4 133 MX4_useSpare 3 := ⟨Or.inl (mem_gT 579 (by decide +kernel) (by decide +kernel)), ok_X4_useSpare, im_X4_useSpare, se_X4_useSpare⟩
set_option maxRecDepth 100000 in
theorem lX4_136 : LkV RX4 136 MX4_counted 2 := ⟨Or.inl (mem_gT 603 (by decide +kernel) (by decide +kernel)), ok_X4_counted, im_X4_counted, se_X4_counted⟩
set_option maxRecDepth 100000 in
theorem lX4_139 : LkV RX4 139 MX1_has 2 := ⟨Or.inr ⟨"WellField", mem_nT 644 (by decide +kernel) (by decide +kernel)⟩, ok_X1_has, im_X1_has, se_X1_has⟩
set_option maxRecDepth 100000 in
theorem lX4_142 : LkV RX4 142 MX1_at 2 := ⟨Or.inr ⟨"WellField", mem_nT 645 (by decide +kernel) (by decide +kernel)⟩, ok_X1_at, im_X1_at, se_X1_at⟩
set_option maxRecDepth 100000 in
theorem lX4_145 : LkV RX4 145 MX5_take 1 := ⟨Or.inr ⟨"WellField", mem_nT 658 (by decide +kernel) (by decide +kernel)⟩, ok_X5_take, im_X5_take, se_X5_take⟩
set_option maxRecDepth 100000 in
theorem lX4_149 : LkV RX4 149 MX3_take 1 := ⟨Or.inr ⟨"WellField", mem_nT 665 (by decide +kernel) (by decide +kernel)⟩, ok_X3_take, im_X3_take, se_X3_take⟩
set_option maxRecDepth 100000 in
theorem lX4_152 : LkV RX4 152 MX0_take 1 := ⟨Or.inr ⟨"WellField", mem_nT 670 (by decide +kernel) (by decide +kernel)⟩, ok_X0_take, im_X0_take, se_X0_take⟩
set_option maxRecDepth 100000 in
theorem lX4_155 : LkV RX4 155 MX1_take 1 := ⟨Or.inr ⟨"WellField", mem_nT 675 (by decide +kernel) (by decide +kernel)⟩, ok_X1_take, im_X1_take, se_X1_take⟩
set_option maxRecDepth 100000 in
theorem lX4_158 : LkS RX4 158 MX6_copyRow 2 := ⟨Or.inr ⟨"WellField", mem_nT 680 (by decide +kernel) (by decide +kernel)⟩, ok_X6_copyRow, st_X6_copyRow⟩
set_option maxRecDepth 100000 in
theorem lX5_35 : Cond.methodLink RX5 35 Lib.Math.abs.name ∈ gT := mem_gT 328 (by decide +kernel) (by decide +kernel)
set_option maxRecDepth 100000 in
theorem lX5_41 : Cond.methodLink RX5 41 Lib.Math.max.name ∈ gT := mem_gT 331 (by decide +kernel) (by decide +kernel)
set_option maxRecDepth 100000 in
theorem lX5_45 : Cond.methodLink RX5 45 Lib.Math.min.name ∈ gT := mem_gT 334 (by decide +kernel) (by decide +kernel)
set_option maxRecDepth 100000 in
theorem lX5_48 : LkS RX5 48 MX6_copyRow 2 := ⟨Or.inr ⟨"WellField", mem_nT 662 (by decide +kernel) (by decide +kernel)⟩, ok_X6_copyRow, st_X6_copyRow⟩
set_option maxRecDepth 100000 in
theorem lL_13 : LkV RL 13 MX6_well 4 := ⟨Or.inl (mem_gT 262 (by decide +kernel) (by decide +kernel)), ok_X6_well, im_X6_well, se_X6_well⟩
set_option maxRecDepth 100000 in
theorem lL_17 : LkV RL 17 MX7_well 4 := ⟨Or.inl (mem_gT 732 (by decide +kernel) (by decide +kernel)), ok_X7_well, im_X7_well, se_X7_well⟩
set_option maxRecDepth 100000 in
theorem lL_18 : LkV RL 18 MX6_limit 2 := ⟨Or.inl (mem_gT 291 (by decide +kernel) (by decide +kernel)), ok_X6_limit, im_X6_limit, se_X6_limit⟩
set_option maxRecDepth 100000 in
theorem lL_22 : LkV RL 22 MX7_limit 2 := ⟨Or.inl (mem_gT 754 (by decide +kernel) (by decide +kernel)), ok_X7_limit, im_X7_limit, se_X7_limit⟩
set_option maxRecDepth 100000 in
theorem lL_23 : LkV RL 23 MX6_as 2 := ⟨Or.inl (mem_gT 299 (by decide +kernel) (by decide +kernel)), ok_X6_as, im_X6_as, se_X6_as⟩
set_option maxRecDepth 100000 in
theorem lL_26 : LkV RL 26 MX7_as 2 := ⟨Or.inl (mem_gT 766 (by decide +kernel) (by decide +kernel)), ok_X7_as, im_X7_as, se_X7_as⟩
set_option maxRecDepth 100000 in
theorem lL_27 : LkV RL 27 MX6_of 2 := ⟨Or.inl (mem_gT 308 (by decide +kernel) (by decide +kernel)), ok_X6_of, im_X6_of, se_X6_of⟩
set_option maxRecDepth 100000 in
theorem lL_30 : LkV RL 30 MX7_of 2 := ⟨Or.inl (mem_gT 775 (by decide +kernel) (by decide +kernel)), ok_X7_of, im_X7_of, se_X7_of⟩
set_option maxRecDepth 100000 in
theorem lL_31 : LkV RL 31 MX6_distance 2 := ⟨Or.inl (mem_gT 320 (by decide +kernel) (by decide +kernel)), ok_X6_distance, im_X6_distance, se_X6_distance⟩
set_option maxRecDepth 100000 in
theorem lL_34 : LkV RL 34 MX7_distance 2 := ⟨Or.inl (mem_gT 783 (by decide +kernel) (by decide +kernel)), ok_X7_distance, im_X7_distance, se_X7_distance⟩
set_option maxRecDepth 100000 in
theorem lL_35 : LkV RL 35 MX6_table 4 := ⟨Or.inl (mem_gT 337 (by decide +kernel) (by decide +kernel)), ok_X6_table, im_X6_table, se_X6_table⟩
set_option maxRecDepth 100000 in
theorem lL_38 : LkV RL 38 MX7_table 4 := ⟨Or.inl (mem_gT 791 (by decide +kernel) (by decide +kernel)), ok_X7_table, im_X7_table, se_X7_table⟩
set_option maxRecDepth 100000 in
theorem lL_39 : LkV RL 39 MX6_rainTable 2 := ⟨Or.inl (mem_gT 356 (by decide +kernel) (by decide +kernel)), ok_X6_rainTable, im_X6_rainTable, se_X6_rainTable⟩
set_option maxRecDepth 100000 in
theorem lL_42 : LkV RL 42 MX7_rainTable 2 := ⟨Or.inl (mem_gT 799 (by decide +kernel) (by decide +kernel)), ok_X7_rainTable, im_X7_rainTable, se_X7_rainTable⟩
set_option maxRecDepth 100000 in
theorem lL_43 : LkV RL 43 MX6_sheet 3 := ⟨Or.inl (mem_gT 360 (by decide +kernel) (by decide +kernel)), ok_X6_sheet, im_X6_sheet, se_X6_sheet⟩
set_option maxRecDepth 100000 in
theorem lL_47 : LkV RL 47 MX7_sheet 3 := ⟨Or.inl (mem_gT 803 (by decide +kernel) (by decide +kernel)), ok_X7_sheet, im_X7_sheet, se_X7_sheet⟩
set_option maxRecDepth 100000 in
theorem lL_48 : LkV RL 48 MX6_put 3 := ⟨Or.inl (mem_gT 374 (by decide +kernel) (by decide +kernel)), ok_X6_put, im_X6_put, se_X6_put⟩
set_option maxRecDepth 100000 in
theorem lL_51 : LkV RL 51 MX7_put 3 := ⟨Or.inl (mem_gT 810 (by decide +kernel) (by decide +kernel)), ok_X7_put, im_X7_put, se_X7_put⟩
set_option maxRecDepth 100000 in
theorem lL_52 : LkV RL 52 MX6_copy 5 := ⟨Or.inl (mem_gT 393 (by decide +kernel) (by decide +kernel)), ok_X6_copy, im_X6_copy, se_X6_copy⟩
set_option maxRecDepth 100000 in
theorem lL_56 : LkV RL 56 MX7_copy 5 := ⟨Or.inl (mem_gT 821 (by decide +kernel) (by decide +kernel)), ok_X7_copy, im_X7_copy, se_X7_copy⟩
set_option maxRecDepth 100000 in
theorem lL_57 : LkV RL 57 MX6_draws 3 := ⟨Or.inl (mem_gT 404 (by decide +kernel) (by decide +kernel)), ok_X6_draws, im_X6_draws, se_X6_draws⟩
set_option maxRecDepth 100000 in
theorem lL_60 : LkV RL 60 MX7_draws 3 := ⟨Or.inl (mem_gT 825 (by decide +kernel) (by decide +kernel)), ok_X7_draws, im_X7_draws, se_X7_draws⟩
set_option maxRecDepth 100000 in
theorem lL_61 : LkV RL 61 MX6_draw 3 := ⟨Or.inl (mem_gT 436 (by decide +kernel) (by decide +kernel)), ok_X6_draw, im_X6_draw, se_X6_draw⟩
set_option maxRecDepth 100000 in
theorem lL_64 : LkV RL 64 MX7_draw 3 := ⟨Or.inl (mem_gT 838 (by decide +kernel) (by decide +kernel)), ok_X7_draw, im_X7_draw, se_X7_draw⟩
set_option maxRecDepth 100000 in
theorem lL_65 : LkV RL 65 MX6_counts 2 := ⟨Or.inl (mem_gT 441 (by decide +kernel) (by decide +kernel)), ok_X6_counts, im_X6_counts, se_X6_counts⟩
set_option maxRecDepth 100000 in
theorem lL_68 : LkV RL 68 MX7_counts 2 := ⟨Or.inl (mem_gT 842 (by decide +kernel) (by decide +kernel)), ok_X7_counts, im_X7_counts, se_X7_counts⟩
set_option maxRecDepth 100000 in
theorem lL_69 : LkV RL 69 MX6_rain 2 := ⟨Or.inl (mem_gT 455 (by decide +kernel) (by decide +kernel)), ok_X6_rain, im_X6_rain, se_X6_rain⟩
set_option maxRecDepth 100000 in
theorem lL_72 : LkV RL 72 MX7_rain 2 := ⟨Or.inl (mem_gT 850 (by decide +kernel) (by decide +kernel)), ok_X7_rain, im_X7_rain, se_X7_rain⟩
set_option maxRecDepth 100000 in
theorem lL_73 : LkV RL 73 MX6_dry 0 := ⟨Or.inl (mem_gT 459 (by decide +kernel) (by decide +kernel)), ok_X6_dry, im_X6_dry, se_X6_dry⟩
set_option maxRecDepth 100000 in
theorem lL_77 : LkV RL 77 MX7_dry 0 := ⟨Or.inl (mem_gT 854 (by decide +kernel) (by decide +kernel)), ok_X7_dry, im_X7_dry, se_X7_dry⟩
set_option maxRecDepth 100000 in
theorem lL_78 : LkV RL 78 MX6_head 2 := ⟨Or.inl (mem_gT 464 (by decide +kernel) (by decide +kernel)), ok_X6_head, im_X6_head, se_X6_head⟩
set_option maxRecDepth 100000 in
theorem lL_81 : LkV RL 81 MX7_head 2 := ⟨Or.inl (mem_gT 858 (by decide +kernel) (by decide +kernel)), ok_X7_head, im_X7_head, se_X7_head⟩
set_option maxRecDepth 100000 in
theorem lL_82 : LkV RL 82 MX6_by 3 := ⟨Or.inl (mem_gT 491 (by decide +kernel) (by decide +kernel)), ok_X6_by, im_X6_by, se_X6_by⟩
set_option maxRecDepth 100000 in
theorem lL_85 : LkV RL 85 MX7_by 3 := ⟨Or.inl (mem_gT 878 (by decide +kernel) (by decide +kernel)), ok_X7_by, im_X7_by, se_X7_by⟩
set_option maxRecDepth 100000 in
theorem lL_86 : LkV RL 86 MX6_rained 2 := ⟨Or.inl (mem_gT 496 (by decide +kernel) (by decide +kernel)), ok_X6_rained, im_X6_rained, se_X6_rained⟩
set_option maxRecDepth 100000 in
theorem lL_89 : LkV RL 89 MX7_rained 2 := ⟨Or.inl (mem_gT 882 (by decide +kernel) (by decide +kernel)), ok_X7_rained, im_X7_rained, se_X7_rained⟩
set_option maxRecDepth 100000 in
theorem lL_90 : LkV RL 90 MX6_most 2 := ⟨Or.inl (mem_gT 501 (by decide +kernel) (by decide +kernel)), ok_X6_most, im_X6_most, se_X6_most⟩
set_option maxRecDepth 100000 in
theorem lL_93 : LkV RL 93 MX7_most 2 := ⟨Or.inl (mem_gT 886 (by decide +kernel) (by decide +kernel)), ok_X7_most, im_X7_most, se_X7_most⟩
set_option maxRecDepth 100000 in
theorem lL_94 : LkV RL 94 MX6_when 2 := ⟨Or.inl (mem_gT 506 (by decide +kernel) (by decide +kernel)), ok_X6_when, im_X6_when, se_X6_when⟩
set_option maxRecDepth 100000 in
theorem lL_97 : LkV RL 97 MX7_when 2 := ⟨Or.inl (mem_gT 891 (by decide +kernel) (by decide +kernel)), ok_X7_when, im_X7_when, se_X7_when⟩
set_option maxRecDepth 100000 in
theorem lL_98 : LkV RL 98 MX6_near 2 := ⟨Or.inl (mem_gT 515 (by decide +kernel) (by decide +kernel)), ok_X6_near, im_X6_near, se_X6_near⟩
set_option maxRecDepth 100000 in
theorem lL_101 : LkV RL 101 MX7_near 2 := ⟨Or.inl (mem_gT 899 (by decide +kernel) (by decide +kernel)), ok_X7_near, im_X7_near, se_X7_near⟩
set_option maxRecDepth 100000 in
theorem lL_102 : LkV RL 102 MX6_low 1 := ⟨Or.inl (mem_gT 519 (by decide +kernel) (by decide +kernel)), ok_X6_low, im_X6_low, se_X6_low⟩
set_option maxRecDepth 100000 in
theorem lL_106 : LkV RL 106 MX7_low 1 := ⟨Or.inl (mem_gT 903 (by decide +kernel) (by decide +kernel)), ok_X7_low, im_X7_low, se_X7_low⟩
set_option maxRecDepth 100000 in
theorem lL_107 : LkV RL 107 MX6_without 4 := ⟨Or.inl (mem_gT 523 (by decide +kernel) (by decide +kernel)), ok_X6_without, im_X6_without, se_X6_without⟩
set_option maxRecDepth 100000 in
theorem lL_110 : LkV RL 110 MX7_without 4 := ⟨Or.inl (mem_gT 907 (by decide +kernel) (by decide +kernel)), ok_X7_without, im_X7_without, se_X7_without⟩
set_option maxRecDepth 100000 in
theorem lL_111 : LkV RL 111 MX6_free 2 := ⟨Or.inl (mem_gT 527 (by decide +kernel) (by decide +kernel)), ok_X6_free, im_X6_free, se_X6_free⟩
set_option maxRecDepth 100000 in
theorem lL_114 : LkV RL 114 MX7_free 2 := ⟨Or.inl (mem_gT 911 (by decide +kernel) (by decide +kernel)), ok_X7_free, im_X7_free, se_X7_free⟩
set_option maxRecDepth 100000 in
theorem lL_115 : LkV RL 115 MX6_licence 3 := ⟨Or.inl (mem_gT 549 (by decide +kernel) (by decide +kernel)), ok_X6_licence, im_X6_licence, se_X6_licence⟩
set_option maxRecDepth 100000 in
theorem lL_118 : LkV RL 118 MX7_licence 3 := ⟨Or.inl (mem_gT 923 (by decide +kernel) (by decide +kernel)), ok_X7_licence, im_X7_licence, se_X7_licence⟩
set_option maxRecDepth 100000 in
theorem lL_119 : LkV RL 119 MX6_serve 1 := ⟨Or.inl (mem_gT 558 (by decide +kernel) (by decide +kernel)), ok_X6_serve, im_X6_serve, se_X6_serve⟩
set_option maxRecDepth 100000 in
theorem lL_122 : LkV RL 122 MX7_serve 1 := ⟨Or.inl (mem_gT 927 (by decide +kernel) (by decide +kernel)), ok_X7_serve, im_X7_serve, se_X7_serve⟩
set_option maxRecDepth 100000 in
theorem lL_123 : LkV RL 123 MX6_served 2 := ⟨Or.inl (mem_gT 583 (by decide +kernel) (by decide +kernel)), ok_X6_served, im_X6_served, se_X6_served⟩
set_option maxRecDepth 100000 in
theorem lL_127 : LkV RL 127 MX7_served 2 := ⟨Or.inl (mem_gT 935 (by decide +kernel) (by decide +kernel)), ok_X7_served, im_X7_served, se_X7_served⟩
set_option maxRecDepth 100000 in
theorem lL_128 : LkV RL 128 MX6_hold 3 := ⟨Or.inl (mem_gT 587 (by decide +kernel) (by decide +kernel)), ok_X6_hold, im_X6_hold, se_X6_hold⟩
set_option maxRecDepth 100000 in
theorem lL_131 : LkV RL 131 MX7_hold 3 := ⟨Or.inl (mem_gT 939 (by decide +kernel) (by decide +kernel)), ok_X7_hold, im_X7_hold, se_X7_hold⟩
set_option maxRecDepth 100000 in
theorem lL_132 : LkV RL 132 MX6_move 3 := ⟨Or.inl (mem_gT 595 (by decide +kernel) (by decide +kernel)), ok_X6_move, im_X6_move, se_X6_move⟩
set_option maxRecDepth 100000 in
theorem lL_135 : LkV RL 135 MX7_move 3 := ⟨Or.inl (mem_gT 943 (by decide +kernel) (by decide +kernel)), ok_X7_move, im_X7_move, se_X7_move⟩
set_option maxRecDepth 100000 in
theorem lL_136 : LkV RL 136 MX6_read 3 := ⟨Or.inl (mem_gT 604 (by decide +kernel) (by decide +kernel)), ok_X6_read, im_X6_read, se_X6_read⟩
set_option maxRecDepth 100000 in
theorem lL_139 : LkV RL 139 MX7_read 3 := ⟨Or.inl (mem_gT 951 (by decide +kernel) (by decide +kernel)), ok_X7_read, im_X7_read, se_X7_read⟩
set_option maxRecDepth 100000 in
theorem lL_140 : LkV RL 140 MX6_differ 2 := ⟨Or.inl (mem_gT 619 (by decide +kernel) (by decide +kernel)), ok_X6_differ, im_X6_differ, se_X6_differ⟩
set_option maxRecDepth 100000 in
theorem lL_143 : LkV RL 143 MX7_differ 2 := ⟨Or.inl (mem_gT 961 (by decide +kernel) (by decide +kernel)), ok_X7_differ, im_X7_differ, se_X7_differ⟩
set_option maxRecDepth 100000 in
theorem lL_144 : LkV RL 144 MX6_fit 2 := ⟨Or.inl (mem_gT 627 (by decide +kernel) (by decide +kernel)), ok_X6_fit, im_X6_fit, se_X6_fit⟩
set_option maxRecDepth 100000 in
theorem lL_147 : LkV RL 147 MX7_fit 2 := ⟨Or.inl (mem_gT 965 (by decide +kernel) (by decide +kernel)), ok_X7_fit, im_X7_fit, se_X7_fit⟩
set_option maxRecDepth 100000 in
theorem lL_148 : LkV RL 148 MX6_squares 0 := ⟨Or.inl (mem_gT 646 (by decide +kernel) (by decide +kernel)), ok_X6_squares, im_X6_squares, se_X6_squares⟩
set_option maxRecDepth 100000 in
theorem lL_152 : LkV RL 152 MX7_squares 0 := ⟨Or.inl (mem_gT 977 (by decide +kernel) (by decide +kernel)), ok_X7_squares, im_X7_squares, se_X7_squares⟩
set_option maxRecDepth 100000 in
theorem lL_153 : LkV RL 153 MX6_keep 0 := ⟨Or.inl (mem_gT 650 (by decide +kernel) (by decide +kernel)), ok_X6_keep, im_X6_keep, se_X6_keep⟩
set_option maxRecDepth 100000 in
theorem lL_156 : LkV RL 156 MX7_keep 0 := ⟨Or.inl (mem_gT 981 (by decide +kernel) (by decide +kernel)), ok_X7_keep, im_X7_keep, se_X7_keep⟩
set_option maxRecDepth 100000 in
theorem lL_157 : LkV RL 157 MX6_back 0 := ⟨Or.inl (mem_gT 681 (by decide +kernel) (by decide +kernel)), ok_X6_back, im_X6_back, se_X6_back⟩
set_option maxRecDepth 100000 in
theorem lL_160 : LkV RL 160 MX7_back 0 := ⟨Or.inl (mem_gT 985 (by decide +kernel) (by decide +kernel)), ok_X7_back, im_X7_back, se_X7_back⟩
set_option maxRecDepth 100000 in
theorem lL_161 : LkV RL 161 MX6_told 1 := ⟨Or.inl (mem_gT 685 (by decide +kernel) (by decide +kernel)), ok_X6_told, im_X6_told, se_X6_told⟩
set_option maxRecDepth 100000 in
theorem lL_164 : LkV RL 164 MX7_told 1 := ⟨Or.inl (mem_gT 989 (by decide +kernel) (by decide +kernel)), ok_X7_told, im_X7_told, se_X7_told⟩
set_option maxRecDepth 100000 in
theorem lX7_44 : LkV RX7 44 MX7_wells 0 := ⟨Or.inl (mem_gT 749 (by decide +kernel) (by decide +kernel)), ok_X7_wells, im_X7_wells, se_X7_wells⟩
set_option maxRecDepth 100000 in
theorem lX7_48 : LkS RX7 48 MX7_in 3 := ⟨Or.inl (mem_gT 736 (by decide +kernel) (by decide +kernel)), ok_X7_in, st_X7_in⟩
set_option maxRecDepth 100000 in
theorem lX7_54 : LkV RX7 54 MX7_told0 2 := ⟨Or.inl (mem_gT 762 (by decide +kernel) (by decide +kernel)), ok_X7_told0, im_X7_told0, se_X7_told0⟩
set_option maxRecDepth 100000 in
theorem lX7_58 : LkS RX7 58 MX7_isHead 1 := ⟨Or.inl (mem_gT 739 (by decide +kernel) (by decide +kernel)), ok_X7_isHead, st_X7_isHead⟩
set_option maxRecDepth 100000 in
theorem lX7_63 : LkV RX7 63 MX7_found 1 := ⟨Or.inl (mem_gT 745 (by decide +kernel) (by decide +kernel)), ok_X7_found, im_X7_found, se_X7_found⟩
set_option maxRecDepth 100000 in
theorem lX7_68 : LkV RX7 68 MX7_isWell 1 := ⟨Or.inl (mem_gT 758 (by decide +kernel) (by decide +kernel)), ok_X7_isWell, im_X7_isWell, se_X7_isWell⟩
set_option maxRecDepth 100000 in
theorem lX7_71 : LkV RX7 71 MX7_kindOf 1 := ⟨Or.inl (mem_gT 770 (by decide +kernel) (by decide +kernel)), ok_X7_kindOf, im_X7_kindOf, se_X7_kindOf⟩
set_option maxRecDepth 100000 in
theorem lX7_75 : LkV RX7 75 MX7_drawOf 2 := ⟨Or.inl (mem_gT 779 (by decide +kernel) (by decide +kernel)), ok_X7_drawOf, im_X7_drawOf, se_X7_drawOf⟩
set_option maxRecDepth 100000 in
theorem lX7_78 : LkV RX7 78 MX7_apart 2 := ⟨Or.inl (mem_gT 787 (by decide +kernel) (by decide +kernel)), ok_X7_apart, im_X7_apart, se_X7_apart⟩
set_option maxRecDepth 100000 in
theorem lX7_81 : LkS RX7 81 MX7_cell 3 := ⟨Or.inl (mem_gT 795 (by decide +kernel) (by decide +kernel)), ok_X7_cell, st_X7_cell⟩
set_option maxRecDepth 100000 in
theorem lX7_86 : LkS RX7 86 MX7_isSheet 1 := ⟨Or.inl (mem_gT 807 (by decide +kernel) (by decide +kernel)), ok_X7_isSheet, st_X7_isSheet⟩
set_option maxRecDepth 100000 in
theorem lX7_92 : LkS RX7 92 MX7_isNone 1 := ⟨Or.inl (mem_gT 815 (by decide +kernel) (by decide +kernel)), ok_X7_isNone, st_X7_isNone⟩
set_option maxRecDepth 100000 in
theorem lX7_98 : LkS RX7 98 MX7_isMonth 1 := ⟨Or.inl (mem_gT 829 (by decide +kernel) (by decide +kernel)), ok_X7_isMonth, st_X7_isMonth⟩
set_option maxRecDepth 100000 in
theorem lX7_102 : LkS RX7 102 MX7_cut 1 := ⟨Or.inl (mem_gT 833 (by decide +kernel) (by decide +kernel)), ok_X7_cut, st_X7_cut⟩
set_option maxRecDepth 100000 in
theorem lX7_105 : LkV RX7 105 MX7_sign 2 := ⟨Or.inl (mem_gT 846 (by decide +kernel) (by decide +kernel)), ok_X7_sign, im_X7_sign, se_X7_sign⟩
set_option maxRecDepth 100000 in
theorem lX7_108 : LkV RX7 108 MX7_share 3 := ⟨Or.inl (mem_gT 874 (by decide +kernel) (by decide +kernel)), ok_X7_share, im_X7_share, se_X7_share⟩
set_option maxRecDepth 100000 in
theorem lX7_111 : LkV RX7 111 MX7_rainOf 1 := ⟨Or.inl (mem_gT 866 (by decide +kernel) (by decide +kernel)), ok_X7_rainOf, im_X7_rainOf, se_X7_rainOf⟩
set_option maxRecDepth 100000 in
theorem lX7_114 : LkV RX7 114 MX7_lowering 4 := ⟨Or.inl (mem_gT 870 (by decide +kernel) (by decide +kernel)), ok_X7_lowering, im_X7_lowering, se_X7_lowering⟩
set_option maxRecDepth 100000 in
theorem lX7_118 : LkV RX7 118 MX7_headOf 2 := ⟨Or.inl (mem_gT 862 (by decide +kernel) (by decide +kernel)), ok_X7_headOf, im_X7_headOf, se_X7_headOf⟩
set_option maxRecDepth 100000 in
theorem lX7_122 : LkV RX7 122 MX7_above 2 := ⟨Or.inl (mem_gT 895 (by decide +kernel) (by decide +kernel)), ok_X7_above, im_X7_above, se_X7_above⟩
set_option maxRecDepth 100000 in
theorem lX7_125 : LkV RX7 125 MX7_isFree 2 := ⟨Or.inl (mem_gT 919 (by decide +kernel) (by decide +kernel)), ok_X7_isFree, im_X7_isFree, se_X7_isFree⟩
set_option maxRecDepth 100000 in
theorem lX7_129 : LkV RX7 129 MX7_freeOf 2 := ⟨Or.inl (mem_gT 915 (by decide +kernel) (by decide +kernel)), ok_X7_freeOf, im_X7_freeOf, se_X7_freeOf⟩
set_option maxRecDepth 100000 in
theorem lX7_132 : LkV RX7 132 MX7_licenceOf 2 := ⟨Or.inl (mem_gT 931 (by decide +kernel) (by decide +kernel)), ok_X7_licenceOf, im_X7_licenceOf, se_X7_licenceOf⟩
set_option maxRecDepth 100000 in
theorem lX7_135 : LkV RX7 135 MX7_mayMove 5 := ⟨Or.inl (mem_gT 947 (by decide +kernel) (by decide +kernel)), ok_X7_mayMove, im_X7_mayMove, se_X7_mayMove⟩
set_option maxRecDepth 100000 in
theorem lX7_141 : LkV RX7 141 MX7_reading 2 := ⟨Or.inl (mem_gT 957 (by decide +kernel) (by decide +kernel)), ok_X7_reading, im_X7_reading, se_X7_reading⟩
set_option maxRecDepth 100000 in
theorem lX7_144 : LkV RX7 144 MX7_times 3 := ⟨Or.inl (mem_gT 969 (by decide +kernel) (by decide +kernel)), ok_X7_times, im_X7_times, se_X7_times⟩
set_option maxRecDepth 100000 in
theorem lX7_148 : LkV RX7 148 MX7_squaresNow 0 := ⟨Or.inl (mem_gT 973 (by decide +kernel) (by decide +kernel)), ok_X7_squaresNow, im_X7_squaresNow, se_X7_squaresNow⟩
set_option maxRecDepth 100000 in
theorem cw_X0 : ∀ w ∈ u_ws RX0 TX0 5, w ∈ gT := by decide +kernel
set_option maxRecDepth 100000 in
theorem cw_X1 : ∀ w ∈ u_ws RX1 TX1 3, w ∈ gT := by decide +kernel
set_option maxRecDepth 100000 in
theorem cw_X2 : ∀ w ∈ u_ws RX2 TX2 3, w ∈ gT := by decide +kernel
set_option maxRecDepth 100000 in
theorem cw_X3 : ∀ w ∈ u_ws RX3 TX3 3, w ∈ gT := by decide +kernel
set_option maxRecDepth 100000 in
theorem cw_X4 : ∀ w ∈ u_ws RX4 TX4 7, w ∈ gT := by decide +kernel
set_option maxRecDepth 100000 in
theorem cw_X5 : ∀ w ∈ u_ws RX5 TX5 6, w ∈ gT := by decide +kernel
set_option maxRecDepth 100000 in
theorem cw_X6 : ∀ w ∈ u_ws RX6 TX6 5, w ∈ gT := by decide +kernel
set_option maxRecDepth 100000 in
theorem cw_X7 : ∀ w ∈ u_ws RX7 TX7 12, w ∈ gT := by decide +kernel
set_option maxRecDepth 100000 in
theorem fX6_10 : FL RX6 10 6 0 := ⟨RX6, TX6, 5, rfl, by decide, cw_X6, Or.inl (mem_gT 246 (by decide +kernel) (by decide +kernel))⟩
set_option maxRecDepth 100000 in
theorem fX6_16 : FL RX6 16 6 1 := ⟨RX6, TX6, 5, rfl, by decide, cw_X6, Or.inl (mem_gT 247 (by decide +kernel) (by decide +kernel))⟩
set_option maxRecDepth 100000 in
theorem fX6_19 : FL RX6 19 6 2 := ⟨RX6, TX6, 5, rfl, by decide, cw_X6, Or.inl (mem_gT 248 (by decide +kernel) (by decide +kernel))⟩
set_option maxRecDepth 100000 in
theorem pX6_19 : FP RX6 19 6 2 .boolean := ⟨RX6, TX6, 5, tyX6, rfl, by decide, cw_X6, tyX6_ok, nmX6, rfl, rfl, mem_gT 248 (by decide +kernel) (by decide +kernel)⟩
set_option maxRecDepth 100000 in
theorem fX6_26 : FL RX6 26 6 3 := ⟨RX6, TX6, 5, rfl, by decide, cw_X6, Or.inl (mem_gT 249 (by decide +kernel) (by decide +kernel))⟩
set_option maxRecDepth 100000 in
theorem fX6_30 : FL RX6 30 6 4 := ⟨RX6, TX6, 5, rfl, by decide, cw_X6, Or.inl (mem_gT 250 (by decide +kernel) (by decide +kernel))⟩
set_option maxRecDepth 100000 in
theorem pX6_30 : FP RX6 30 6 4 .int := ⟨RX6, TX6, 5, tyX6, rfl, by decide, cw_X6, tyX6_ok, nmX6, rfl, rfl, mem_gT 250 (by decide +kernel) (by decide +kernel)⟩
set_option maxRecDepth 100000 in
theorem fX6_49 : FL RX6 49 4 0 := ⟨RX4, TX4, 7, rfl, by decide, cw_X4, Or.inr ⟨"WellField", mem_nT 199 (by decide +kernel) (by decide +kernel)⟩⟩
set_option maxRecDepth 100000 in
theorem fX6_53 : FL RX6 53 5 0 := ⟨RX5, TX5, 6, rfl, by decide, cw_X5, Or.inr ⟨"WellField", mem_nT 99 (by decide +kernel) (by decide +kernel)⟩⟩
set_option maxRecDepth 100000 in
theorem fX6_66 : FL RX6 66 5 5 := ⟨RX5, TX5, 6, rfl, by decide, cw_X5, Or.inr ⟨"WellField", mem_nT 112 (by decide +kernel) (by decide +kernel)⟩⟩
set_option maxRecDepth 100000 in
theorem fX6_75 : FL RX6 75 5 1 := ⟨RX5, TX5, 6, rfl, by decide, cw_X5, Or.inr ⟨"WellField", mem_nT 103 (by decide +kernel) (by decide +kernel)⟩⟩
set_option maxRecDepth 100000 in
theorem fX6_78 : FL RX6 78 5 2 := ⟨RX5, TX5, 6, rfl, by decide, cw_X5, Or.inr ⟨"WellField", mem_nT 105 (by decide +kernel) (by decide +kernel)⟩⟩
set_option maxRecDepth 100000 in
theorem fX6_81 : FL RX6 81 5 3 := ⟨RX5, TX5, 6, rfl, by decide, cw_X5, Or.inr ⟨"WellField", mem_nT 107 (by decide +kernel) (by decide +kernel)⟩⟩
set_option maxRecDepth 100000 in
theorem fX6_84 : FL RX6 84 5 4 := ⟨RX5, TX5, 6, rfl, by decide, cw_X5, Or.inr ⟨"WellField", mem_nT 109 (by decide +kernel) (by decide +kernel)⟩⟩
set_option maxRecDepth 100000 in
theorem fX6_107 : FL RX6 107 4 1 := ⟨RX4, TX4, 7, rfl, by decide, cw_X4, Or.inr ⟨"WellField", mem_nT 201 (by decide +kernel) (by decide +kernel)⟩⟩
set_option maxRecDepth 100000 in
theorem fX6_121 : FL RX6 121 3 0 := ⟨RX3, TX3, 3, rfl, by decide, cw_X3, Or.inr ⟨"WellField", mem_nT 139 (by decide +kernel) (by decide +kernel)⟩⟩
set_option maxRecDepth 100000 in
theorem fX6_124 : FL RX6 124 3 1 := ⟨RX3, TX3, 3, rfl, by decide, cw_X3, Or.inr ⟨"WellField", mem_nT 141 (by decide +kernel) (by decide +kernel)⟩⟩
set_option maxRecDepth 100000 in
theorem fX6_138 : FL RX6 138 2 1 := ⟨RX2, TX2, 3, rfl, by decide, cw_X2, Or.inr ⟨"WellField", mem_nT 236 (by decide +kernel) (by decide +kernel)⟩⟩
set_option maxRecDepth 100000 in
theorem fX6_143 : FL RX6 143 2 0 := ⟨RX2, TX2, 3, rfl, by decide, cw_X2, Or.inr ⟨"WellField", mem_nT 234 (by decide +kernel) (by decide +kernel)⟩⟩
set_option maxRecDepth 100000 in
theorem fX6_149 : FL RX6 149 2 2 := ⟨RX2, TX2, 3, rfl, by decide, cw_X2, Or.inr ⟨"WellField", mem_nT 238 (by decide +kernel) (by decide +kernel)⟩⟩
set_option maxRecDepth 100000 in
theorem fX6_186 : FL RX6 186 4 5 := ⟨RX4, TX4, 7, rfl, by decide, cw_X4, Or.inr ⟨"WellField", mem_nT 209 (by decide +kernel) (by decide +kernel)⟩⟩
set_option maxRecDepth 100000 in
theorem fX6_189 : FL RX6 189 4 4 := ⟨RX4, TX4, 7, rfl, by decide, cw_X4, Or.inr ⟨"WellField", mem_nT 207 (by decide +kernel) (by decide +kernel)⟩⟩
set_option maxRecDepth 100000 in
theorem fX6_219 : FL RX6 219 4 2 := ⟨RX4, TX4, 7, rfl, by decide, cw_X4, Or.inr ⟨"WellField", mem_nT 203 (by decide +kernel) (by decide +kernel)⟩⟩
set_option maxRecDepth 100000 in
theorem fX6_223 : FL RX6 223 0 0 := ⟨RX0, TX0, 5, rfl, by decide, cw_X0, Or.inr ⟨"WellField", mem_nT 159 (by decide +kernel) (by decide +kernel)⟩⟩
set_option maxRecDepth 100000 in
theorem fX6_236 : FL RX6 236 0 1 := ⟨RX0, TX0, 5, rfl, by decide, cw_X0, Or.inr ⟨"WellField", mem_nT 162 (by decide +kernel) (by decide +kernel)⟩⟩
set_option maxRecDepth 100000 in
theorem fX6_241 : FL RX6 241 0 4 := ⟨RX0, TX0, 5, rfl, by decide, cw_X0, Or.inr ⟨"WellField", mem_nT 169 (by decide +kernel) (by decide +kernel)⟩⟩
set_option maxRecDepth 100000 in
theorem fX6_244 : FL RX6 244 0 3 := ⟨RX0, TX0, 5, rfl, by decide, cw_X0, Or.inr ⟨"WellField", mem_nT 166 (by decide +kernel) (by decide +kernel)⟩⟩
set_option maxRecDepth 100000 in
theorem fX6_255 : FL RX6 255 4 3 := ⟨RX4, TX4, 7, rfl, by decide, cw_X4, Or.inr ⟨"WellField", mem_nT 205 (by decide +kernel) (by decide +kernel)⟩⟩
set_option maxRecDepth 100000 in
theorem fX6_264 : FL RX6 264 1 0 := ⟨RX1, TX1, 3, rfl, by decide, cw_X1, Or.inr ⟨"WellField", mem_nT 188 (by decide +kernel) (by decide +kernel)⟩⟩
set_option maxRecDepth 100000 in
theorem fX0_9 : FL RX0 9 0 0 := ⟨RX0, TX0, 5, rfl, by decide, cw_X0, Or.inl (mem_gT 157 (by decide +kernel) (by decide +kernel))⟩
set_option maxRecDepth 100000 in
theorem pX0_9 : FP RX0 9 0 0 .int := ⟨RX0, TX0, 5, tyX0, rfl, by decide, cw_X0, tyX0_ok, nmX0, rfl, rfl, mem_gT 157 (by decide +kernel) (by decide +kernel)⟩
set_option maxRecDepth 100000 in
theorem fX0_15 : FL RX0 15 0 1 := ⟨RX0, TX0, 5, rfl, by decide, cw_X0, Or.inl (mem_gT 160 (by decide +kernel) (by decide +kernel))⟩
set_option maxRecDepth 100000 in
theorem fX0_19 : FL RX0 19 0 2 := ⟨RX0, TX0, 5, rfl, by decide, cw_X0, Or.inl (mem_gT 163 (by decide +kernel) (by decide +kernel))⟩
set_option maxRecDepth 100000 in
theorem fX0_22 : FL RX0 22 0 3 := ⟨RX0, TX0, 5, rfl, by decide, cw_X0, Or.inl (mem_gT 164 (by decide +kernel) (by decide +kernel))⟩
set_option maxRecDepth 100000 in
theorem fX0_25 : FL RX0 25 0 4 := ⟨RX0, TX0, 5, rfl, by decide, cw_X0, Or.inl (mem_gT 167 (by decide +kernel) (by decide +kernel))⟩
set_option maxRecDepth 100000 in
theorem fX1_9 : FL RX1 9 1 0 := ⟨RX1, TX1, 3, rfl, by decide, cw_X1, Or.inl (mem_gT 187 (by decide +kernel) (by decide +kernel))⟩
set_option maxRecDepth 100000 in
theorem pX1_9 : FP RX1 9 1 0 .int := ⟨RX1, TX1, 3, tyX1, rfl, by decide, cw_X1, tyX1_ok, nmX1, rfl, rfl, mem_gT 187 (by decide +kernel) (by decide +kernel)⟩
set_option maxRecDepth 100000 in
theorem fX1_15 : FL RX1 15 1 1 := ⟨RX1, TX1, 3, rfl, by decide, cw_X1, Or.inl (mem_gT 189 (by decide +kernel) (by decide +kernel))⟩
set_option maxRecDepth 100000 in
theorem fX1_19 : FL RX1 19 1 2 := ⟨RX1, TX1, 3, rfl, by decide, cw_X1, Or.inl (mem_gT 190 (by decide +kernel) (by decide +kernel))⟩
set_option maxRecDepth 100000 in
theorem fX2_9 : FL RX2 9 2 0 := ⟨RX2, TX2, 3, rfl, by decide, cw_X2, Or.inl (mem_gT 233 (by decide +kernel) (by decide +kernel))⟩
set_option maxRecDepth 100000 in
theorem pX2_9 : FP RX2 9 2 0 .int := ⟨RX2, TX2, 3, tyX2, rfl, by decide, cw_X2, tyX2_ok, nmX2, rfl, rfl, mem_gT 233 (by decide +kernel) (by decide +kernel)⟩
set_option maxRecDepth 100000 in
theorem fX2_15 : FL RX2 15 2 1 := ⟨RX2, TX2, 3, rfl, by decide, cw_X2, Or.inl (mem_gT 235 (by decide +kernel) (by decide +kernel))⟩
set_option maxRecDepth 100000 in
theorem pX2_15 : FP RX2 15 2 1 .int := ⟨RX2, TX2, 3, tyX2, rfl, by decide, cw_X2, tyX2_ok, nmX2, rfl, rfl, mem_gT 235 (by decide +kernel) (by decide +kernel)⟩
set_option maxRecDepth 100000 in
theorem fX2_18 : FL RX2 18 2 2 := ⟨RX2, TX2, 3, rfl, by decide, cw_X2, Or.inl (mem_gT 237 (by decide +kernel) (by decide +kernel))⟩
set_option maxRecDepth 100000 in
theorem fX3_9 : FL RX3 9 3 0 := ⟨RX3, TX3, 3, rfl, by decide, cw_X3, Or.inl (mem_gT 137 (by decide +kernel) (by decide +kernel))⟩
set_option maxRecDepth 100000 in
theorem fX3_15 : FL RX3 15 3 1 := ⟨RX3, TX3, 3, rfl, by decide, cw_X3, Or.inl (mem_gT 140 (by decide +kernel) (by decide +kernel))⟩
set_option maxRecDepth 100000 in
theorem fX3_18 : FL RX3 18 3 2 := ⟨RX3, TX3, 3, rfl, by decide, cw_X3, Or.inl (mem_gT 143 (by decide +kernel) (by decide +kernel))⟩
set_option maxRecDepth 100000 in
theorem fX4_12 : FL RX4 12 4 0 := ⟨RX4, TX4, 7, rfl, by decide, cw_X4, Or.inl (mem_gT 198 (by decide +kernel) (by decide +kernel))⟩
set_option maxRecDepth 100000 in
theorem fX4_21 : FL RX4 21 4 1 := ⟨RX4, TX4, 7, rfl, by decide, cw_X4, Or.inl (mem_gT 200 (by decide +kernel) (by decide +kernel))⟩
set_option maxRecDepth 100000 in
theorem fX4_28 : FL RX4 28 4 2 := ⟨RX4, TX4, 7, rfl, by decide, cw_X4, Or.inl (mem_gT 202 (by decide +kernel) (by decide +kernel))⟩
set_option maxRecDepth 100000 in
theorem fX4_35 : FL RX4 35 4 3 := ⟨RX4, TX4, 7, rfl, by decide, cw_X4, Or.inl (mem_gT 204 (by decide +kernel) (by decide +kernel))⟩
set_option maxRecDepth 100000 in
theorem fX4_39 : FL RX4 39 4 4 := ⟨RX4, TX4, 7, rfl, by decide, cw_X4, Or.inl (mem_gT 206 (by decide +kernel) (by decide +kernel))⟩
set_option maxRecDepth 100000 in
theorem fX4_43 : FL RX4 43 4 5 := ⟨RX4, TX4, 7, rfl, by decide, cw_X4, Or.inl (mem_gT 208 (by decide +kernel) (by decide +kernel))⟩
set_option maxRecDepth 100000 in
theorem fX4_46 : FL RX4 46 4 6 := ⟨RX4, TX4, 7, rfl, by decide, cw_X4, Or.inl (mem_gT 210 (by decide +kernel) (by decide +kernel))⟩
set_option maxRecDepth 100000 in
theorem fsX4_57 : Cond.fieldLinkNest RX4 57 "WellField" "COUNTS_TIMES" "[I" "WellField" ∈ nT := mem_nT 453 (by decide +kernel) (by decide +kernel)
set_option maxRecDepth 100000 in
theorem fX4_60 : FL RX4 60 5 1 := ⟨RX5, TX5, 6, rfl, by decide, cw_X5, Or.inr ⟨"WellField", mem_nT 102 (by decide +kernel) (by decide +kernel)⟩⟩
set_option maxRecDepth 100000 in
theorem fX4_80 : FL RX4 80 3 0 := ⟨RX3, TX3, 3, rfl, by decide, cw_X3, Or.inr ⟨"WellField", mem_nT 138 (by decide +kernel) (by decide +kernel)⟩⟩
set_option maxRecDepth 100000 in
theorem fX4_83 : FL RX4 83 3 1 := ⟨RX3, TX3, 3, rfl, by decide, cw_X3, Or.inr ⟨"WellField", mem_nT 142 (by decide +kernel) (by decide +kernel)⟩⟩
set_option maxRecDepth 100000 in
theorem fX4_86 : FL RX4 86 5 4 := ⟨RX5, TX5, 6, rfl, by decide, cw_X5, Or.inr ⟨"WellField", mem_nT 110 (by decide +kernel) (by decide +kernel)⟩⟩
set_option maxRecDepth 100000 in
theorem fX4_93 : FL RX4 93 5 0 := ⟨RX5, TX5, 6, rfl, by decide, cw_X5, Or.inr ⟨"WellField", mem_nT 100 (by decide +kernel) (by decide +kernel)⟩⟩
set_option maxRecDepth 100000 in
theorem fX4_104 : FL RX4 104 5 5 := ⟨RX5, TX5, 6, rfl, by decide, cw_X5, Or.inr ⟨"WellField", mem_nT 113 (by decide +kernel) (by decide +kernel)⟩⟩
set_option maxRecDepth 100000 in
theorem fX4_117 : FL RX4 117 0 0 := ⟨RX0, TX0, 5, rfl, by decide, cw_X0, Or.inr ⟨"WellField", mem_nT 158 (by decide +kernel) (by decide +kernel)⟩⟩
set_option maxRecDepth 100000 in
theorem fX4_118 : FL RX4 118 0 4 := ⟨RX0, TX0, 5, rfl, by decide, cw_X0, Or.inr ⟨"WellField", mem_nT 168 (by decide +kernel) (by decide +kernel)⟩⟩
set_option maxRecDepth 100000 in
theorem fX4_121 : FL RX4 121 0 1 := ⟨RX0, TX0, 5, rfl, by decide, cw_X0, Or.inr ⟨"WellField", mem_nT 161 (by decide +kernel) (by decide +kernel)⟩⟩
set_option maxRecDepth 100000 in
theorem fX4_127 : FL RX4 127 0 3 := ⟨RX0, TX0, 5, rfl, by decide, cw_X0, Or.inr ⟨"WellField", mem_nT 165 (by decide +kernel) (by decide +kernel)⟩⟩
set_option maxRecDepth 100000 in
theorem fX5_9 : FL RX5 9 5 0 := ⟨RX5, TX5, 6, rfl, by decide, cw_X5, Or.inl (mem_gT 98 (by decide +kernel) (by decide +kernel))⟩
set_option maxRecDepth 100000 in
theorem pX5_9 : FP RX5 9 5 0 .int := ⟨RX5, TX5, 6, tyX5, rfl, by decide, cw_X5, tyX5_ok, nmX5, rfl, rfl, mem_gT 98 (by decide +kernel) (by decide +kernel)⟩
set_option maxRecDepth 100000 in
theorem fX5_15 : FL RX5 15 5 1 := ⟨RX5, TX5, 6, rfl, by decide, cw_X5, Or.inl (mem_gT 101 (by decide +kernel) (by decide +kernel))⟩
set_option maxRecDepth 100000 in
theorem fX5_19 : FL RX5 19 5 2 := ⟨RX5, TX5, 6, rfl, by decide, cw_X5, Or.inl (mem_gT 104 (by decide +kernel) (by decide +kernel))⟩
set_option maxRecDepth 100000 in
theorem fX5_22 : FL RX5 22 5 3 := ⟨RX5, TX5, 6, rfl, by decide, cw_X5, Or.inl (mem_gT 106 (by decide +kernel) (by decide +kernel))⟩
set_option maxRecDepth 100000 in
theorem fX5_25 : FL RX5 25 5 4 := ⟨RX5, TX5, 6, rfl, by decide, cw_X5, Or.inl (mem_gT 108 (by decide +kernel) (by decide +kernel))⟩
set_option maxRecDepth 100000 in
theorem fX5_28 : FL RX5 28 5 5 := ⟨RX5, TX5, 6, rfl, by decide, cw_X5, Or.inl (mem_gT 111 (by decide +kernel) (by decide +kernel))⟩
set_option maxRecDepth 100000 in
theorem fsX5_32 : Cond.fieldLinkNest RX5 32 "WellField" "COUNTS_TIMES" "[I" "WellField" ∈ nT := mem_nT 543 (by decide +kernel) (by decide +kernel)
set_option maxRecDepth 100000 in
theorem fX7_7 : FL RX7 7 7 0 := ⟨RX7, TX7, 12, rfl, by decide, cw_X7, Or.inl (mem_gT 695 (by decide +kernel) (by decide +kernel))⟩
set_option maxRecDepth 100000 in
theorem fX7_13 : FL RX7 13 7 1 := ⟨RX7, TX7, 12, rfl, by decide, cw_X7, Or.inl (mem_gT 696 (by decide +kernel) (by decide +kernel))⟩
set_option maxRecDepth 100000 in
theorem fX7_16 : FL RX7 16 7 3 := ⟨RX7, TX7, 12, rfl, by decide, cw_X7, Or.inl (mem_gT 698 (by decide +kernel) (by decide +kernel))⟩
set_option maxRecDepth 100000 in
theorem fX7_19 : FL RX7 19 7 4 := ⟨RX7, TX7, 12, rfl, by decide, cw_X7, Or.inl (mem_gT 699 (by decide +kernel) (by decide +kernel))⟩
set_option maxRecDepth 100000 in
theorem fX7_22 : FL RX7 22 7 5 := ⟨RX7, TX7, 12, rfl, by decide, cw_X7, Or.inl (mem_gT 700 (by decide +kernel) (by decide +kernel))⟩
set_option maxRecDepth 100000 in
theorem fX7_25 : FL RX7 25 7 7 := ⟨RX7, TX7, 12, rfl, by decide, cw_X7, Or.inl (mem_gT 702 (by decide +kernel) (by decide +kernel))⟩
set_option maxRecDepth 100000 in
theorem fX7_28 : FL RX7 28 7 8 := ⟨RX7, TX7, 12, rfl, by decide, cw_X7, Or.inl (mem_gT 703 (by decide +kernel) (by decide +kernel))⟩
set_option maxRecDepth 100000 in
theorem fX7_31 : FL RX7 31 7 9 := ⟨RX7, TX7, 12, rfl, by decide, cw_X7, Or.inl (mem_gT 704 (by decide +kernel) (by decide +kernel))⟩
set_option maxRecDepth 100000 in
theorem fX7_34 : FL RX7 34 7 10 := ⟨RX7, TX7, 12, rfl, by decide, cw_X7, Or.inl (mem_gT 705 (by decide +kernel) (by decide +kernel))⟩
set_option maxRecDepth 100000 in
theorem fX7_37 : FL RX7 37 7 11 := ⟨RX7, TX7, 12, rfl, by decide, cw_X7, Or.inl (mem_gT 706 (by decide +kernel) (by decide +kernel))⟩
set_option maxRecDepth 100000 in
theorem fX7_40 : FL RX7 40 7 6 := ⟨RX7, TX7, 12, rfl, by decide, cw_X7, Or.inl (mem_gT 701 (by decide +kernel) (by decide +kernel))⟩
set_option maxRecDepth 100000 in
theorem pX7_40 : FP RX7 40 7 6 .int := ⟨RX7, TX7, 12, tyX7, rfl, by decide, cw_X7, tyX7_ok, nmX7, rfl, rfl, mem_gT 701 (by decide +kernel) (by decide +kernel)⟩
set_option maxRecDepth 100000 in
theorem fX7_152 : FL RX7 152 7 2 := ⟨RX7, TX7, 12, rfl, by decide, cw_X7, Or.inl (mem_gT 697 (by decide +kernel) (by decide +kernel))⟩
set_option maxRecDepth 100000 in
theorem pX7_152 : FP RX7 152 7 2 .boolean := ⟨RX7, TX7, 12, tyX7, rfl, by decide, cw_X7, tyX7_ok, nmX7, rfl, rfl, mem_gT 697 (by decide +kernel) (by decide +kernel)⟩
set_option maxRecDepth 100000 in
theorem kX6_44 : Cond.constant RX6 44 (-1000000001) ∈ gT := mem_gT 280 (by decide +kernel) (by decide +kernel)
set_option maxRecDepth 100000 in
theorem kX6_58 : Cond.constant RX6 58 (-1000000005) ∈ gT := mem_gT 285 (by decide +kernel) (by decide +kernel)
set_option maxRecDepth 100000 in
theorem kX6_74 : Cond.constant RX6 74 (-1000000004) ∈ gT := mem_gT 307 (by decide +kernel) (by decide +kernel)
set_option maxRecDepth 100000 in
theorem kX6_117 : Cond.constant RX6 117 (-1000000003) ∈ gT := mem_gT 354 (by decide +kernel) (by decide +kernel)
set_option maxRecDepth 100000 in
theorem kX6_137 : Cond.constant RX6 137 (-1000000002) ∈ gT := mem_gT 382 (by decide +kernel) (by decide +kernel)
set_option maxRecDepth 100000 in
theorem kX6_169 : Cond.constant RX6 169 (-1000000007) ∈ gT := mem_gT 416 (by decide +kernel) (by decide +kernel)
set_option maxRecDepth 100000 in
theorem kX6_205 : Cond.constant RX6 205 (-1000000006) ∈ gT := mem_gT 505 (by decide +kernel) (by decide +kernel)
set_option maxRecDepth 100000 in
theorem kX6_253 : Cond.constant RX6 253 (-100000000) ∈ gT := mem_gT 608 (by decide +kernel) (by decide +kernel)
set_option maxRecDepth 100000 in
theorem kX6_254 : Cond.constant RX6 254 (100000000) ∈ gT := mem_gT 609 (by decide +kernel) (by decide +kernel)
set_option maxRecDepth 100000 in
theorem kX6_284 : Cond.constant RX6 284 (-100000) ∈ gT := mem_gT 278 (by decide +kernel) (by decide +kernel)
set_option maxRecDepth 100000 in
theorem kX6_285 : Cond.constant RX6 285 (100000) ∈ gT := mem_gT 279 (by decide +kernel) (by decide +kernel)
set_option maxRecDepth 100000 in
theorem kX2_30 : Cond.constant RX2 30 (2143289344) ∈ gT := mem_gT 392 (by decide +kernel) (by decide +kernel)
set_option maxRecDepth 100000 in
theorem kX2_41 : Cond.constant RX2 41 (2147483647) ∈ gT := mem_gT 390 (by decide +kernel) (by decide +kernel)
set_option maxRecDepth 100000 in
theorem kX2_42 : Cond.constant RX2 42 (2139095040) ∈ gT := mem_gT 391 (by decide +kernel) (by decide +kernel)
set_option maxRecDepth 100000 in
theorem kX2_43 : Cond.constant RX2 43 (8388608) ∈ gT := mem_gT 428 (by decide +kernel) (by decide +kernel)
set_option maxRecDepth 100000 in
theorem kX2_44 : Cond.constant RX2 44 (8388607) ∈ gT := mem_gT 429 (by decide +kernel) (by decide +kernel)
set_option maxRecDepth 100000 in
theorem kX5_31 : Cond.constant RX5 31 (-100000) ∈ gT := mem_gT 290 (by decide +kernel) (by decide +kernel)
set_option maxRecDepth 100000 in
theorem kX7_52 : Cond.constant RX7 52 (-100000) ∈ gT := mem_gT 742 (by decide +kernel) (by decide +kernel)
set_option maxRecDepth 100000 in
theorem kX7_53 : Cond.constant RX7 53 (100000) ∈ gT := mem_gT 743 (by decide +kernel) (by decide +kernel)
set_option maxRecDepth 100000 in
theorem kX7_62 : Cond.constant RX7 62 (-1000000001) ∈ gT := mem_gT 744 (by decide +kernel) (by decide +kernel)
set_option maxRecDepth 100000 in
theorem kX7_67 : Cond.constant RX7 67 (-1000000005) ∈ gT := mem_gT 753 (by decide +kernel) (by decide +kernel)
set_option maxRecDepth 100000 in
theorem kX7_74 : Cond.constant RX7 74 (-1000000004) ∈ gT := mem_gT 774 (by decide +kernel) (by decide +kernel)
set_option maxRecDepth 100000 in
theorem kX7_85 : Cond.constant RX7 85 (-1000000003) ∈ gT := mem_gT 798 (by decide +kernel) (by decide +kernel)
set_option maxRecDepth 100000 in
theorem kX7_89 : Cond.constant RX7 89 (2147483647) ∈ gT := mem_gT 818 (by decide +kernel) (by decide +kernel)
set_option maxRecDepth 100000 in
theorem kX7_90 : Cond.constant RX7 90 (2139095040) ∈ gT := mem_gT 819 (by decide +kernel) (by decide +kernel)
set_option maxRecDepth 100000 in
theorem kX7_91 : Cond.constant RX7 91 (-1000000002) ∈ gT := mem_gT 814 (by decide +kernel) (by decide +kernel)
set_option maxRecDepth 100000 in
theorem kX7_95 : Cond.constant RX7 95 (2143289344) ∈ gT := mem_gT 820 (by decide +kernel) (by decide +kernel)
set_option maxRecDepth 100000 in
theorem kX7_96 : Cond.constant RX7 96 (8388607) ∈ gT := mem_gT 836 (by decide +kernel) (by decide +kernel)
set_option maxRecDepth 100000 in
theorem kX7_97 : Cond.constant RX7 97 (8388608) ∈ gT := mem_gT 837 (by decide +kernel) (by decide +kernel)
set_option maxRecDepth 100000 in
theorem kX7_101 : Cond.constant RX7 101 (-1000000007) ∈ gT := mem_gT 832 (by decide +kernel) (by decide +kernel)
set_option maxRecDepth 100000 in
theorem kX7_121 : Cond.constant RX7 121 (-1000000006) ∈ gT := mem_gT 890 (by decide +kernel) (by decide +kernel)
set_option maxRecDepth 100000 in
theorem kX7_139 : Cond.constant RX7 139 (-100000000) ∈ gT := mem_gT 955 (by decide +kernel) (by decide +kernel)
set_option maxRecDepth 100000 in
theorem kX7_140 : Cond.constant RX7 140 (100000000) ∈ gT := mem_gT 956 (by decide +kernel) (by decide +kernel)
theorem C_3 : isC 3 10 := ⟨by decide, by decide, fun _ _ _ => rfl⟩
theorem C_4 : isC 4 10 := ⟨by decide, by decide, fun _ _ _ => rfl⟩
theorem C_5 : isC 5 10 := ⟨by decide, by decide, fun _ _ _ => rfl⟩
theorem C_6 : isC 6 10 := ⟨by decide, by decide, fun _ _ _ => rfl⟩
theorem C_7 : isC 7 10 := ⟨by decide, by decide, fun _ _ _ => rfl⟩
theorem C_9 : isC 9 240 := ⟨by decide, by decide, fun _ _ _ => rfl⟩
theorem C_10 : isC 10 12 := ⟨by decide, by decide, fun _ _ _ => rfl⟩
theorem C_11 : isC 11 10 := ⟨by decide, by decide, fun _ _ _ => rfl⟩
theorem C_13 : isC 13 10 := ⟨by decide, by decide, fun _ _ _ => rfl⟩
theorem C_14 : isC 14 10 := ⟨by decide, by decide, fun _ _ _ => rfl⟩
theorem C_15 : isC 15 10 := ⟨by decide, by decide, fun _ _ _ => rfl⟩
theorem C_16 : isC 16 10 := ⟨by decide, by decide, fun _ _ _ => rfl⟩
theorem C_18 : isC 18 240 := ⟨by decide, by decide, fun _ _ _ => rfl⟩
theorem C_19 : isC 19 240 := ⟨by decide, by decide, fun _ _ _ => rfl⟩
theorem C_20 : isC 20 240 := ⟨by decide, by decide, fun _ _ _ => rfl⟩
theorem C_21 : isC 21 24 := ⟨by decide, by decide, fun _ _ _ => rfl⟩
theorem C_22 : isC 22 240 := ⟨by decide, by decide, fun _ _ _ => rfl⟩
theorem C_25 : isC 25 10 := ⟨by decide, by decide, fun _ _ _ => rfl⟩
theorem C_26 : isC 26 10 := ⟨by decide, by decide, fun _ _ _ => rfl⟩
theorem C_27 : isC 27 10 := ⟨by decide, by decide, fun _ _ _ => rfl⟩
theorem C_28 : isC 28 10 := ⟨by decide, by decide, fun _ _ _ => rfl⟩
theorem C_29 : isC 29 10 := ⟨by decide, by decide, fun _ _ _ => rfl⟩
theorem C_31 : isC 31 240 := ⟨by decide, by decide, fun _ _ _ => rfl⟩
theorem C_32 : isC 32 12 := ⟨by decide, by decide, fun _ _ _ => rfl⟩
theorem C_33 : isC 33 10 := ⟨by decide, by decide, fun _ _ _ => rfl⟩
theorem C_35 : isC 35 10 := ⟨by decide, by decide, fun _ _ _ => rfl⟩
theorem C_36 : isC 36 10 := ⟨by decide, by decide, fun _ _ _ => rfl⟩
theorem C_37 : isC 37 10 := ⟨by decide, by decide, fun _ _ _ => rfl⟩
theorem C_38 : isC 38 10 := ⟨by decide, by decide, fun _ _ _ => rfl⟩
theorem C_40 : isC 40 240 := ⟨by decide, by decide, fun _ _ _ => rfl⟩
theorem C_41 : isC 41 240 := ⟨by decide, by decide, fun _ _ _ => rfl⟩
theorem C_42 : isC 42 240 := ⟨by decide, by decide, fun _ _ _ => rfl⟩
theorem C_43 : isC 43 24 := ⟨by decide, by decide, fun _ _ _ => rfl⟩
theorem C_44 : isC 44 240 := ⟨by decide, by decide, fun _ _ _ => rfl⟩
theorem C_50 : isC 50 24 := ⟨by decide, by decide, fun _ _ _ => rfl⟩
theorem C_51 : isC 51 24 := ⟨by decide, by decide, fun _ _ _ => rfl⟩
theorem C_52 : isC 52 24 := ⟨by decide, by decide, fun _ _ _ => rfl⟩
theorem C_53 : isC 53 24 := ⟨by decide, by decide, fun _ _ _ => rfl⟩
theorem N_1 : isM 1 1090 := ⟨by decide, by decide, fun _ _ _ => rfl⟩
theorem N_2 : isM 2 1090 := ⟨by decide, by decide, fun _ _ _ => rfl⟩
theorem N_3 : isM 3 4 := ⟨by decide, by decide, fun _ _ _ => rfl⟩
theorem N_4 : isM 4 4 := ⟨by decide, by decide, fun _ _ _ => rfl⟩
theorem N_5 : isM 5 96 := ⟨by decide, by decide, fun _ _ _ => rfl⟩
theorem N_6 : isM 6 24 := ⟨by decide, by decide, fun _ _ _ => rfl⟩
theorem N_7 : isM 7 240 := ⟨by decide, by decide, fun _ _ _ => rfl⟩
theorem N_8 : isM 8 240 := ⟨by decide, by decide, fun _ _ _ => rfl⟩
theorem N_9 : isM 9 10 := ⟨by decide, by decide, fun _ _ _ => rfl⟩
theorem N_10 : isM 10 10 := ⟨by decide, by decide, fun _ _ _ => rfl⟩
theorem C_sh {s : Nat} (h : s < 4) : isC (50 + s) 24 := by
  rcases (show s = 0 ∨ s = 1 ∨ s = 2 ∨ s = 3 by omega) with rfl | rfl | rfl | rfl
  · exact C_50
  · exact C_51
  · exact C_52
  · exact C_53
theorem bp_6 : (Int8.ofInt 6).toInt32 = nI 6 := by decide +kernel
theorem bp_9 : (Int8.ofInt 9).toInt32 = nI 9 := by decide +kernel
theorem bp_10 : (Int8.ofInt 10).toInt32 = nI 10 := by decide +kernel
theorem bp_11 : (Int8.ofInt 11).toInt32 = nI 11 := by decide +kernel
theorem bp_12 : (Int8.ofInt 12).toInt32 = nI 12 := by decide +kernel
theorem bp_22 : (Int8.ofInt 22).toInt32 = nI 22 := by decide +kernel
theorem bp_23 : (Int8.ofInt 23).toInt32 = nI 23 := by decide +kernel
theorem bp_24 : (Int8.ofInt 24).toInt32 = nI 24 := by decide +kernel
theorem bp_30 : (Int8.ofInt 30).toInt32 = nI 30 := by decide +kernel
theorem bp_40 : (Int8.ofInt 40).toInt32 = nI 40 := by decide +kernel
theorem bp_50 : (Int8.ofInt 50).toInt32 = nI 50 := by decide +kernel
theorem bp_63 : (Int8.ofInt 63).toInt32 = nI 63 := by decide +kernel
theorem bp_96 : (Int8.ofInt 96).toInt32 = nI 96 := by decide +kernel
theorem bp_100 : (Int8.ofInt 100).toInt32 = nI 100 := by decide +kernel
theorem bp_120 : (Int8.ofInt 120).toInt32 = nI 120 := by decide +kernel
theorem bp_127 : (Int8.ofInt 127).toInt32 = nI 127 := by decide +kernel
theorem sp_150 : (Int16.ofInt 150).toInt32 = nI 150 := by decide +kernel
theorem sp_240 : (Int16.ofInt 240).toInt32 = nI 240 := by decide +kernel
theorem sp_255 : (Int16.ofInt 255).toInt32 = nI 255 := by decide +kernel
theorem sp_290 : (Int16.ofInt 290).toInt32 = nI 290 := by decide +kernel
theorem sp_410 : (Int16.ofInt 410).toInt32 = nI 410 := by decide +kernel
theorem sp_530 : (Int16.ofInt 530).toInt32 = nI 530 := by decide +kernel
theorem sp_542 : (Int16.ofInt 542).toInt32 = nI 542 := by decide +kernel
theorem sp_566 : (Int16.ofInt 566).toInt32 = nI 566 := by decide +kernel
theorem sp_606 : (Int16.ofInt 606).toInt32 = nI 606 := by decide +kernel
theorem sp_1000 : (Int16.ofInt 1000).toInt32 = nI 1000 := by decide +kernel
theorem sp_1001 : (Int16.ofInt 1001).toInt32 = nI 1001 := by decide +kernel
theorem sp_1086 : (Int16.ofInt 1086).toInt32 = nI 1086 := by decide +kernel
theorem sp_1087 : (Int16.ofInt 1087).toInt32 = nI 1087 := by decide +kernel
theorem sp_1088 : (Int16.ofInt 1088).toInt32 = nI 1088 := by decide +kernel
theorem sp_1089 : (Int16.ofInt 1089).toInt32 = nI 1089 := by decide +kernel
theorem sp_1090 : (Int16.ofInt 1090).toInt32 = nI 1090 := by decide +kernel
theorem sp_2000 : (Int16.ofInt 2000).toInt32 = nI 2000 := by decide +kernel
theorem sp_9999 : (Int16.ofInt 9999).toInt32 = nI 9999 := by decide +kernel
theorem ic_0 : Int32.ofInt 0 = nI 0 := by decide +kernel
theorem ic_1 : Int32.ofInt 1 = nI 1 := by decide +kernel
theorem ic_2 : Int32.ofInt 2 = nI 2 := by decide +kernel
theorem ic_3 : Int32.ofInt 3 = nI 3 := by decide +kernel
theorem ic_4 : Int32.ofInt 4 = nI 4 := by decide +kernel
theorem ic_5 : Int32.ofInt 5 = nI 5 := by decide +kernel
theorem ic_6 : Int32.ofInt 6 = nI 6 := by decide +kernel
theorem ic_10 : Int32.ofInt 10 = nI 10 := by decide +kernel
