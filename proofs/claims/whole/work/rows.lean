section
-- ===== PART A: goes FIRST, ahead of the names: the tables' words, and 'selects' of the private methods out of them =====
/-- a private method of a class that the tables say can be made, by its rows of tables_1 -/
def lw_okq (q : MethodName × Nat) : Prop := (q.1.cls ≠ "java/lang/invoke/MethodHandle" ∧ q.1.cls ≠ "java/lang/invoke/VarHandle") ∧ Cond.instantiable q.1.cls q.2 ∈ tables_1 ∧ Cond.privateMethod q.1 ∈ tables_1 ∧ Cond.instanceMethod q.1 ∈ tables_1
theorem lw_p0 : lw_okq (⟨"WellField", "finding", "(I)I"⟩, 5) := ⟨⟨by decide +kernel, by decide +kernel⟩, List.mem_of_getElem? (i := 12) (by decide +kernel), List.mem_of_getElem? (i := 215) (by decide +kernel), List.mem_of_getElem? (i := 216) (by decide +kernel)⟩
theorem lw_p1 : lw_okq (⟨"WellField$Wells", "add", "(IIII)I"⟩, 6) := ⟨⟨by decide +kernel, by decide +kernel⟩, List.mem_of_getElem? (i := 26) (by decide +kernel), List.mem_of_getElem? (i := 220) (by decide +kernel), List.mem_of_getElem? (i := 221) (by decide +kernel)⟩
theorem lw_p2 : lw_okq (⟨"WellField", "isWell", "(I)Z"⟩, 5) := ⟨⟨by decide +kernel, by decide +kernel⟩, List.mem_of_getElem? (i := 12) (by decide +kernel), List.mem_of_getElem? (i := 229) (by decide +kernel), List.mem_of_getElem? (i := 230) (by decide +kernel)⟩
theorem lw_p3 : lw_okq (⟨"WellField$Wells", "isOneOf", "(II)Z"⟩, 6) := ⟨⟨by decide +kernel, by decide +kernel⟩, List.mem_of_getElem? (i := 26) (by decide +kernel), List.mem_of_getElem? (i := 237) (by decide +kernel), List.mem_of_getElem? (i := 238) (by decide +kernel)⟩
theorem lw_p4 : lw_okq (⟨"WellField$Water", "sumOfDraws", "(I)I"⟩, 7) := ⟨⟨by decide +kernel, by decide +kernel⟩, List.mem_of_getElem? (i := 20) (by decide +kernel), List.mem_of_getElem? (i := 246) (by decide +kernel), List.mem_of_getElem? (i := 247) (by decide +kernel)⟩
theorem lw_p5 : lw_okq (⟨"WellField$Water", "drawOf", "(II)I"⟩, 7) := ⟨⟨by decide +kernel, by decide +kernel⟩, List.mem_of_getElem? (i := 20) (by decide +kernel), List.mem_of_getElem? (i := 250) (by decide +kernel), List.mem_of_getElem? (i := 251) (by decide +kernel)⟩
theorem lw_p6 : lw_okq (⟨"WellField$Wells", "apart", "(II)I"⟩, 6) := ⟨⟨by decide +kernel, by decide +kernel⟩, List.mem_of_getElem? (i := 26) (by decide +kernel), List.mem_of_getElem? (i := 258) (by decide +kernel), List.mem_of_getElem? (i := 259) (by decide +kernel)⟩
theorem lw_p7 : lw_okq (⟨"WellField$Tables", "keepsOrder", "(IIII)Z"⟩, 3) := ⟨⟨by decide +kernel, by decide +kernel⟩, List.mem_of_getElem? (i := 62) (by decide +kernel), List.mem_of_getElem? (i := 284) (by decide +kernel), List.mem_of_getElem? (i := 285) (by decide +kernel)⟩
theorem lw_p8 : lw_okq (⟨"WellField$Sheet", "start", "(II)I"⟩, 3) := ⟨⟨by decide +kernel, by decide +kernel⟩, List.mem_of_getElem? (i := 161) (by decide +kernel), List.mem_of_getElem? (i := 301) (by decide +kernel), List.mem_of_getElem? (i := 302) (by decide +kernel)⟩
theorem lw_p9 : lw_okq (⟨"WellField$Sheet", "isMissing", "()Z"⟩, 3) := ⟨⟨by decide +kernel, by decide +kernel⟩, List.mem_of_getElem? (i := 161) (by decide +kernel), List.mem_of_getElem? (i := 312) (by decide +kernel), List.mem_of_getElem? (i := 313) (by decide +kernel)⟩
theorem lw_p10 : lw_okq (⟨"WellField$Sheet", "write", "(II)V"⟩, 3) := ⟨⟨by decide +kernel, by decide +kernel⟩, List.mem_of_getElem? (i := 161) (by decide +kernel), List.mem_of_getElem? (i := 317) (by decide +kernel), List.mem_of_getElem? (i := 318) (by decide +kernel)⟩
theorem lw_p11 : lw_okq (⟨"WellField$Sheet", "hasPart", "(II)Z"⟩, 3) := ⟨⟨by decide +kernel, by decide +kernel⟩, List.mem_of_getElem? (i := 161) (by decide +kernel), List.mem_of_getElem? (i := 331) (by decide +kernel), List.mem_of_getElem? (i := 332) (by decide +kernel)⟩
theorem lw_p12 : lw_okq (⟨"WellField$Sheet", "startsWithNumbers", "(I)Z"⟩, 3) := ⟨⟨by decide +kernel, by decide +kernel⟩, List.mem_of_getElem? (i := 161) (by decide +kernel), List.mem_of_getElem? (i := 346) (by decide +kernel), List.mem_of_getElem? (i := 347) (by decide +kernel)⟩
theorem lw_p13 : lw_okq (⟨"WellField$Sheet", "startsWithAmounts", "(I)Z"⟩, 3) := ⟨⟨by decide +kernel, by decide +kernel⟩, List.mem_of_getElem? (i := 161) (by decide +kernel), List.mem_of_getElem? (i := 351) (by decide +kernel), List.mem_of_getElem? (i := 352) (by decide +kernel)⟩
theorem lw_p14 : lw_okq (⟨"WellField$Sheet", "whole", "(I)I"⟩, 3) := ⟨⟨by decide +kernel, by decide +kernel⟩, List.mem_of_getElem? (i := 161) (by decide +kernel), List.mem_of_getElem? (i := 355) (by decide +kernel), List.mem_of_getElem? (i := 356) (by decide +kernel)⟩
theorem lw_p15 : lw_okq (⟨"WellField$Water", "setDraw", "(III)V"⟩, 7) := ⟨⟨by decide +kernel, by decide +kernel⟩, List.mem_of_getElem? (i := 20) (by decide +kernel), List.mem_of_getElem? (i := 367) (by decide +kernel), List.mem_of_getElem? (i := 368) (by decide +kernel)⟩
def lw_privs_1 : List (MethodName × Nat) := [(⟨"WellField", "finding", "(I)I"⟩, 5), (⟨"WellField$Wells", "add", "(IIII)I"⟩, 6), (⟨"WellField", "isWell", "(I)Z"⟩, 5), (⟨"WellField$Wells", "isOneOf", "(II)Z"⟩, 6), (⟨"WellField$Water", "sumOfDraws", "(I)I"⟩, 7), (⟨"WellField$Water", "drawOf", "(II)I"⟩, 7), (⟨"WellField$Wells", "apart", "(II)I"⟩, 6), (⟨"WellField$Tables", "keepsOrder", "(IIII)Z"⟩, 3), (⟨"WellField$Sheet", "start", "(II)I"⟩, 3), (⟨"WellField$Sheet", "isMissing", "()Z"⟩, 3), (⟨"WellField$Sheet", "write", "(II)V"⟩, 3), (⟨"WellField$Sheet", "hasPart", "(II)Z"⟩, 3), (⟨"WellField$Sheet", "startsWithNumbers", "(I)Z"⟩, 3), (⟨"WellField$Sheet", "startsWithAmounts", "(I)Z"⟩, 3), (⟨"WellField$Sheet", "whole", "(I)I"⟩, 3), (⟨"WellField$Water", "setDraw", "(III)V"⟩, 7)]
theorem lw_r1 : ∀ q ∈ lw_privs_1, lw_okq q := List.forall_mem_cons.mpr ⟨lw_p0, List.forall_mem_cons.mpr ⟨lw_p1, List.forall_mem_cons.mpr ⟨lw_p2, List.forall_mem_cons.mpr ⟨lw_p3, List.forall_mem_cons.mpr ⟨lw_p4, List.forall_mem_cons.mpr ⟨lw_p5, List.forall_mem_cons.mpr ⟨lw_p6, List.forall_mem_cons.mpr ⟨lw_p7, List.forall_mem_cons.mpr ⟨lw_p8, List.forall_mem_cons.mpr ⟨lw_p9, List.forall_mem_cons.mpr ⟨lw_p10, List.forall_mem_cons.mpr ⟨lw_p11, List.forall_mem_cons.mpr ⟨lw_p12, List.forall_mem_cons.mpr ⟨lw_p13, List.forall_mem_cons.mpr ⟨lw_p14, List.forall_mem_cons.mpr ⟨lw_p15, fun _ h => absurd h List.not_mem_nil⟩⟩⟩⟩⟩⟩⟩⟩⟩⟩⟩⟩⟩⟩⟩⟩
theorem lw_p16 : lw_okq (⟨"WellField$Water", "counted", "(II)I"⟩, 7) := ⟨⟨by decide +kernel, by decide +kernel⟩, List.mem_of_getElem? (i := 20) (by decide +kernel), List.mem_of_getElem? (i := 380) (by decide +kernel), List.mem_of_getElem? (i := 381) (by decide +kernel)⟩
theorem lw_p17 : lw_okq (⟨"WellField$Wells", "isOwnMonth", "(II)Z"⟩, 6) := ⟨⟨by decide +kernel, by decide +kernel⟩, List.mem_of_getElem? (i := 26) (by decide +kernel), List.mem_of_getElem? (i := 384) (by decide +kernel), List.mem_of_getElem? (i := 385) (by decide +kernel)⟩
theorem lw_p18 : lw_okq (⟨"WellField$Water", "headOf", "(II)I"⟩, 7) := ⟨⟨by decide +kernel, by decide +kernel⟩, List.mem_of_getElem? (i := 20) (by decide +kernel), List.mem_of_getElem? (i := 403) (by decide +kernel), List.mem_of_getElem? (i := 404) (by decide +kernel)⟩
theorem lw_p19 : lw_okq (⟨"WellField$Water", "raisedByRain", "(I)I"⟩, 7) := ⟨⟨by decide +kernel, by decide +kernel⟩, List.mem_of_getElem? (i := 20) (by decide +kernel), List.mem_of_getElem? (i := 407) (by decide +kernel), List.mem_of_getElem? (i := 408) (by decide +kernel)⟩
theorem lw_p20 : lw_okq (⟨"WellField$Water", "lowering", "(IIII)I"⟩, 7) := ⟨⟨by decide +kernel, by decide +kernel⟩, List.mem_of_getElem? (i := 20) (by decide +kernel), List.mem_of_getElem? (i := 412) (by decide +kernel), List.mem_of_getElem? (i := 413) (by decide +kernel)⟩
theorem lw_p21 : lw_okq (⟨"WellField$Water", "rowBetween", "(II)I"⟩, 7) := ⟨⟨by decide +kernel, by decide +kernel⟩, List.mem_of_getElem? (i := 20) (by decide +kernel), List.mem_of_getElem? (i := 416) (by decide +kernel), List.mem_of_getElem? (i := 417) (by decide +kernel)⟩
theorem lw_p22 : lw_okq (⟨"WellField$Wells", "layer", "(II)I"⟩, 6) := ⟨⟨by decide +kernel, by decide +kernel⟩, List.mem_of_getElem? (i := 26) (by decide +kernel), List.mem_of_getElem? (i := 420) (by decide +kernel), List.mem_of_getElem? (i := 421) (by decide +kernel)⟩
theorem lw_p23 : lw_okq (⟨"WellField$Water", "aboveLimit", "(II)I"⟩, 7) := ⟨⟨by decide +kernel, by decide +kernel⟩, List.mem_of_getElem? (i := 20) (by decide +kernel), List.mem_of_getElem? (i := 445) (by decide +kernel), List.mem_of_getElem? (i := 446) (by decide +kernel)⟩
theorem lw_p24 : lw_okq (⟨"WellField$Water", "findSpare", "(I)V"⟩, 7) := ⟨⟨by decide +kernel, by decide +kernel⟩, List.mem_of_getElem? (i := 20) (by decide +kernel), List.mem_of_getElem? (i := 466) (by decide +kernel), List.mem_of_getElem? (i := 467) (by decide +kernel)⟩
theorem lw_p25 : lw_okq (⟨"WellField$Water", "freeOf", "(II)I"⟩, 7) := ⟨⟨by decide +kernel, by decide +kernel⟩, List.mem_of_getElem? (i := 20) (by decide +kernel), List.mem_of_getElem? (i := 471) (by decide +kernel), List.mem_of_getElem? (i := 472) (by decide +kernel)⟩
theorem lw_p26 : lw_okq (⟨"WellField$Wells", "isDrawing", "(I)Z"⟩, 6) := ⟨⟨by decide +kernel, by decide +kernel⟩, List.mem_of_getElem? (i := 26) (by decide +kernel), List.mem_of_getElem? (i := 475) (by decide +kernel), List.mem_of_getElem? (i := 476) (by decide +kernel)⟩
theorem lw_p27 : lw_okq (⟨"WellField$Water", "loweringOfOneMore", "(IIII)I"⟩, 7) := ⟨⟨by decide +kernel, by decide +kernel⟩, List.mem_of_getElem? (i := 20) (by decide +kernel), List.mem_of_getElem? (i := 480) (by decide +kernel), List.mem_of_getElem? (i := 481) (by decide +kernel)⟩
theorem lw_p28 : lw_okq (⟨"WellField$Licences", "add", "(III)I"⟩, 5) := ⟨⟨by decide +kernel, by decide +kernel⟩, List.mem_of_getElem? (i := 85) (by decide +kernel), List.mem_of_getElem? (i := 490) (by decide +kernel), List.mem_of_getElem? (i := 491) (by decide +kernel)⟩
theorem lw_p29 : lw_okq (⟨"WellField$Water", "unserve", "(I)V"⟩, 7) := ⟨⟨by decide +kernel, by decide +kernel⟩, List.mem_of_getElem? (i := 20) (by decide +kernel), List.mem_of_getElem? (i := 498) (by decide +kernel), List.mem_of_getElem? (i := 499) (by decide +kernel)⟩
theorem lw_p30 : lw_okq (⟨"WellField$Licences", "nextUnserved", "()I"⟩, 5) := ⟨⟨by decide +kernel, by decide +kernel⟩, List.mem_of_getElem? (i := 85) (by decide +kernel), List.mem_of_getElem? (i := 503) (by decide +kernel), List.mem_of_getElem? (i := 504) (by decide +kernel)⟩
theorem lw_p31 : lw_okq (⟨"WellField$Water", "grant", "(III)I"⟩, 7) := ⟨⟨by decide +kernel, by decide +kernel⟩, List.mem_of_getElem? (i := 20) (by decide +kernel), List.mem_of_getElem? (i := 507) (by decide +kernel), List.mem_of_getElem? (i := 508) (by decide +kernel)⟩
def lw_privs_2 : List (MethodName × Nat) := [(⟨"WellField$Water", "counted", "(II)I"⟩, 7), (⟨"WellField$Wells", "isOwnMonth", "(II)Z"⟩, 6), (⟨"WellField$Water", "headOf", "(II)I"⟩, 7), (⟨"WellField$Water", "raisedByRain", "(I)I"⟩, 7), (⟨"WellField$Water", "lowering", "(IIII)I"⟩, 7), (⟨"WellField$Water", "rowBetween", "(II)I"⟩, 7), (⟨"WellField$Wells", "layer", "(II)I"⟩, 6), (⟨"WellField$Water", "aboveLimit", "(II)I"⟩, 7), (⟨"WellField$Water", "findSpare", "(I)V"⟩, 7), (⟨"WellField$Water", "freeOf", "(II)I"⟩, 7), (⟨"WellField$Wells", "isDrawing", "(I)Z"⟩, 6), (⟨"WellField$Water", "loweringOfOneMore", "(IIII)I"⟩, 7), (⟨"WellField$Licences", "add", "(III)I"⟩, 5), (⟨"WellField$Water", "unserve", "(I)V"⟩, 7), (⟨"WellField$Licences", "nextUnserved", "()I"⟩, 5), (⟨"WellField$Water", "grant", "(III)I"⟩, 7)]
theorem lw_r2 : ∀ q ∈ lw_privs_2, lw_okq q := List.forall_mem_cons.mpr ⟨lw_p16, List.forall_mem_cons.mpr ⟨lw_p17, List.forall_mem_cons.mpr ⟨lw_p18, List.forall_mem_cons.mpr ⟨lw_p19, List.forall_mem_cons.mpr ⟨lw_p20, List.forall_mem_cons.mpr ⟨lw_p21, List.forall_mem_cons.mpr ⟨lw_p22, List.forall_mem_cons.mpr ⟨lw_p23, List.forall_mem_cons.mpr ⟨lw_p24, List.forall_mem_cons.mpr ⟨lw_p25, List.forall_mem_cons.mpr ⟨lw_p26, List.forall_mem_cons.mpr ⟨lw_p27, List.forall_mem_cons.mpr ⟨lw_p28, List.forall_mem_cons.mpr ⟨lw_p29, List.forall_mem_cons.mpr ⟨lw_p30, List.forall_mem_cons.mpr ⟨lw_p31, fun _ h => absurd h List.not_mem_nil⟩⟩⟩⟩⟩⟩⟩⟩⟩⟩⟩⟩⟩⟩⟩⟩
theorem lw_p32 : lw_okq (⟨"WellField$Water", "roomForDraws", "(II)I"⟩, 7) := ⟨⟨by decide +kernel, by decide +kernel⟩, List.mem_of_getElem? (i := 20) (by decide +kernel), List.mem_of_getElem? (i := 511) (by decide +kernel), List.mem_of_getElem? (i := 512) (by decide +kernel)⟩
theorem lw_p33 : lw_okq (⟨"WellField$Water", "useSpare", "(III)V"⟩, 7) := ⟨⟨by decide +kernel, by decide +kernel⟩, List.mem_of_getElem? (i := 20) (by decide +kernel), List.mem_of_getElem? (i := 515) (by decide +kernel), List.mem_of_getElem? (i := 516) (by decide +kernel)⟩
theorem lw_p34 : lw_okq (⟨"WellField$Water", "leastToHold", "(III)I"⟩, 7) := ⟨⟨by decide +kernel, by decide +kernel⟩, List.mem_of_getElem? (i := 20) (by decide +kernel), List.mem_of_getElem? (i := 527) (by decide +kernel), List.mem_of_getElem? (i := 528) (by decide +kernel)⟩
theorem lw_p35 : lw_okq (⟨"WellField$Water", "mostToMove", "(III)I"⟩, 7) := ⟨⟨by decide +kernel, by decide +kernel⟩, List.mem_of_getElem? (i := 20) (by decide +kernel), List.mem_of_getElem? (i := 535) (by decide +kernel), List.mem_of_getElem? (i := 536) (by decide +kernel)⟩
theorem lw_p36 : lw_okq (⟨"WellField$Readings", "has", "(II)Z"⟩, 3) := ⟨⟨by decide +kernel, by decide +kernel⟩, List.mem_of_getElem? (i := 115) (by decide +kernel), List.mem_of_getElem? (i := 546) (by decide +kernel), List.mem_of_getElem? (i := 547) (by decide +kernel)⟩
theorem lw_p37 : lw_okq (⟨"WellField$Readings", "write", "(III)V"⟩, 3) := ⟨⟨by decide +kernel, by decide +kernel⟩, List.mem_of_getElem? (i := 115) (by decide +kernel), List.mem_of_getElem? (i := 550) (by decide +kernel), List.mem_of_getElem? (i := 551) (by decide +kernel)⟩
theorem lw_p38 : lw_okq (⟨"WellField$Water", "difference", "(II)I"⟩, 7) := ⟨⟨by decide +kernel, by decide +kernel⟩, List.mem_of_getElem? (i := 20) (by decide +kernel), List.mem_of_getElem? (i := 559) (by decide +kernel), List.mem_of_getElem? (i := 560) (by decide +kernel)⟩
theorem lw_p39 : lw_okq (⟨"WellField$Readings", "at", "(II)I"⟩, 3) := ⟨⟨by decide +kernel, by decide +kernel⟩, List.mem_of_getElem? (i := 115) (by decide +kernel), List.mem_of_getElem? (i := 563) (by decide +kernel), List.mem_of_getElem? (i := 564) (by decide +kernel)⟩
theorem lw_p40 : lw_okq (⟨"WellField$Tables", "startTrial", "(II)V"⟩, 3) := ⟨⟨by decide +kernel, by decide +kernel⟩, List.mem_of_getElem? (i := 62) (by decide +kernel), List.mem_of_getElem? (i := 571) (by decide +kernel), List.mem_of_getElem? (i := 572) (by decide +kernel)⟩
theorem lw_p41 : lw_okq (⟨"WellField$Tables", "tryFactor", "(III)V"⟩, 3) := ⟨⟨by decide +kernel, by decide +kernel⟩, List.mem_of_getElem? (i := 62) (by decide +kernel), List.mem_of_getElem? (i := 576) (by decide +kernel), List.mem_of_getElem? (i := 577) (by decide +kernel)⟩
theorem lw_p42 : lw_okq (⟨"WellField$Water", "sumOfSquares", "()J"⟩, 7) := ⟨⟨by decide +kernel, by decide +kernel⟩, List.mem_of_getElem? (i := 20) (by decide +kernel), List.mem_of_getElem? (i := 581) (by decide +kernel), List.mem_of_getElem? (i := 582) (by decide +kernel)⟩
theorem lw_p43 : lw_okq (⟨"WellField$Water", "take", "(LWellField$Water;)V"⟩, 7) := ⟨⟨by decide +kernel, by decide +kernel⟩, List.mem_of_getElem? (i := 20) (by decide +kernel), List.mem_of_getElem? (i := 595) (by decide +kernel), List.mem_of_getElem? (i := 596) (by decide +kernel)⟩
theorem lw_p44 : lw_okq (⟨"WellField$Wells", "take", "(LWellField$Wells;)V"⟩, 6) := ⟨⟨by decide +kernel, by decide +kernel⟩, List.mem_of_getElem? (i := 26) (by decide +kernel), List.mem_of_getElem? (i := 599) (by decide +kernel), List.mem_of_getElem? (i := 600) (by decide +kernel)⟩
theorem lw_p45 : lw_okq (⟨"WellField$Tables", "take", "(LWellField$Tables;)V"⟩, 3) := ⟨⟨by decide +kernel, by decide +kernel⟩, List.mem_of_getElem? (i := 62) (by decide +kernel), List.mem_of_getElem? (i := 606) (by decide +kernel), List.mem_of_getElem? (i := 607) (by decide +kernel)⟩
theorem lw_p46 : lw_okq (⟨"WellField$Licences", "take", "(LWellField$Licences;)V"⟩, 5) := ⟨⟨by decide +kernel, by decide +kernel⟩, List.mem_of_getElem? (i := 85) (by decide +kernel), List.mem_of_getElem? (i := 611) (by decide +kernel), List.mem_of_getElem? (i := 612) (by decide +kernel)⟩
theorem lw_p47 : lw_okq (⟨"WellField$Readings", "take", "(LWellField$Readings;)V"⟩, 3) := ⟨⟨by decide +kernel, by decide +kernel⟩, List.mem_of_getElem? (i := 115) (by decide +kernel), List.mem_of_getElem? (i := 616) (by decide +kernel), List.mem_of_getElem? (i := 617) (by decide +kernel)⟩
def lw_privs_3 : List (MethodName × Nat) := [(⟨"WellField$Water", "roomForDraws", "(II)I"⟩, 7), (⟨"WellField$Water", "useSpare", "(III)V"⟩, 7), (⟨"WellField$Water", "leastToHold", "(III)I"⟩, 7), (⟨"WellField$Water", "mostToMove", "(III)I"⟩, 7), (⟨"WellField$Readings", "has", "(II)Z"⟩, 3), (⟨"WellField$Readings", "write", "(III)V"⟩, 3), (⟨"WellField$Water", "difference", "(II)I"⟩, 7), (⟨"WellField$Readings", "at", "(II)I"⟩, 3), (⟨"WellField$Tables", "startTrial", "(II)V"⟩, 3), (⟨"WellField$Tables", "tryFactor", "(III)V"⟩, 3), (⟨"WellField$Water", "sumOfSquares", "()J"⟩, 7), (⟨"WellField$Water", "take", "(LWellField$Water;)V"⟩, 7), (⟨"WellField$Wells", "take", "(LWellField$Wells;)V"⟩, 6), (⟨"WellField$Tables", "take", "(LWellField$Tables;)V"⟩, 3), (⟨"WellField$Licences", "take", "(LWellField$Licences;)V"⟩, 5), (⟨"WellField$Readings", "take", "(LWellField$Readings;)V"⟩, 3)]
theorem lw_r3 : ∀ q ∈ lw_privs_3, lw_okq q := List.forall_mem_cons.mpr ⟨lw_p32, List.forall_mem_cons.mpr ⟨lw_p33, List.forall_mem_cons.mpr ⟨lw_p34, List.forall_mem_cons.mpr ⟨lw_p35, List.forall_mem_cons.mpr ⟨lw_p36, List.forall_mem_cons.mpr ⟨lw_p37, List.forall_mem_cons.mpr ⟨lw_p38, List.forall_mem_cons.mpr ⟨lw_p39, List.forall_mem_cons.mpr ⟨lw_p40, List.forall_mem_cons.mpr ⟨lw_p41, List.forall_mem_cons.mpr ⟨lw_p42, List.forall_mem_cons.mpr ⟨lw_p43, List.forall_mem_cons.mpr ⟨lw_p44, List.forall_mem_cons.mpr ⟨lw_p45, List.forall_mem_cons.mpr ⟨lw_p46, List.forall_mem_cons.mpr ⟨lw_p47, fun _ h => absurd h List.not_mem_nil⟩⟩⟩⟩⟩⟩⟩⟩⟩⟩⟩⟩⟩⟩⟩⟩
theorem lw_p48 : lw_okq (⟨"WellFieldModel", "found", "(I)I"⟩, 12) := ⟨⟨by decide +kernel, by decide +kernel⟩, List.mem_of_getElem? (i := 630) (by decide +kernel), List.mem_of_getElem? (i := 686) (by decide +kernel), List.mem_of_getElem? (i := 687) (by decide +kernel)⟩
theorem lw_p49 : lw_okq (⟨"WellFieldModel", "wells", "()I"⟩, 12) := ⟨⟨by decide +kernel, by decide +kernel⟩, List.mem_of_getElem? (i := 630) (by decide +kernel), List.mem_of_getElem? (i := 690) (by decide +kernel), List.mem_of_getElem? (i := 691) (by decide +kernel)⟩
theorem lw_p50 : lw_okq (⟨"WellFieldModel", "isWell", "(I)Z"⟩, 12) := ⟨⟨by decide +kernel, by decide +kernel⟩, List.mem_of_getElem? (i := 630) (by decide +kernel), List.mem_of_getElem? (i := 699) (by decide +kernel), List.mem_of_getElem? (i := 700) (by decide +kernel)⟩
theorem lw_p51 : lw_okq (⟨"WellFieldModel", "told0", "(II)I"⟩, 12) := ⟨⟨by decide +kernel, by decide +kernel⟩, List.mem_of_getElem? (i := 630) (by decide +kernel), List.mem_of_getElem? (i := 703) (by decide +kernel), List.mem_of_getElem? (i := 704) (by decide +kernel)⟩
theorem lw_p52 : lw_okq (⟨"WellFieldModel", "kindOf", "(I)I"⟩, 12) := ⟨⟨by decide +kernel, by decide +kernel⟩, List.mem_of_getElem? (i := 630) (by decide +kernel), List.mem_of_getElem? (i := 711) (by decide +kernel), List.mem_of_getElem? (i := 712) (by decide +kernel)⟩
theorem lw_p53 : lw_okq (⟨"WellFieldModel", "drawOf", "(II)I"⟩, 12) := ⟨⟨by decide +kernel, by decide +kernel⟩, List.mem_of_getElem? (i := 630) (by decide +kernel), List.mem_of_getElem? (i := 720) (by decide +kernel), List.mem_of_getElem? (i := 721) (by decide +kernel)⟩
theorem lw_p54 : lw_okq (⟨"WellFieldModel", "apart", "(II)I"⟩, 12) := ⟨⟨by decide +kernel, by decide +kernel⟩, List.mem_of_getElem? (i := 630) (by decide +kernel), List.mem_of_getElem? (i := 728) (by decide +kernel), List.mem_of_getElem? (i := 729) (by decide +kernel)⟩
theorem lw_p55 : lw_okq (⟨"WellFieldModel", "sign", "(II)I"⟩, 12) := ⟨⟨by decide +kernel, by decide +kernel⟩, List.mem_of_getElem? (i := 630) (by decide +kernel), List.mem_of_getElem? (i := 787) (by decide +kernel), List.mem_of_getElem? (i := 788) (by decide +kernel)⟩
theorem lw_p56 : lw_okq (⟨"WellFieldModel", "headOf", "(II)I"⟩, 12) := ⟨⟨by decide +kernel, by decide +kernel⟩, List.mem_of_getElem? (i := 630) (by decide +kernel), List.mem_of_getElem? (i := 803) (by decide +kernel), List.mem_of_getElem? (i := 804) (by decide +kernel)⟩
theorem lw_p57 : lw_okq (⟨"WellFieldModel", "rainOf", "(I)I"⟩, 12) := ⟨⟨by decide +kernel, by decide +kernel⟩, List.mem_of_getElem? (i := 630) (by decide +kernel), List.mem_of_getElem? (i := 807) (by decide +kernel), List.mem_of_getElem? (i := 808) (by decide +kernel)⟩
theorem lw_p58 : lw_okq (⟨"WellFieldModel", "lowering", "(IIII)I"⟩, 12) := ⟨⟨by decide +kernel, by decide +kernel⟩, List.mem_of_getElem? (i := 630) (by decide +kernel), List.mem_of_getElem? (i := 811) (by decide +kernel), List.mem_of_getElem? (i := 812) (by decide +kernel)⟩
theorem lw_p59 : lw_okq (⟨"WellFieldModel", "share", "(III)I"⟩, 12) := ⟨⟨by decide +kernel, by decide +kernel⟩, List.mem_of_getElem? (i := 630) (by decide +kernel), List.mem_of_getElem? (i := 815) (by decide +kernel), List.mem_of_getElem? (i := 816) (by decide +kernel)⟩
theorem lw_p60 : lw_okq (⟨"WellFieldModel", "above", "(II)I"⟩, 12) := ⟨⟨by decide +kernel, by decide +kernel⟩, List.mem_of_getElem? (i := 630) (by decide +kernel), List.mem_of_getElem? (i := 836) (by decide +kernel), List.mem_of_getElem? (i := 837) (by decide +kernel)⟩
theorem lw_p61 : lw_okq (⟨"WellFieldModel", "freeOf", "(II)I"⟩, 12) := ⟨⟨by decide +kernel, by decide +kernel⟩, List.mem_of_getElem? (i := 630) (by decide +kernel), List.mem_of_getElem? (i := 856) (by decide +kernel), List.mem_of_getElem? (i := 857) (by decide +kernel)⟩
theorem lw_p62 : lw_okq (⟨"WellFieldModel", "isFree", "(II)Z"⟩, 12) := ⟨⟨by decide +kernel, by decide +kernel⟩, List.mem_of_getElem? (i := 630) (by decide +kernel), List.mem_of_getElem? (i := 860) (by decide +kernel), List.mem_of_getElem? (i := 861) (by decide +kernel)⟩
theorem lw_p63 : lw_okq (⟨"WellFieldModel", "licenceOf", "(II)I"⟩, 12) := ⟨⟨by decide +kernel, by decide +kernel⟩, List.mem_of_getElem? (i := 630) (by decide +kernel), List.mem_of_getElem? (i := 872) (by decide +kernel), List.mem_of_getElem? (i := 873) (by decide +kernel)⟩
def lw_privs_4 : List (MethodName × Nat) := [(⟨"WellFieldModel", "found", "(I)I"⟩, 12), (⟨"WellFieldModel", "wells", "()I"⟩, 12), (⟨"WellFieldModel", "isWell", "(I)Z"⟩, 12), (⟨"WellFieldModel", "told0", "(II)I"⟩, 12), (⟨"WellFieldModel", "kindOf", "(I)I"⟩, 12), (⟨"WellFieldModel", "drawOf", "(II)I"⟩, 12), (⟨"WellFieldModel", "apart", "(II)I"⟩, 12), (⟨"WellFieldModel", "sign", "(II)I"⟩, 12), (⟨"WellFieldModel", "headOf", "(II)I"⟩, 12), (⟨"WellFieldModel", "rainOf", "(I)I"⟩, 12), (⟨"WellFieldModel", "lowering", "(IIII)I"⟩, 12), (⟨"WellFieldModel", "share", "(III)I"⟩, 12), (⟨"WellFieldModel", "above", "(II)I"⟩, 12), (⟨"WellFieldModel", "freeOf", "(II)I"⟩, 12), (⟨"WellFieldModel", "isFree", "(II)Z"⟩, 12), (⟨"WellFieldModel", "licenceOf", "(II)I"⟩, 12)]
theorem lw_r4 : ∀ q ∈ lw_privs_4, lw_okq q := List.forall_mem_cons.mpr ⟨lw_p48, List.forall_mem_cons.mpr ⟨lw_p49, List.forall_mem_cons.mpr ⟨lw_p50, List.forall_mem_cons.mpr ⟨lw_p51, List.forall_mem_cons.mpr ⟨lw_p52, List.forall_mem_cons.mpr ⟨lw_p53, List.forall_mem_cons.mpr ⟨lw_p54, List.forall_mem_cons.mpr ⟨lw_p55, List.forall_mem_cons.mpr ⟨lw_p56, List.forall_mem_cons.mpr ⟨lw_p57, List.forall_mem_cons.mpr ⟨lw_p58, List.forall_mem_cons.mpr ⟨lw_p59, List.forall_mem_cons.mpr ⟨lw_p60, List.forall_mem_cons.mpr ⟨lw_p61, List.forall_mem_cons.mpr ⟨lw_p62, List.forall_mem_cons.mpr ⟨lw_p63, fun _ h => absurd h List.not_mem_nil⟩⟩⟩⟩⟩⟩⟩⟩⟩⟩⟩⟩⟩⟩⟩⟩
theorem lw_p64 : lw_okq (⟨"WellFieldModel", "mayMove", "(IIIII)Z"⟩, 12) := ⟨⟨by decide +kernel, by decide +kernel⟩, List.mem_of_getElem? (i := 630) (by decide +kernel), List.mem_of_getElem? (i := 888) (by decide +kernel), List.mem_of_getElem? (i := 889) (by decide +kernel)⟩
theorem lw_p65 : lw_okq (⟨"WellFieldModel", "reading", "(II)I"⟩, 12) := ⟨⟨by decide +kernel, by decide +kernel⟩, List.mem_of_getElem? (i := 630) (by decide +kernel), List.mem_of_getElem? (i := 898) (by decide +kernel), List.mem_of_getElem? (i := 899) (by decide +kernel)⟩
theorem lw_p66 : lw_okq (⟨"WellFieldModel", "times", "(III)V"⟩, 12) := ⟨⟨by decide +kernel, by decide +kernel⟩, List.mem_of_getElem? (i := 630) (by decide +kernel), List.mem_of_getElem? (i := 910) (by decide +kernel), List.mem_of_getElem? (i := 911) (by decide +kernel)⟩
theorem lw_p67 : lw_okq (⟨"WellFieldModel", "squaresNow", "()J"⟩, 12) := ⟨⟨by decide +kernel, by decide +kernel⟩, List.mem_of_getElem? (i := 630) (by decide +kernel), List.mem_of_getElem? (i := 914) (by decide +kernel), List.mem_of_getElem? (i := 915) (by decide +kernel)⟩
def lw_privs_5 : List (MethodName × Nat) := [(⟨"WellFieldModel", "mayMove", "(IIIII)Z"⟩, 12), (⟨"WellFieldModel", "reading", "(II)I"⟩, 12), (⟨"WellFieldModel", "times", "(III)V"⟩, 12), (⟨"WellFieldModel", "squaresNow", "()J"⟩, 12)]
theorem lw_r5 : ∀ q ∈ lw_privs_5, lw_okq q := List.forall_mem_cons.mpr ⟨lw_p64, List.forall_mem_cons.mpr ⟨lw_p65, List.forall_mem_cons.mpr ⟨lw_p66, List.forall_mem_cons.mpr ⟨lw_p67, fun _ h => absurd h List.not_mem_nil⟩⟩⟩⟩
def lw_privs : List (MethodName × Nat) := lw_privs_1 ++ (lw_privs_2 ++ (lw_privs_3 ++ (lw_privs_4 ++ (lw_privs_5))))
def lw_tbl : List Cond := k2_sels lw_privs ++ tables_1
theorem lw_privs_ok : ∀ q ∈ lw_privs, lw_okq q := by
  show ∀ q ∈ lw_privs_1 ++ (lw_privs_2 ++ (lw_privs_3 ++ (lw_privs_4 ++ (lw_privs_5)))), lw_okq q
  exact List.forall_mem_append.mpr ⟨lw_r1, List.forall_mem_append.mpr ⟨lw_r2, List.forall_mem_append.mpr ⟨lw_r3, List.forall_mem_append.mpr ⟨lw_r4, lw_r5⟩⟩⟩⟩
end
section
def RX0 : String := "WellField$Licences"
def TX0 : u_T := fun k => match k with
  | 0 => ("WellField$Licences", "size", "I", false)
  | 1 => ("WellField$Licences", "wells", "[I", true)
  | 2 => ("WellField$Licences", "years", "[I", true)
  | 3 => ("WellField$Licences", "amounts", "[I", true)
  | _ => ("WellField$Licences", "served", "[I", true)
def tyX0 : Nat → FieldType := fun k => match k with
  | 0 => .int
  | 1 => .array .int
  | 2 => .array .int
  | 3 => .array .int
  | _ => .array .int
abbrev wsX00 : List Cond := u_ws RX0 TX0 5
theorem nmX0 : ∀ a, a < 5 → ∀ b, b < 5 → a ≠ b → (TX0 a).2.1 ≠ (TX0 b).2.1 := by decide +kernel
theorem tyX0_ok : ∀ k, k < 5 → parseFieldDescriptor (TX0 k).2.2.1 = some (tyX0 k) := by decide +kernel
abbrev cX0_init : ByteArray := prog_2_method_1_code
def yX0_init : MethodName := ⟨RX0, "<init>", "()V"⟩
abbrev cX0_add : ByteArray := prog_2_method_2_code
def yX0_add : MethodName := ⟨RX0, "add", "(III)I"⟩
abbrev cX0_nextUnserved : ByteArray := prog_2_method_3_code
def yX0_nextUnserved : MethodName := ⟨RX0, "nextUnserved", "()I"⟩
abbrev cX0_take : ByteArray := prog_2_method_4_code
def yX0_take : MethodName := ⟨RX0, "take", "(LWellField$Licences;)V"⟩
def RX1 : String := "WellField$Readings"
def TX1 : u_T := fun k => match k with
  | 0 => ("WellField$Readings", "size", "I", false)
  | 1 => ("WellField$Readings", "marks", "[I", true)
  | _ => ("WellField$Readings", "heads", "[I", true)
def tyX1 : Nat → FieldType := fun k => match k with
  | 0 => .int
  | 1 => .array .int
  | _ => .array .int
abbrev wsX10 : List Cond := u_ws RX1 TX1 3
theorem nmX1 : ∀ a, a < 3 → ∀ b, b < 3 → a ≠ b → (TX1 a).2.1 ≠ (TX1 b).2.1 := by decide +kernel
theorem tyX1_ok : ∀ k, k < 3 → parseFieldDescriptor (TX1 k).2.2.1 = some (tyX1 k) := by decide +kernel
abbrev cX1_init : ByteArray := prog_3_method_1_code
def yX1_init : MethodName := ⟨RX1, "<init>", "()V"⟩
abbrev cX1_has : ByteArray := prog_3_method_2_code
def yX1_has : MethodName := ⟨RX1, "has", "(II)Z"⟩
abbrev cX1_at : ByteArray := prog_3_method_3_code
def yX1_at : MethodName := ⟨RX1, "at", "(II)I"⟩
abbrev cX1_write : ByteArray := prog_3_method_4_code
def yX1_write : MethodName := ⟨RX1, "write", "(III)V"⟩
abbrev cX1_take : ByteArray := prog_3_method_5_code
def yX1_take : MethodName := ⟨RX1, "take", "(LWellField$Readings;)V"⟩
def RX2 : String := "WellField$Sheet"
def TX2 : u_T := fun k => match k with
  | 0 => ("WellField$Sheet", "kind", "I", false)
  | 1 => ("WellField$Sheet", "size", "I", false)
  | _ => ("WellField$Sheet", "numbers", "[I", true)
def tyX2 : Nat → FieldType := fun k => match k with
  | 0 => .int
  | 1 => .int
  | _ => .array .int
abbrev wsX20 : List Cond := u_ws RX2 TX2 3
theorem nmX2 : ∀ a, a < 3 → ∀ b, b < 3 → a ≠ b → (TX2 a).2.1 ≠ (TX2 b).2.1 := by decide +kernel
theorem tyX2_ok : ∀ k, k < 3 → parseFieldDescriptor (TX2 k).2.2.1 = some (tyX2 k) := by decide +kernel
abbrev cX2_init : ByteArray := prog_4_method_1_code
def yX2_init : MethodName := ⟨RX2, "<init>", "()V"⟩
abbrev cX2_isMissing : ByteArray := prog_4_method_2_code
def yX2_isMissing : MethodName := ⟨RX2, "isMissing", "()Z"⟩
abbrev cX2_start : ByteArray := prog_4_method_3_code
def yX2_start : MethodName := ⟨RX2, "start", "(II)I"⟩
abbrev cX2_write : ByteArray := prog_4_method_4_code
def yX2_write : MethodName := ⟨RX2, "write", "(II)V"⟩
abbrev cX2_hasPart : ByteArray := prog_4_method_5_code
def yX2_hasPart : MethodName := ⟨RX2, "hasPart", "(II)Z"⟩
abbrev cX2_startsWithNumbers : ByteArray := prog_4_method_6_code
def yX2_startsWithNumbers : MethodName := ⟨RX2, "startsWithNumbers", "(I)Z"⟩
abbrev cX2_startsWithAmounts : ByteArray := prog_4_method_7_code
def yX2_startsWithAmounts : MethodName := ⟨RX2, "startsWithAmounts", "(I)Z"⟩
abbrev cX2_whole : ByteArray := prog_4_method_8_code
def yX2_whole : MethodName := ⟨RX2, "whole", "(I)I"⟩
abbrev cX2_isNoNumber : ByteArray := prog_4_method_9_code
def yX2_isNoNumber : MethodName := ⟨RX2, "isNoNumber", "(I)Z"⟩
abbrev cX2_cut : ByteArray := prog_4_method_10_code
def yX2_cut : MethodName := ⟨RX2, "cut", "(I)I"⟩
def RX3 : String := "WellField$Tables"
def TX3 : u_T := fun k => match k with
  | 0 => ("WellField$Tables", "falls", "[I", true)
  | 1 => ("WellField$Tables", "rises", "[I", true)
  | _ => ("WellField$Tables", "before", "[I", true)
def tyX3 : Nat → FieldType := fun k => match k with
  | 0 => .array .int
  | 1 => .array .int
  | _ => .array .int
abbrev wsX30 : List Cond := u_ws RX3 TX3 3
theorem nmX3 : ∀ a, a < 3 → ∀ b, b < 3 → a ≠ b → (TX3 a).2.1 ≠ (TX3 b).2.1 := by decide +kernel
theorem tyX3_ok : ∀ k, k < 3 → parseFieldDescriptor (TX3 k).2.2.1 = some (tyX3 k) := by decide +kernel
abbrev cX3_init : ByteArray := prog_5_method_1_code
def yX3_init : MethodName := ⟨RX3, "<init>", "()V"⟩
abbrev cX3_row : ByteArray := prog_5_method_2_code
def yX3_row : MethodName := ⟨RX3, "row", "(II)I"⟩
abbrev cX3_keepsOrder : ByteArray := prog_5_method_3_code
def yX3_keepsOrder : MethodName := ⟨RX3, "keepsOrder", "(IIII)Z"⟩
abbrev cX3_startTrial : ByteArray := prog_5_method_4_code
def yX3_startTrial : MethodName := ⟨RX3, "startTrial", "(II)V"⟩
abbrev cX3_tryFactor : ByteArray := prog_5_method_5_code
def yX3_tryFactor : MethodName := ⟨RX3, "tryFactor", "(III)V"⟩
abbrev cX3_take : ByteArray := prog_5_method_6_code
def yX3_take : MethodName := ⟨RX3, "take", "(LWellField$Tables;)V"⟩
def RX4 : String := "WellField$Water"
def TX4 : u_T := fun k => match k with
  | 0 => ("WellField$Water", "wells", "LWellField$Wells;", true)
  | 1 => ("WellField$Water", "tables", "LWellField$Tables;", true)
  | 2 => ("WellField$Water", "licences", "LWellField$Licences;", true)
  | 3 => ("WellField$Water", "readings", "LWellField$Readings;", true)
  | 4 => ("WellField$Water", "drawn", "[I", true)
  | 5 => ("WellField$Water", "rains", "[I", true)
  | _ => ("WellField$Water", "spare", "[I", true)
def tyX4 : Nat → FieldType := fun k => match k with
  | 0 => .object "WellField$Wells"
  | 1 => .object "WellField$Tables"
  | 2 => .object "WellField$Licences"
  | 3 => .object "WellField$Readings"
  | 4 => .array .int
  | 5 => .array .int
  | _ => .array .int
abbrev wsX40 : List Cond := u_ws RX4 TX4 7
theorem nmX4 : ∀ a, a < 7 → ∀ b, b < 7 → a ≠ b → (TX4 a).2.1 ≠ (TX4 b).2.1 := by decide +kernel
theorem tyX4_ok : ∀ k, k < 7 → parseFieldDescriptor (TX4 k).2.2.1 = some (tyX4 k) := by decide +kernel
abbrev cX4_init : ByteArray := prog_6_method_1_code
def yX4_init : MethodName := ⟨RX4, "<init>", "()V"⟩
abbrev cX4_drawOf : ByteArray := prog_6_method_2_code
def yX4_drawOf : MethodName := ⟨RX4, "drawOf", "(II)I"⟩
abbrev cX4_setDraw : ByteArray := prog_6_method_3_code
def yX4_setDraw : MethodName := ⟨RX4, "setDraw", "(III)V"⟩
abbrev cX4_sumOfDraws : ByteArray := prog_6_method_4_code
def yX4_sumOfDraws : MethodName := ⟨RX4, "sumOfDraws", "(I)I"⟩
abbrev cX4_counted : ByteArray := prog_6_method_5_code
def yX4_counted : MethodName := ⟨RX4, "counted", "(II)I"⟩
abbrev cX4_rowBetween : ByteArray := prog_6_method_6_code
def yX4_rowBetween : MethodName := ⟨RX4, "rowBetween", "(II)I"⟩
abbrev cX4_lowering : ByteArray := prog_6_method_7_code
def yX4_lowering : MethodName := ⟨RX4, "lowering", "(IIII)I"⟩
abbrev cX4_loweringOfOneMore : ByteArray := prog_6_method_8_code
def yX4_loweringOfOneMore : MethodName := ⟨RX4, "loweringOfOneMore", "(IIII)I"⟩
abbrev cX4_raisedByRain : ByteArray := prog_6_method_9_code
def yX4_raisedByRain : MethodName := ⟨RX4, "raisedByRain", "(I)I"⟩
abbrev cX4_headOf : ByteArray := prog_6_method_10_code
def yX4_headOf : MethodName := ⟨RX4, "headOf", "(II)I"⟩
abbrev cX4_aboveLimit : ByteArray := prog_6_method_11_code
def yX4_aboveLimit : MethodName := ⟨RX4, "aboveLimit", "(II)I"⟩
abbrev cX4_findSpare : ByteArray := prog_6_method_12_code
def yX4_findSpare : MethodName := ⟨RX4, "findSpare", "(I)V"⟩
abbrev cX4_useSpare : ByteArray := prog_6_method_13_code
def yX4_useSpare : MethodName := ⟨RX4, "useSpare", "(III)V"⟩
abbrev cX4_freeOf : ByteArray := prog_6_method_14_code
def yX4_freeOf : MethodName := ⟨RX4, "freeOf", "(II)I"⟩
abbrev cX4_unserve : ByteArray := prog_6_method_15_code
def yX4_unserve : MethodName := ⟨RX4, "unserve", "(I)V"⟩
abbrev cX4_grant : ByteArray := prog_6_method_16_code
def yX4_grant : MethodName := ⟨RX4, "grant", "(III)I"⟩
abbrev cX4_roomForDraws : ByteArray := prog_6_method_17_code
def yX4_roomForDraws : MethodName := ⟨RX4, "roomForDraws", "(II)I"⟩
abbrev cX4_leastToHold : ByteArray := prog_6_method_18_code
def yX4_leastToHold : MethodName := ⟨RX4, "leastToHold", "(III)I"⟩
abbrev cX4_mostToMove : ByteArray := prog_6_method_19_code
def yX4_mostToMove : MethodName := ⟨RX4, "mostToMove", "(III)I"⟩
abbrev cX4_difference : ByteArray := prog_6_method_20_code
def yX4_difference : MethodName := ⟨RX4, "difference", "(II)I"⟩
abbrev cX4_sumOfSquares : ByteArray := prog_6_method_21_code
def yX4_sumOfSquares : MethodName := ⟨RX4, "sumOfSquares", "()J"⟩
abbrev cX4_take : ByteArray := prog_6_method_22_code
def yX4_take : MethodName := ⟨RX4, "take", "(LWellField$Water;)V"⟩
def RX5 : String := "WellField$Wells"
def TX5 : u_T := fun k => match k with
  | 0 => ("WellField$Wells", "size", "I", false)
  | 1 => ("WellField$Wells", "kinds", "[I", true)
  | 2 => ("WellField$Wells", "xs", "[I", true)
  | 3 => ("WellField$Wells", "ys", "[I", true)
  | 4 => ("WellField$Wells", "rests", "[I", true)
  | _ => ("WellField$Wells", "limits", "[I", true)
def tyX5 : Nat → FieldType := fun k => match k with
  | 0 => .int
  | 1 => .array .int
  | 2 => .array .int
  | 3 => .array .int
  | 4 => .array .int
  | _ => .array .int
abbrev wsX50 : List Cond := u_ws RX5 TX5 6
theorem nmX5 : ∀ a, a < 6 → ∀ b, b < 6 → a ≠ b → (TX5 a).2.1 ≠ (TX5 b).2.1 := by decide +kernel
theorem tyX5_ok : ∀ k, k < 6 → parseFieldDescriptor (TX5 k).2.2.1 = some (tyX5 k) := by decide +kernel
abbrev cX5_init : ByteArray := prog_7_method_1_code
def yX5_init : MethodName := ⟨RX5, "<init>", "()V"⟩
abbrev cX5_add : ByteArray := prog_7_method_2_code
def yX5_add : MethodName := ⟨RX5, "add", "(IIII)I"⟩
abbrev cX5_isOneOf : ByteArray := prog_7_method_3_code
def yX5_isOneOf : MethodName := ⟨RX5, "isOneOf", "(II)Z"⟩
abbrev cX5_isDrawing : ByteArray := prog_7_method_4_code
def yX5_isDrawing : MethodName := ⟨RX5, "isDrawing", "(I)Z"⟩
abbrev cX5_isOwnMonth : ByteArray := prog_7_method_5_code
def yX5_isOwnMonth : MethodName := ⟨RX5, "isOwnMonth", "(II)Z"⟩
abbrev cX5_apart : ByteArray := prog_7_method_6_code
def yX5_apart : MethodName := ⟨RX5, "apart", "(II)I"⟩
abbrev cX5_layer : ByteArray := prog_7_method_7_code
def yX5_layer : MethodName := ⟨RX5, "layer", "(II)I"⟩
abbrev cX5_take : ByteArray := prog_7_method_8_code
def yX5_take : MethodName := ⟨RX5, "take", "(LWellField$Wells;)V"⟩
def RX6 : String := "WellField"
def TX6 : u_T := fun k => match k with
  | 0 => ("WellField", "now", "LWellField$Water;", true)
  | 1 => ("WellField", "kept", "LWellField$Water;", true)
  | 2 => ("WellField", "anyKept", "Z", false)
  | 3 => ("WellField", "sheets", "[LWellField$Sheet;", true)
  | _ => ("WellField", "findings", "I", false)
def tyX6 : Nat → FieldType := fun k => match k with
  | 0 => .object "WellField$Water"
  | 1 => .object "WellField$Water"
  | 2 => .boolean
  | 3 => .array (.object "WellField$Sheet")
  | _ => .int
abbrev wsX60 : List Cond := u_ws RX6 TX6 5
theorem nmX6 : ∀ a, a < 5 → ∀ b, b < 5 → a ≠ b → (TX6 a).2.1 ≠ (TX6 b).2.1 := by decide +kernel
theorem tyX6_ok : ∀ k, k < 5 → parseFieldDescriptor (TX6 k).2.2.1 = some (tyX6 k) := by decide +kernel
abbrev cX6_init : ByteArray := prog_1_method_1_code
def yX6_init : MethodName := ⟨RX6, "<init>", "()V"⟩
abbrev cX6_well : ByteArray := prog_1_method_2_code
def yX6_well : MethodName := ⟨RX6, "well", "(IIII)I"⟩
abbrev cX6_limit : ByteArray := prog_1_method_3_code
def yX6_limit : MethodName := ⟨RX6, "limit", "(II)I"⟩
abbrev cX6_as : ByteArray := prog_1_method_4_code
def yX6_as : MethodName := ⟨RX6, "as", "(II)I"⟩
abbrev cX6_of : ByteArray := prog_1_method_5_code
def yX6_of : MethodName := ⟨RX6, "of", "(II)I"⟩
abbrev cX6_distance : ByteArray := prog_1_method_6_code
def yX6_distance : MethodName := ⟨RX6, "distance", "(II)I"⟩
abbrev cX6_table : ByteArray := prog_1_method_7_code
def yX6_table : MethodName := ⟨RX6, "table", "(IIII)I"⟩
abbrev cX6_rainTable : ByteArray := prog_1_method_8_code
def yX6_rainTable : MethodName := ⟨RX6, "rainTable", "(II)I"⟩
abbrev cX6_sheet : ByteArray := prog_1_method_9_code
def yX6_sheet : MethodName := ⟨RX6, "sheet", "(III)I"⟩
abbrev cX6_put : ByteArray := prog_1_method_10_code
def yX6_put : MethodName := ⟨RX6, "put", "(III)I"⟩
abbrev cX6_copy : ByteArray := prog_1_method_11_code
def yX6_copy : MethodName := ⟨RX6, "copy", "(IIIII)I"⟩
abbrev cX6_draws : ByteArray := prog_1_method_12_code
def yX6_draws : MethodName := ⟨RX6, "draws", "(III)I"⟩
abbrev cX6_draw : ByteArray := prog_1_method_13_code
def yX6_draw : MethodName := ⟨RX6, "draw", "(III)I"⟩
abbrev cX6_counts : ByteArray := prog_1_method_14_code
def yX6_counts : MethodName := ⟨RX6, "counts", "(II)I"⟩
abbrev cX6_rain : ByteArray := prog_1_method_15_code
def yX6_rain : MethodName := ⟨RX6, "rain", "(II)I"⟩
abbrev cX6_dry : ByteArray := prog_1_method_16_code
def yX6_dry : MethodName := ⟨RX6, "dry", "()I"⟩
abbrev cX6_head : ByteArray := prog_1_method_17_code
def yX6_head : MethodName := ⟨RX6, "head", "(II)I"⟩
abbrev cX6_by : ByteArray := prog_1_method_18_code
def yX6_by : MethodName := ⟨RX6, "by", "(III)I"⟩
abbrev cX6_rained : ByteArray := prog_1_method_19_code
def yX6_rained : MethodName := ⟨RX6, "rained", "(II)I"⟩
abbrev cX6_most : ByteArray := prog_1_method_20_code
def yX6_most : MethodName := ⟨RX6, "most", "(II)I"⟩
abbrev cX6_when : ByteArray := prog_1_method_21_code
def yX6_when : MethodName := ⟨RX6, "when", "(II)I"⟩
abbrev cX6_near : ByteArray := prog_1_method_22_code
def yX6_near : MethodName := ⟨RX6, "near", "(II)I"⟩
abbrev cX6_low : ByteArray := prog_1_method_23_code
def yX6_low : MethodName := ⟨RX6, "low", "(I)I"⟩
abbrev cX6_without : ByteArray := prog_1_method_24_code
def yX6_without : MethodName := ⟨RX6, "without", "(IIII)I"⟩
abbrev cX6_free : ByteArray := prog_1_method_25_code
def yX6_free : MethodName := ⟨RX6, "free", "(II)I"⟩
abbrev cX6_licence : ByteArray := prog_1_method_26_code
def yX6_licence : MethodName := ⟨RX6, "licence", "(III)I"⟩
abbrev cX6_serve : ByteArray := prog_1_method_27_code
def yX6_serve : MethodName := ⟨RX6, "serve", "(I)I"⟩
abbrev cX6_served : ByteArray := prog_1_method_28_code
def yX6_served : MethodName := ⟨RX6, "served", "(IZ)I"⟩
abbrev cX6_hold : ByteArray := prog_1_method_29_code
def yX6_hold : MethodName := ⟨RX6, "hold", "(III)I"⟩
abbrev cX6_move : ByteArray := prog_1_method_30_code
def yX6_move : MethodName := ⟨RX6, "move", "(III)I"⟩
abbrev cX6_read : ByteArray := prog_1_method_31_code
def yX6_read : MethodName := ⟨RX6, "read", "(III)I"⟩
abbrev cX6_differ : ByteArray := prog_1_method_32_code
def yX6_differ : MethodName := ⟨RX6, "differ", "(II)I"⟩
abbrev cX6_fit : ByteArray := prog_1_method_33_code
def yX6_fit : MethodName := ⟨RX6, "fit", "(II)I"⟩
abbrev cX6_squares : ByteArray := prog_1_method_34_code
def yX6_squares : MethodName := ⟨RX6, "squares", "()J"⟩
abbrev cX6_keep : ByteArray := prog_1_method_35_code
def yX6_keep : MethodName := ⟨RX6, "keep", "()I"⟩
abbrev cX6_back : ByteArray := prog_1_method_36_code
def yX6_back : MethodName := ⟨RX6, "back", "()I"⟩
abbrev cX6_told : ByteArray := prog_1_method_37_code
def yX6_told : MethodName := ⟨RX6, "told", "(I)I"⟩
abbrev cX6_finding : ByteArray := prog_1_method_38_code
def yX6_finding : MethodName := ⟨RX6, "finding", "(I)I"⟩
abbrev cX6_isWell : ByteArray := prog_1_method_39_code
def yX6_isWell : MethodName := ⟨RX6, "isWell", "(I)Z"⟩
abbrev cX6_isMonth : ByteArray := prog_1_method_40_code
def yX6_isMonth : MethodName := ⟨RX6, "isMonth", "(I)Z"⟩
abbrev cX6_isKind : ByteArray := prog_1_method_41_code
def yX6_isKind : MethodName := ⟨RX6, "isKind", "(I)Z"⟩
abbrev cX6_isPlace : ByteArray := prog_1_method_42_code
def yX6_isPlace : MethodName := ⟨RX6, "isPlace", "(I)Z"⟩
abbrev cX6_isHeadBound : ByteArray := prog_1_method_43_code
def yX6_isHeadBound : MethodName := ⟨RX6, "isHeadBound", "(I)Z"⟩
abbrev cX6_isAmount : ByteArray := prog_1_method_44_code
def yX6_isAmount : MethodName := ⟨RX6, "isAmount", "(I)Z"⟩
abbrev cX6_isLayer : ByteArray := prog_1_method_45_code
def yX6_isLayer : MethodName := ⟨RX6, "isLayer", "(I)Z"⟩
abbrev cX6_isAge : ByteArray := prog_1_method_46_code
def yX6_isAge : MethodName := ⟨RX6, "isAge", "(I)Z"⟩
abbrev cX6_isSheet : ByteArray := prog_1_method_47_code
def yX6_isSheet : MethodName := ⟨RX6, "isSheet", "(I)Z"⟩
abbrev cX6_within : ByteArray := prog_1_method_48_code
def yX6_within : MethodName := ⟨RX6, "within", "(III)Z"⟩
abbrev cX6_clear : ByteArray := prog_1_method_49_code
def yX6_clear : MethodName := ⟨RX6, "clear", "([I)I"⟩
abbrev cX6_copyRow : ByteArray := prog_1_method_50_code
def yX6_copyRow : MethodName := ⟨RX6, "copyRow", "([I[I)V"⟩
def RX7 : String := "WellFieldModel"
def TX7 : u_T := fun k => match k with
  | 0 => ("WellFieldModel", "now", "[I", true)
  | 1 => ("WellFieldModel", "kept", "[I", true)
  | 2 => ("WellFieldModel", "hasKept", "Z", false)
  | 3 => ("WellFieldModel", "sheetKind", "[I", true)
  | 4 => ("WellFieldModel", "sheetSize", "[I", true)
  | 5 => ("WellFieldModel", "sheets", "[I", true)
  | 6 => ("WellFieldModel", "findings", "I", false)
  | 7 => ("WellFieldModel", "carried", "[I", true)
  | 8 => ("WellFieldModel", "margin", "[I", true)
  | 9 => ("WellFieldModel", "takes", "[I", true)
  | 10 => ("WellFieldModel", "given", "[I", true)
  | _ => ("WellFieldModel", "old", "[I", true)
def tyX7 : Nat → FieldType := fun k => match k with
  | 0 => .array .int
  | 1 => .array .int
  | 2 => .boolean
  | 3 => .array .int
  | 4 => .array .int
  | 5 => .array .int
  | 6 => .int
  | 7 => .array .int
  | 8 => .array .int
  | 9 => .array .int
  | 10 => .array .int
  | _ => .array .int
abbrev wsX70 : List Cond := u_ws RX7 TX7 12
theorem nmX7 : ∀ a, a < 12 → ∀ b, b < 12 → a ≠ b → (TX7 a).2.1 ≠ (TX7 b).2.1 := by decide +kernel
theorem tyX7_ok : ∀ k, k < 12 → parseFieldDescriptor (TX7 k).2.2.1 = some (tyX7 k) := by decide +kernel
abbrev cX7_init : ByteArray := prog_9_method_1_code
def yX7_init : MethodName := ⟨RX7, "<init>", "()V"⟩
abbrev cX7_in : ByteArray := prog_9_method_3_code
def yX7_in : MethodName := ⟨RX7, "in", "(III)Z"⟩
abbrev cX7_found : ByteArray := prog_9_method_4_code
def yX7_found : MethodName := ⟨RX7, "found", "(I)I"⟩
abbrev cX7_wells : ByteArray := prog_9_method_5_code
def yX7_wells : MethodName := ⟨RX7, "wells", "()I"⟩
abbrev cX7_isWell : ByteArray := prog_9_method_6_code
def yX7_isWell : MethodName := ⟨RX7, "isWell", "(I)Z"⟩
abbrev cX7_isMonth : ByteArray := prog_9_method_7_code
def yX7_isMonth : MethodName := ⟨RX7, "isMonth", "(I)Z"⟩
abbrev cX7_isHead : ByteArray := prog_9_method_8_code
def yX7_isHead : MethodName := ⟨RX7, "isHead", "(I)Z"⟩
abbrev cX7_told0 : ByteArray := prog_9_method_9_code
def yX7_told0 : MethodName := ⟨RX7, "told0", "(II)I"⟩
abbrev cX7_kindOf : ByteArray := prog_9_method_10_code
def yX7_kindOf : MethodName := ⟨RX7, "kindOf", "(I)I"⟩
abbrev cX7_well : ByteArray := prog_9_method_11_code
def yX7_well : MethodName := ⟨RX7, "well", "(IIII)I"⟩
abbrev cX7_limit : ByteArray := prog_9_method_12_code
def yX7_limit : MethodName := ⟨RX7, "limit", "(II)I"⟩
abbrev cX7_as : ByteArray := prog_9_method_13_code
def yX7_as : MethodName := ⟨RX7, "as", "(II)I"⟩
abbrev cX7_drawOf : ByteArray := prog_9_method_14_code
def yX7_drawOf : MethodName := ⟨RX7, "drawOf", "(II)I"⟩
abbrev cX7_of : ByteArray := prog_9_method_15_code
def yX7_of : MethodName := ⟨RX7, "of", "(II)I"⟩
abbrev cX7_apart : ByteArray := prog_9_method_16_code
def yX7_apart : MethodName := ⟨RX7, "apart", "(II)I"⟩
abbrev cX7_distance : ByteArray := prog_9_method_17_code
def yX7_distance : MethodName := ⟨RX7, "distance", "(II)I"⟩
abbrev cX7_cell : ByteArray := prog_9_method_18_code
def yX7_cell : MethodName := ⟨RX7, "cell", "(III)I"⟩
abbrev cX7_table : ByteArray := prog_9_method_19_code
def yX7_table : MethodName := ⟨RX7, "table", "(IIII)I"⟩
abbrev cX7_rainTable : ByteArray := prog_9_method_20_code
def yX7_rainTable : MethodName := ⟨RX7, "rainTable", "(II)I"⟩
abbrev cX7_isSheet : ByteArray := prog_9_method_21_code
def yX7_isSheet : MethodName := ⟨RX7, "isSheet", "(I)Z"⟩
abbrev cX7_sheet : ByteArray := prog_9_method_22_code
def yX7_sheet : MethodName := ⟨RX7, "sheet", "(III)I"⟩
abbrev cX7_isNone : ByteArray := prog_9_method_23_code
def yX7_isNone : MethodName := ⟨RX7, "isNone", "(I)Z"⟩
abbrev cX7_put : ByteArray := prog_9_method_24_code
def yX7_put : MethodName := ⟨RX7, "put", "(III)I"⟩
abbrev cX7_copy : ByteArray := prog_9_method_25_code
def yX7_copy : MethodName := ⟨RX7, "copy", "(IIIII)I"⟩
abbrev cX7_cut : ByteArray := prog_9_method_26_code
def yX7_cut : MethodName := ⟨RX7, "cut", "(I)I"⟩
abbrev cX7_draws : ByteArray := prog_9_method_27_code
def yX7_draws : MethodName := ⟨RX7, "draws", "(III)I"⟩
abbrev cX7_draw : ByteArray := prog_9_method_28_code
def yX7_draw : MethodName := ⟨RX7, "draw", "(III)I"⟩
abbrev cX7_sign : ByteArray := prog_9_method_29_code
def yX7_sign : MethodName := ⟨RX7, "sign", "(II)I"⟩
abbrev cX7_counts : ByteArray := prog_9_method_30_code
def yX7_counts : MethodName := ⟨RX7, "counts", "(II)I"⟩
abbrev cX7_rain : ByteArray := prog_9_method_31_code
def yX7_rain : MethodName := ⟨RX7, "rain", "(II)I"⟩
abbrev cX7_dry : ByteArray := prog_9_method_32_code
def yX7_dry : MethodName := ⟨RX7, "dry", "()I"⟩
abbrev cX7_share : ByteArray := prog_9_method_33_code
def yX7_share : MethodName := ⟨RX7, "share", "(III)I"⟩
abbrev cX7_lowering : ByteArray := prog_9_method_34_code
def yX7_lowering : MethodName := ⟨RX7, "lowering", "(IIII)I"⟩
abbrev cX7_rainOf : ByteArray := prog_9_method_35_code
def yX7_rainOf : MethodName := ⟨RX7, "rainOf", "(I)I"⟩
abbrev cX7_headOf : ByteArray := prog_9_method_36_code
def yX7_headOf : MethodName := ⟨RX7, "headOf", "(II)I"⟩
abbrev cX7_head : ByteArray := prog_9_method_37_code
def yX7_head : MethodName := ⟨RX7, "head", "(II)I"⟩
abbrev cX7_by : ByteArray := prog_9_method_38_code
def yX7_by : MethodName := ⟨RX7, "by", "(III)I"⟩
abbrev cX7_rained : ByteArray := prog_9_method_39_code
def yX7_rained : MethodName := ⟨RX7, "rained", "(II)I"⟩
abbrev cX7_most : ByteArray := prog_9_method_40_code
def yX7_most : MethodName := ⟨RX7, "most", "(II)I"⟩
abbrev cX7_above : ByteArray := prog_9_method_41_code
def yX7_above : MethodName := ⟨RX7, "above", "(II)I"⟩
abbrev cX7_when : ByteArray := prog_9_method_42_code
def yX7_when : MethodName := ⟨RX7, "when", "(II)I"⟩
abbrev cX7_near : ByteArray := prog_9_method_43_code
def yX7_near : MethodName := ⟨RX7, "near", "(II)I"⟩
abbrev cX7_low : ByteArray := prog_9_method_44_code
def yX7_low : MethodName := ⟨RX7, "low", "(I)I"⟩
abbrev cX7_without : ByteArray := prog_9_method_45_code
def yX7_without : MethodName := ⟨RX7, "without", "(IIII)I"⟩
abbrev cX7_freeOf : ByteArray := prog_9_method_46_code
def yX7_freeOf : MethodName := ⟨RX7, "freeOf", "(II)I"⟩
abbrev cX7_isFree : ByteArray := prog_9_method_47_code
def yX7_isFree : MethodName := ⟨RX7, "isFree", "(II)Z"⟩
abbrev cX7_free : ByteArray := prog_9_method_48_code
def yX7_free : MethodName := ⟨RX7, "free", "(II)I"⟩
abbrev cX7_licenceOf : ByteArray := prog_9_method_49_code
def yX7_licenceOf : MethodName := ⟨RX7, "licenceOf", "(II)I"⟩
abbrev cX7_licence : ByteArray := prog_9_method_50_code
def yX7_licence : MethodName := ⟨RX7, "licence", "(III)I"⟩
abbrev cX7_serve : ByteArray := prog_9_method_51_code
def yX7_serve : MethodName := ⟨RX7, "serve", "(I)I"⟩
abbrev cX7_served : ByteArray := prog_9_method_52_code
def yX7_served : MethodName := ⟨RX7, "served", "(IZ)I"⟩
abbrev cX7_hold : ByteArray := prog_9_method_53_code
def yX7_hold : MethodName := ⟨RX7, "hold", "(III)I"⟩
abbrev cX7_move : ByteArray := prog_9_method_54_code
def yX7_move : MethodName := ⟨RX7, "move", "(III)I"⟩
abbrev cX7_mayMove : ByteArray := prog_9_method_55_code
def yX7_mayMove : MethodName := ⟨RX7, "mayMove", "(IIIII)Z"⟩
abbrev cX7_reading : ByteArray := prog_9_method_56_code
def yX7_reading : MethodName := ⟨RX7, "reading", "(II)I"⟩
abbrev cX7_read : ByteArray := prog_9_method_57_code
def yX7_read : MethodName := ⟨RX7, "read", "(III)I"⟩
abbrev cX7_differ : ByteArray := prog_9_method_58_code
def yX7_differ : MethodName := ⟨RX7, "differ", "(II)I"⟩
abbrev cX7_squaresNow : ByteArray := prog_9_method_59_code
def yX7_squaresNow : MethodName := ⟨RX7, "squaresNow", "()J"⟩
abbrev cX7_times : ByteArray := prog_9_method_60_code
def yX7_times : MethodName := ⟨RX7, "times", "(III)V"⟩
abbrev cX7_fit : ByteArray := prog_9_method_61_code
def yX7_fit : MethodName := ⟨RX7, "fit", "(II)I"⟩
abbrev cX7_squares : ByteArray := prog_9_method_62_code
def yX7_squares : MethodName := ⟨RX7, "squares", "()J"⟩
abbrev cX7_keep : ByteArray := prog_9_method_63_code
def yX7_keep : MethodName := ⟨RX7, "keep", "()I"⟩
abbrev cX7_back : ByteArray := prog_9_method_64_code
def yX7_back : MethodName := ⟨RX7, "back", "()I"⟩
abbrev cX7_told : ByteArray := prog_9_method_65_code
def yX7_told : MethodName := ⟨RX7, "told", "(I)I"⟩
def RJ9 : String := "java/lang/Math"
def TJ9 : u_T := fun k => match k with
  | _ => ("", "", "", false)
def tyJ9 : Nat → FieldType := fun k => match k with
  | _ => .int
abbrev wsJ90 : List Cond := u_ws RJ9 TJ9 0
theorem nmJ9 : ∀ a, a < 0 → ∀ b, b < 0 → a ≠ b → (TJ9 a).2.1 ≠ (TJ9 b).2.1 := by decide +kernel
theorem tyJ9_ok : ∀ k, k < 0 → parseFieldDescriptor (TJ9 k).2.2.1 = some (tyJ9 k) := by decide +kernel
abbrev cJ9_abs_0f7a4 : ByteArray := prog_10_method_59_code
def yJ9_abs_0f7a4 : MethodName := ⟨RJ9, "abs", "(I)I"⟩
abbrev cJ9_max_7cf53 : ByteArray := prog_10_method_65_code
def yJ9_max_7cf53 : MethodName := ⟨RJ9, "max", "(II)I"⟩
abbrev cJ9_min_7cf53 : ByteArray := prog_10_method_69_code
def yJ9_min_7cf53 : MethodName := ⟨RJ9, "min", "(II)I"⟩
def RJ10 : String := "java/lang/System"
def TJ10 : u_T := fun k => match k with
  | _ => ("", "", "", false)
def tyJ10 : Nat → FieldType := fun k => match k with
  | _ => .int
abbrev wsJ100 : List Cond := u_ws RJ10 TJ10 0
theorem nmJ10 : ∀ a, a < 0 → ∀ b, b < 0 → a ≠ b → (TJ10 a).2.1 ≠ (TJ10 b).2.1 := by decide +kernel
theorem tyJ10_ok : ∀ k, k < 0 → parseFieldDescriptor (TJ10 k).2.2.1 = some (tyJ10 k) := by decide +kernel
def RL : String := "WellFieldLaw"
abbrev cL_law : ByteArray := code
def yL_law : MethodName := ⟨RL, "law", "([I)Z"⟩
theorem inJ9 : ∀ w ∈ wsJ90, w ∈ lw_tbl := by decide +kernel
theorem inJ10 : ∀ w ∈ wsJ100, w ∈ lw_tbl := by decide +kernel
abbrev vwCl : List vw_C := [(RX0, TX0, 5), (RX1, TX1, 3), (RX2, TX2, 3), (RX3, TX3, 3), (RX4, TX4, 7), (RX5, TX5, 6), (RX6, TX6, 5), (RX7, TX7, 12)]
end
section
theorem dX0_init_0 : decode cX0_init 0 = .ok (.aload_n 0, 1) := by decide +kernel
theorem dX0_init_1 : decode cX0_init 1 = .ok (.invokespecial 3, 3) := by decide +kernel
theorem dX0_init_4 : decode cX0_init 4 = .ok (.aload_n 0, 1) := by decide +kernel
theorem dX0_init_5 : decode cX0_init 5 = .ok (.iconst 0, 1) := by decide +kernel
theorem dX0_init_6 : decode cX0_init 6 = .ok (.putfield 9, 3) := by decide +kernel
theorem dX0_init_9 : decode cX0_init 9 = .ok (.aload_n 0, 1) := by decide +kernel
theorem dX0_init_10 : decode cX0_init 10 = .ok (.bipush 10, 2) := by decide +kernel
theorem dX0_init_12 : decode cX0_init 12 = .ok (.newarray .int, 2) := by decide +kernel
theorem dX0_init_14 : decode cX0_init 14 = .ok (.putfield 15, 3) := by decide +kernel
theorem dX0_init_17 : decode cX0_init 17 = .ok (.aload_n 0, 1) := by decide +kernel
theorem dX0_init_18 : decode cX0_init 18 = .ok (.bipush 10, 2) := by decide +kernel
theorem dX0_init_20 : decode cX0_init 20 = .ok (.newarray .int, 2) := by decide +kernel
theorem dX0_init_22 : decode cX0_init 22 = .ok (.putfield 19, 3) := by decide +kernel
theorem dX0_init_25 : decode cX0_init 25 = .ok (.aload_n 0, 1) := by decide +kernel
theorem dX0_init_26 : decode cX0_init 26 = .ok (.bipush 10, 2) := by decide +kernel
theorem dX0_init_28 : decode cX0_init 28 = .ok (.newarray .int, 2) := by decide +kernel
theorem dX0_init_30 : decode cX0_init 30 = .ok (.putfield 22, 3) := by decide +kernel
theorem dX0_init_33 : decode cX0_init 33 = .ok (.aload_n 0, 1) := by decide +kernel
theorem dX0_init_34 : decode cX0_init 34 = .ok (.bipush 10, 2) := by decide +kernel
theorem dX0_init_36 : decode cX0_init 36 = .ok (.newarray .int, 2) := by decide +kernel
theorem dX0_init_38 : decode cX0_init 38 = .ok (.putfield 25, 3) := by decide +kernel
theorem dX0_init_41 : decode cX0_init 41 = .ok (.return_, 1) := by decide +kernel
theorem dX0_add_0 : decode cX0_add 0 = .ok (.aload_n 0, 1) := by decide +kernel
theorem dX0_add_1 : decode cX0_add 1 = .ok (.getfield 9, 3) := by decide +kernel
theorem dX0_add_4 : decode cX0_add 4 = .ok (.istore 4, 2) := by decide +kernel
theorem dX0_add_6 : decode cX0_add 6 = .ok (.aload_n 0, 1) := by decide +kernel
theorem dX0_add_7 : decode cX0_add 7 = .ok (.getfield 15, 3) := by decide +kernel
theorem dX0_add_10 : decode cX0_add 10 = .ok (.iload 4, 2) := by decide +kernel
theorem dX0_add_12 : decode cX0_add 12 = .ok (.iload_n 1, 1) := by decide +kernel
theorem dX0_add_13 : decode cX0_add 13 = .ok (.iastore, 1) := by decide +kernel
theorem dX0_add_14 : decode cX0_add 14 = .ok (.aload_n 0, 1) := by decide +kernel
theorem dX0_add_15 : decode cX0_add 15 = .ok (.getfield 19, 3) := by decide +kernel
theorem dX0_add_18 : decode cX0_add 18 = .ok (.iload 4, 2) := by decide +kernel
theorem dX0_add_20 : decode cX0_add 20 = .ok (.iload_n 2, 1) := by decide +kernel
theorem dX0_add_21 : decode cX0_add 21 = .ok (.iastore, 1) := by decide +kernel
theorem dX0_add_22 : decode cX0_add 22 = .ok (.aload_n 0, 1) := by decide +kernel
theorem dX0_add_23 : decode cX0_add 23 = .ok (.getfield 22, 3) := by decide +kernel
theorem dX0_add_26 : decode cX0_add 26 = .ok (.iload 4, 2) := by decide +kernel
theorem dX0_add_28 : decode cX0_add 28 = .ok (.iload_n 3, 1) := by decide +kernel
theorem dX0_add_29 : decode cX0_add 29 = .ok (.iastore, 1) := by decide +kernel
theorem dX0_add_30 : decode cX0_add 30 = .ok (.aload_n 0, 1) := by decide +kernel
theorem dX0_add_31 : decode cX0_add 31 = .ok (.getfield 25, 3) := by decide +kernel
theorem dX0_add_34 : decode cX0_add 34 = .ok (.iload 4, 2) := by decide +kernel
theorem dX0_add_36 : decode cX0_add 36 = .ok (.iconst (-1), 1) := by decide +kernel
theorem dX0_add_37 : decode cX0_add 37 = .ok (.iastore, 1) := by decide +kernel
theorem dX0_add_38 : decode cX0_add 38 = .ok (.aload_n 0, 1) := by decide +kernel
theorem dX0_add_39 : decode cX0_add 39 = .ok (.dup, 1) := by decide +kernel
theorem dX0_add_40 : decode cX0_add 40 = .ok (.getfield 9, 3) := by decide +kernel
theorem dX0_add_43 : decode cX0_add 43 = .ok (.iconst 1, 1) := by decide +kernel
theorem dX0_add_44 : decode cX0_add 44 = .ok (.iadd, 1) := by decide +kernel
theorem dX0_add_45 : decode cX0_add 45 = .ok (.putfield 9, 3) := by decide +kernel
theorem dX0_add_48 : decode cX0_add 48 = .ok (.iload 4, 2) := by decide +kernel
theorem dX0_add_50 : decode cX0_add 50 = .ok (.ireturn, 1) := by decide +kernel
theorem dX0_nextUnserved_0 : decode cX0_nextUnserved 0 = .ok (.iconst (-1), 1) := by decide +kernel
theorem dX0_nextUnserved_1 : decode cX0_nextUnserved 1 = .ok (.istore_n 1, 1) := by decide +kernel
theorem dX0_nextUnserved_2 : decode cX0_nextUnserved 2 = .ok (.iconst 0, 1) := by decide +kernel
theorem dX0_nextUnserved_3 : decode cX0_nextUnserved 3 = .ok (.istore_n 2, 1) := by decide +kernel
theorem dX0_nextUnserved_4 : decode cX0_nextUnserved 4 = .ok (.iload_n 2, 1) := by decide +kernel
theorem dX0_nextUnserved_5 : decode cX0_nextUnserved 5 = .ok (.aload_n 0, 1) := by decide +kernel
theorem dX0_nextUnserved_6 : decode cX0_nextUnserved 6 = .ok (.getfield 9, 3) := by decide +kernel
theorem dX0_nextUnserved_9 : decode cX0_nextUnserved 9 = .ok (.if_icmp .ge 40, 3) := by decide +kernel
theorem dX0_nextUnserved_12 : decode cX0_nextUnserved 12 = .ok (.aload_n 0, 1) := by decide +kernel
theorem dX0_nextUnserved_13 : decode cX0_nextUnserved 13 = .ok (.getfield 25, 3) := by decide +kernel
theorem dX0_nextUnserved_16 : decode cX0_nextUnserved 16 = .ok (.iload_n 2, 1) := by decide +kernel
theorem dX0_nextUnserved_17 : decode cX0_nextUnserved 17 = .ok (.iaload, 1) := by decide +kernel
theorem dX0_nextUnserved_18 : decode cX0_nextUnserved 18 = .ok (.iconst (-1), 1) := by decide +kernel
theorem dX0_nextUnserved_19 : decode cX0_nextUnserved 19 = .ok (.if_icmp .ne 24, 3) := by decide +kernel
theorem dX0_nextUnserved_22 : decode cX0_nextUnserved 22 = .ok (.iload_n 1, 1) := by decide +kernel
theorem dX0_nextUnserved_23 : decode cX0_nextUnserved 23 = .ok (.ifCond .lt 18, 3) := by decide +kernel
theorem dX0_nextUnserved_26 : decode cX0_nextUnserved 26 = .ok (.aload_n 0, 1) := by decide +kernel
theorem dX0_nextUnserved_27 : decode cX0_nextUnserved 27 = .ok (.getfield 19, 3) := by decide +kernel
theorem dX0_nextUnserved_30 : decode cX0_nextUnserved 30 = .ok (.iload_n 2, 1) := by decide +kernel
theorem dX0_nextUnserved_31 : decode cX0_nextUnserved 31 = .ok (.iaload, 1) := by decide +kernel
theorem dX0_nextUnserved_32 : decode cX0_nextUnserved 32 = .ok (.aload_n 0, 1) := by decide +kernel
theorem dX0_nextUnserved_33 : decode cX0_nextUnserved 33 = .ok (.getfield 19, 3) := by decide +kernel
theorem dX0_nextUnserved_36 : decode cX0_nextUnserved 36 = .ok (.iload_n 1, 1) := by decide +kernel
theorem dX0_nextUnserved_37 : decode cX0_nextUnserved 37 = .ok (.iaload, 1) := by decide +kernel
theorem dX0_nextUnserved_38 : decode cX0_nextUnserved 38 = .ok (.if_icmp .ge 5, 3) := by decide +kernel
theorem dX0_nextUnserved_41 : decode cX0_nextUnserved 41 = .ok (.iload_n 2, 1) := by decide +kernel
theorem dX0_nextUnserved_42 : decode cX0_nextUnserved 42 = .ok (.istore_n 1, 1) := by decide +kernel
theorem dX0_nextUnserved_43 : decode cX0_nextUnserved 43 = .ok (.iinc 2 1, 3) := by decide +kernel
theorem dX0_nextUnserved_46 : decode cX0_nextUnserved 46 = .ok (.goto (-42), 3) := by decide +kernel
theorem dX0_nextUnserved_49 : decode cX0_nextUnserved 49 = .ok (.iload_n 1, 1) := by decide +kernel
theorem dX0_nextUnserved_50 : decode cX0_nextUnserved 50 = .ok (.ireturn, 1) := by decide +kernel
theorem dX0_take_0 : decode cX0_take 0 = .ok (.aload_n 0, 1) := by decide +kernel
theorem dX0_take_1 : decode cX0_take 1 = .ok (.aload_n 1, 1) := by decide +kernel
theorem dX0_take_2 : decode cX0_take 2 = .ok (.getfield 9, 3) := by decide +kernel
theorem dX0_take_5 : decode cX0_take 5 = .ok (.putfield 9, 3) := by decide +kernel
theorem dX0_take_8 : decode cX0_take 8 = .ok (.aload_n 1, 1) := by decide +kernel
theorem dX0_take_9 : decode cX0_take 9 = .ok (.getfield 15, 3) := by decide +kernel
theorem dX0_take_12 : decode cX0_take 12 = .ok (.aload_n 0, 1) := by decide +kernel
theorem dX0_take_13 : decode cX0_take 13 = .ok (.getfield 15, 3) := by decide +kernel
theorem dX0_take_16 : decode cX0_take 16 = .ok (.invokestatic 28, 3) := by decide +kernel
theorem dX0_take_19 : decode cX0_take 19 = .ok (.aload_n 1, 1) := by decide +kernel
theorem dX0_take_20 : decode cX0_take 20 = .ok (.getfield 19, 3) := by decide +kernel
theorem dX0_take_23 : decode cX0_take 23 = .ok (.aload_n 0, 1) := by decide +kernel
theorem dX0_take_24 : decode cX0_take 24 = .ok (.getfield 19, 3) := by decide +kernel
theorem dX0_take_27 : decode cX0_take 27 = .ok (.invokestatic 28, 3) := by decide +kernel
theorem dX0_take_30 : decode cX0_take 30 = .ok (.aload_n 1, 1) := by decide +kernel
theorem dX0_take_31 : decode cX0_take 31 = .ok (.getfield 22, 3) := by decide +kernel
theorem dX0_take_34 : decode cX0_take 34 = .ok (.aload_n 0, 1) := by decide +kernel
theorem dX0_take_35 : decode cX0_take 35 = .ok (.getfield 22, 3) := by decide +kernel
theorem dX0_take_38 : decode cX0_take 38 = .ok (.invokestatic 28, 3) := by decide +kernel
theorem dX0_take_41 : decode cX0_take 41 = .ok (.aload_n 1, 1) := by decide +kernel
theorem dX0_take_42 : decode cX0_take 42 = .ok (.getfield 25, 3) := by decide +kernel
theorem dX0_take_45 : decode cX0_take 45 = .ok (.aload_n 0, 1) := by decide +kernel
theorem dX0_take_46 : decode cX0_take 46 = .ok (.getfield 25, 3) := by decide +kernel
theorem dX0_take_49 : decode cX0_take 49 = .ok (.invokestatic 28, 3) := by decide +kernel
theorem dX0_take_52 : decode cX0_take 52 = .ok (.return_, 1) := by decide +kernel
theorem dX1_init_0 : decode cX1_init 0 = .ok (.aload_n 0, 1) := by decide +kernel
theorem dX1_init_1 : decode cX1_init 1 = .ok (.invokespecial 3, 3) := by decide +kernel
theorem dX1_init_4 : decode cX1_init 4 = .ok (.aload_n 0, 1) := by decide +kernel
theorem dX1_init_5 : decode cX1_init 5 = .ok (.iconst 0, 1) := by decide +kernel
theorem dX1_init_6 : decode cX1_init 6 = .ok (.putfield 9, 3) := by decide +kernel
theorem dX1_init_9 : decode cX1_init 9 = .ok (.aload_n 0, 1) := by decide +kernel
theorem dX1_init_10 : decode cX1_init 10 = .ok (.sipush 240, 3) := by decide +kernel
theorem dX1_init_13 : decode cX1_init 13 = .ok (.newarray .int, 2) := by decide +kernel
theorem dX1_init_15 : decode cX1_init 15 = .ok (.putfield 15, 3) := by decide +kernel
theorem dX1_init_18 : decode cX1_init 18 = .ok (.aload_n 0, 1) := by decide +kernel
theorem dX1_init_19 : decode cX1_init 19 = .ok (.sipush 240, 3) := by decide +kernel
theorem dX1_init_22 : decode cX1_init 22 = .ok (.newarray .int, 2) := by decide +kernel
theorem dX1_init_24 : decode cX1_init 24 = .ok (.putfield 19, 3) := by decide +kernel
theorem dX1_init_27 : decode cX1_init 27 = .ok (.return_, 1) := by decide +kernel
theorem dX1_has_0 : decode cX1_has 0 = .ok (.aload_n 0, 1) := by decide +kernel
theorem dX1_has_1 : decode cX1_has 1 = .ok (.getfield 15, 3) := by decide +kernel
theorem dX1_has_4 : decode cX1_has 4 = .ok (.iload_n 1, 1) := by decide +kernel
theorem dX1_has_5 : decode cX1_has 5 = .ok (.bipush 24, 2) := by decide +kernel
theorem dX1_has_7 : decode cX1_has 7 = .ok (.imul, 1) := by decide +kernel
theorem dX1_has_8 : decode cX1_has 8 = .ok (.iload_n 2, 1) := by decide +kernel
theorem dX1_has_9 : decode cX1_has 9 = .ok (.iadd, 1) := by decide +kernel
theorem dX1_has_10 : decode cX1_has 10 = .ok (.iaload, 1) := by decide +kernel
theorem dX1_has_11 : decode cX1_has 11 = .ok (.ifCond .eq 7, 3) := by decide +kernel
theorem dX1_has_14 : decode cX1_has 14 = .ok (.iconst 1, 1) := by decide +kernel
theorem dX1_has_15 : decode cX1_has 15 = .ok (.goto 4, 3) := by decide +kernel
theorem dX1_has_18 : decode cX1_has 18 = .ok (.iconst 0, 1) := by decide +kernel
theorem dX1_has_19 : decode cX1_has 19 = .ok (.ireturn, 1) := by decide +kernel
theorem dX1_at_0 : decode cX1_at 0 = .ok (.aload_n 0, 1) := by decide +kernel
theorem dX1_at_1 : decode cX1_at 1 = .ok (.getfield 19, 3) := by decide +kernel
theorem dX1_at_4 : decode cX1_at 4 = .ok (.iload_n 1, 1) := by decide +kernel
theorem dX1_at_5 : decode cX1_at 5 = .ok (.bipush 24, 2) := by decide +kernel
theorem dX1_at_7 : decode cX1_at 7 = .ok (.imul, 1) := by decide +kernel
theorem dX1_at_8 : decode cX1_at 8 = .ok (.iload_n 2, 1) := by decide +kernel
theorem dX1_at_9 : decode cX1_at 9 = .ok (.iadd, 1) := by decide +kernel
theorem dX1_at_10 : decode cX1_at 10 = .ok (.iaload, 1) := by decide +kernel
theorem dX1_at_11 : decode cX1_at 11 = .ok (.ireturn, 1) := by decide +kernel
theorem dX1_write_0 : decode cX1_write 0 = .ok (.aload_n 0, 1) := by decide +kernel
theorem dX1_write_1 : decode cX1_write 1 = .ok (.iload_n 1, 1) := by decide +kernel
theorem dX1_write_2 : decode cX1_write 2 = .ok (.iload_n 2, 1) := by decide +kernel
theorem dX1_write_3 : decode cX1_write 3 = .ok (.invokevirtual 22, 3) := by decide +kernel
theorem dX1_write_6 : decode cX1_write 6 = .ok (.ifCond .ne 25, 3) := by decide +kernel
theorem dX1_write_9 : decode cX1_write 9 = .ok (.aload_n 0, 1) := by decide +kernel
theorem dX1_write_10 : decode cX1_write 10 = .ok (.getfield 15, 3) := by decide +kernel
theorem dX1_write_13 : decode cX1_write 13 = .ok (.iload_n 1, 1) := by decide +kernel
theorem dX1_write_14 : decode cX1_write 14 = .ok (.bipush 24, 2) := by decide +kernel
theorem dX1_write_16 : decode cX1_write 16 = .ok (.imul, 1) := by decide +kernel
theorem dX1_write_17 : decode cX1_write 17 = .ok (.iload_n 2, 1) := by decide +kernel
theorem dX1_write_18 : decode cX1_write 18 = .ok (.iadd, 1) := by decide +kernel
theorem dX1_write_19 : decode cX1_write 19 = .ok (.iconst 1, 1) := by decide +kernel
theorem dX1_write_20 : decode cX1_write 20 = .ok (.iastore, 1) := by decide +kernel
theorem dX1_write_21 : decode cX1_write 21 = .ok (.aload_n 0, 1) := by decide +kernel
theorem dX1_write_22 : decode cX1_write 22 = .ok (.dup, 1) := by decide +kernel
theorem dX1_write_23 : decode cX1_write 23 = .ok (.getfield 9, 3) := by decide +kernel
theorem dX1_write_26 : decode cX1_write 26 = .ok (.iconst 1, 1) := by decide +kernel
theorem dX1_write_27 : decode cX1_write 27 = .ok (.iadd, 1) := by decide +kernel
theorem dX1_write_28 : decode cX1_write 28 = .ok (.putfield 9, 3) := by decide +kernel
theorem dX1_write_31 : decode cX1_write 31 = .ok (.aload_n 0, 1) := by decide +kernel
theorem dX1_write_32 : decode cX1_write 32 = .ok (.getfield 19, 3) := by decide +kernel
theorem dX1_write_35 : decode cX1_write 35 = .ok (.iload_n 1, 1) := by decide +kernel
theorem dX1_write_36 : decode cX1_write 36 = .ok (.bipush 24, 2) := by decide +kernel
theorem dX1_write_38 : decode cX1_write 38 = .ok (.imul, 1) := by decide +kernel
theorem dX1_write_39 : decode cX1_write 39 = .ok (.iload_n 2, 1) := by decide +kernel
theorem dX1_write_40 : decode cX1_write 40 = .ok (.iadd, 1) := by decide +kernel
theorem dX1_write_41 : decode cX1_write 41 = .ok (.iload_n 3, 1) := by decide +kernel
theorem dX1_write_42 : decode cX1_write 42 = .ok (.iastore, 1) := by decide +kernel
theorem dX1_write_43 : decode cX1_write 43 = .ok (.return_, 1) := by decide +kernel
theorem dX1_take_0 : decode cX1_take 0 = .ok (.aload_n 0, 1) := by decide +kernel
theorem dX1_take_1 : decode cX1_take 1 = .ok (.aload_n 1, 1) := by decide +kernel
theorem dX1_take_2 : decode cX1_take 2 = .ok (.getfield 9, 3) := by decide +kernel
theorem dX1_take_5 : decode cX1_take 5 = .ok (.putfield 9, 3) := by decide +kernel
theorem dX1_take_8 : decode cX1_take 8 = .ok (.aload_n 1, 1) := by decide +kernel
theorem dX1_take_9 : decode cX1_take 9 = .ok (.getfield 15, 3) := by decide +kernel
theorem dX1_take_12 : decode cX1_take 12 = .ok (.aload_n 0, 1) := by decide +kernel
theorem dX1_take_13 : decode cX1_take 13 = .ok (.getfield 15, 3) := by decide +kernel
theorem dX1_take_16 : decode cX1_take 16 = .ok (.invokestatic 26, 3) := by decide +kernel
theorem dX1_take_19 : decode cX1_take 19 = .ok (.aload_n 1, 1) := by decide +kernel
theorem dX1_take_20 : decode cX1_take 20 = .ok (.getfield 19, 3) := by decide +kernel
theorem dX1_take_23 : decode cX1_take 23 = .ok (.aload_n 0, 1) := by decide +kernel
theorem dX1_take_24 : decode cX1_take 24 = .ok (.getfield 19, 3) := by decide +kernel
theorem dX1_take_27 : decode cX1_take 27 = .ok (.invokestatic 26, 3) := by decide +kernel
theorem dX1_take_30 : decode cX1_take 30 = .ok (.return_, 1) := by decide +kernel
theorem dX2_init_0 : decode cX2_init 0 = .ok (.aload_n 0, 1) := by decide +kernel
theorem dX2_init_1 : decode cX2_init 1 = .ok (.invokespecial 3, 3) := by decide +kernel
theorem dX2_init_4 : decode cX2_init 4 = .ok (.aload_n 0, 1) := by decide +kernel
theorem dX2_init_5 : decode cX2_init 5 = .ok (.iconst 0, 1) := by decide +kernel
theorem dX2_init_6 : decode cX2_init 6 = .ok (.putfield 9, 3) := by decide +kernel
theorem dX2_init_9 : decode cX2_init 9 = .ok (.aload_n 0, 1) := by decide +kernel
theorem dX2_init_10 : decode cX2_init 10 = .ok (.iconst 0, 1) := by decide +kernel
theorem dX2_init_11 : decode cX2_init 11 = .ok (.putfield 15, 3) := by decide +kernel
theorem dX2_init_14 : decode cX2_init 14 = .ok (.aload_n 0, 1) := by decide +kernel
theorem dX2_init_15 : decode cX2_init 15 = .ok (.bipush 24, 2) := by decide +kernel
theorem dX2_init_17 : decode cX2_init 17 = .ok (.newarray .int, 2) := by decide +kernel
theorem dX2_init_19 : decode cX2_init 19 = .ok (.putfield 18, 3) := by decide +kernel
theorem dX2_init_22 : decode cX2_init 22 = .ok (.return_, 1) := by decide +kernel
theorem dX2_isMissing_0 : decode cX2_isMissing 0 = .ok (.aload_n 0, 1) := by decide +kernel
theorem dX2_isMissing_1 : decode cX2_isMissing 1 = .ok (.getfield 9, 3) := by decide +kernel
theorem dX2_isMissing_4 : decode cX2_isMissing 4 = .ok (.ifCond .ne 7, 3) := by decide +kernel
theorem dX2_isMissing_7 : decode cX2_isMissing 7 = .ok (.iconst 1, 1) := by decide +kernel
theorem dX2_isMissing_8 : decode cX2_isMissing 8 = .ok (.goto 4, 3) := by decide +kernel
theorem dX2_isMissing_11 : decode cX2_isMissing 11 = .ok (.iconst 0, 1) := by decide +kernel
theorem dX2_isMissing_12 : decode cX2_isMissing 12 = .ok (.ireturn, 1) := by decide +kernel
theorem dX2_start_0 : decode cX2_start 0 = .ok (.aload_n 0, 1) := by decide +kernel
theorem dX2_start_1 : decode cX2_start 1 = .ok (.iload_n 1, 1) := by decide +kernel
theorem dX2_start_2 : decode cX2_start 2 = .ok (.putfield 9, 3) := by decide +kernel
theorem dX2_start_5 : decode cX2_start 5 = .ok (.aload_n 0, 1) := by decide +kernel
theorem dX2_start_6 : decode cX2_start 6 = .ok (.iload_n 1, 1) := by decide +kernel
theorem dX2_start_7 : decode cX2_start 7 = .ok (.ifCond .ne 7, 3) := by decide +kernel
theorem dX2_start_10 : decode cX2_start 10 = .ok (.iconst 0, 1) := by decide +kernel
theorem dX2_start_11 : decode cX2_start 11 = .ok (.goto 4, 3) := by decide +kernel
theorem dX2_start_14 : decode cX2_start 14 = .ok (.iload_n 2, 1) := by decide +kernel
theorem dX2_start_15 : decode cX2_start 15 = .ok (.putfield 15, 3) := by decide +kernel
theorem dX2_start_18 : decode cX2_start 18 = .ok (.aload_n 0, 1) := by decide +kernel
theorem dX2_start_19 : decode cX2_start 19 = .ok (.getfield 18, 3) := by decide +kernel
theorem dX2_start_22 : decode cX2_start 22 = .ok (.invokestatic 22, 3) := by decide +kernel
theorem dX2_start_25 : decode cX2_start 25 = .ok (.pop, 1) := by decide +kernel
theorem dX2_start_26 : decode cX2_start 26 = .ok (.aload_n 0, 1) := by decide +kernel
theorem dX2_start_27 : decode cX2_start 27 = .ok (.getfield 15, 3) := by decide +kernel
theorem dX2_start_30 : decode cX2_start 30 = .ok (.ireturn, 1) := by decide +kernel
theorem dX2_write_0 : decode cX2_write 0 = .ok (.aload_n 0, 1) := by decide +kernel
theorem dX2_write_1 : decode cX2_write 1 = .ok (.getfield 18, 3) := by decide +kernel
theorem dX2_write_4 : decode cX2_write 4 = .ok (.iload_n 1, 1) := by decide +kernel
theorem dX2_write_5 : decode cX2_write 5 = .ok (.aload_n 0, 1) := by decide +kernel
theorem dX2_write_6 : decode cX2_write 6 = .ok (.getfield 9, 3) := by decide +kernel
theorem dX2_write_9 : decode cX2_write 9 = .ok (.iconst 2, 1) := by decide +kernel
theorem dX2_write_10 : decode cX2_write 10 = .ok (.if_icmp .ne 15, 3) := by decide +kernel
theorem dX2_write_13 : decode cX2_write 13 = .ok (.iload_n 2, 1) := by decide +kernel
theorem dX2_write_14 : decode cX2_write 14 = .ok (.invokestatic 26, 3) := by decide +kernel
theorem dX2_write_17 : decode cX2_write 17 = .ok (.ifCond .eq 8, 3) := by decide +kernel
theorem dX2_write_20 : decode cX2_write 20 = .ok (.ldc 30, 2) := by decide +kernel
theorem dX2_write_22 : decode cX2_write 22 = .ok (.goto 4, 3) := by decide +kernel
theorem dX2_write_25 : decode cX2_write 25 = .ok (.iload_n 2, 1) := by decide +kernel
theorem dX2_write_26 : decode cX2_write 26 = .ok (.iastore, 1) := by decide +kernel
theorem dX2_write_27 : decode cX2_write 27 = .ok (.return_, 1) := by decide +kernel
theorem dX2_hasPart_0 : decode cX2_hasPart 0 = .ok (.iload_n 1, 1) := by decide +kernel
theorem dX2_hasPart_1 : decode cX2_hasPart 1 = .ok (.ifCond .lt 29, 3) := by decide +kernel
theorem dX2_hasPart_4 : decode cX2_hasPart 4 = .ok (.iload_n 2, 1) := by decide +kernel
theorem dX2_hasPart_5 : decode cX2_hasPart 5 = .ok (.ifCond .lt 25, 3) := by decide +kernel
theorem dX2_hasPart_8 : decode cX2_hasPart 8 = .ok (.iload_n 1, 1) := by decide +kernel
theorem dX2_hasPart_9 : decode cX2_hasPart 9 = .ok (.aload_n 0, 1) := by decide +kernel
theorem dX2_hasPart_10 : decode cX2_hasPart 10 = .ok (.getfield 15, 3) := by decide +kernel
theorem dX2_hasPart_13 : decode cX2_hasPart 13 = .ok (.if_icmp .gt 17, 3) := by decide +kernel
theorem dX2_hasPart_16 : decode cX2_hasPart 16 = .ok (.iload_n 2, 1) := by decide +kernel
theorem dX2_hasPart_17 : decode cX2_hasPart 17 = .ok (.aload_n 0, 1) := by decide +kernel
theorem dX2_hasPart_18 : decode cX2_hasPart 18 = .ok (.getfield 15, 3) := by decide +kernel
theorem dX2_hasPart_21 : decode cX2_hasPart 21 = .ok (.iload_n 1, 1) := by decide +kernel
theorem dX2_hasPart_22 : decode cX2_hasPart 22 = .ok (.isub, 1) := by decide +kernel
theorem dX2_hasPart_23 : decode cX2_hasPart 23 = .ok (.if_icmp .gt 7, 3) := by decide +kernel
theorem dX2_hasPart_26 : decode cX2_hasPart 26 = .ok (.iconst 1, 1) := by decide +kernel
theorem dX2_hasPart_27 : decode cX2_hasPart 27 = .ok (.goto 4, 3) := by decide +kernel
theorem dX2_hasPart_30 : decode cX2_hasPart 30 = .ok (.iconst 0, 1) := by decide +kernel
theorem dX2_hasPart_31 : decode cX2_hasPart 31 = .ok (.ireturn, 1) := by decide +kernel
theorem dX2_startsWithNumbers_0 : decode cX2_startsWithNumbers 0 = .ok (.iconst 0, 1) := by decide +kernel
theorem dX2_startsWithNumbers_1 : decode cX2_startsWithNumbers 1 = .ok (.istore_n 2, 1) := by decide +kernel
theorem dX2_startsWithNumbers_2 : decode cX2_startsWithNumbers 2 = .ok (.iload_n 2, 1) := by decide +kernel
theorem dX2_startsWithNumbers_3 : decode cX2_startsWithNumbers 3 = .ok (.iload_n 1, 1) := by decide +kernel
theorem dX2_startsWithNumbers_4 : decode cX2_startsWithNumbers 4 = .ok (.if_icmp .ge 31, 3) := by decide +kernel
theorem dX2_startsWithNumbers_7 : decode cX2_startsWithNumbers 7 = .ok (.aload_n 0, 1) := by decide +kernel
theorem dX2_startsWithNumbers_8 : decode cX2_startsWithNumbers 8 = .ok (.getfield 9, 3) := by decide +kernel
theorem dX2_startsWithNumbers_11 : decode cX2_startsWithNumbers 11 = .ok (.iconst 2, 1) := by decide +kernel
theorem dX2_startsWithNumbers_12 : decode cX2_startsWithNumbers 12 = .ok (.if_icmp .ne 17, 3) := by decide +kernel
theorem dX2_startsWithNumbers_15 : decode cX2_startsWithNumbers 15 = .ok (.aload_n 0, 1) := by decide +kernel
theorem dX2_startsWithNumbers_16 : decode cX2_startsWithNumbers 16 = .ok (.getfield 18, 3) := by decide +kernel
theorem dX2_startsWithNumbers_19 : decode cX2_startsWithNumbers 19 = .ok (.iload_n 2, 1) := by decide +kernel
theorem dX2_startsWithNumbers_20 : decode cX2_startsWithNumbers 20 = .ok (.iaload, 1) := by decide +kernel
theorem dX2_startsWithNumbers_21 : decode cX2_startsWithNumbers 21 = .ok (.invokestatic 26, 3) := by decide +kernel
theorem dX2_startsWithNumbers_24 : decode cX2_startsWithNumbers 24 = .ok (.ifCond .eq 5, 3) := by decide +kernel
theorem dX2_startsWithNumbers_27 : decode cX2_startsWithNumbers 27 = .ok (.iconst 0, 1) := by decide +kernel
theorem dX2_startsWithNumbers_28 : decode cX2_startsWithNumbers 28 = .ok (.ireturn, 1) := by decide +kernel
theorem dX2_startsWithNumbers_29 : decode cX2_startsWithNumbers 29 = .ok (.iinc 2 1, 3) := by decide +kernel
theorem dX2_startsWithNumbers_32 : decode cX2_startsWithNumbers 32 = .ok (.goto (-30), 3) := by decide +kernel
theorem dX2_startsWithNumbers_35 : decode cX2_startsWithNumbers 35 = .ok (.iconst 1, 1) := by decide +kernel
theorem dX2_startsWithNumbers_36 : decode cX2_startsWithNumbers 36 = .ok (.ireturn, 1) := by decide +kernel
theorem dX2_startsWithAmounts_0 : decode cX2_startsWithAmounts 0 = .ok (.iconst 0, 1) := by decide +kernel
theorem dX2_startsWithAmounts_1 : decode cX2_startsWithAmounts 1 = .ok (.istore_n 2, 1) := by decide +kernel
theorem dX2_startsWithAmounts_2 : decode cX2_startsWithAmounts 2 = .ok (.iload_n 2, 1) := by decide +kernel
theorem dX2_startsWithAmounts_3 : decode cX2_startsWithAmounts 3 = .ok (.iload_n 1, 1) := by decide +kernel
theorem dX2_startsWithAmounts_4 : decode cX2_startsWithAmounts 4 = .ok (.if_icmp .ge 22, 3) := by decide +kernel
theorem dX2_startsWithAmounts_7 : decode cX2_startsWithAmounts 7 = .ok (.aload_n 0, 1) := by decide +kernel
theorem dX2_startsWithAmounts_8 : decode cX2_startsWithAmounts 8 = .ok (.iload_n 2, 1) := by decide +kernel
theorem dX2_startsWithAmounts_9 : decode cX2_startsWithAmounts 9 = .ok (.invokevirtual 31, 3) := by decide +kernel
theorem dX2_startsWithAmounts_12 : decode cX2_startsWithAmounts 12 = .ok (.invokestatic 35, 3) := by decide +kernel
theorem dX2_startsWithAmounts_15 : decode cX2_startsWithAmounts 15 = .ok (.ifCond .ne 5, 3) := by decide +kernel
theorem dX2_startsWithAmounts_18 : decode cX2_startsWithAmounts 18 = .ok (.iconst 0, 1) := by decide +kernel
theorem dX2_startsWithAmounts_19 : decode cX2_startsWithAmounts 19 = .ok (.ireturn, 1) := by decide +kernel
theorem dX2_startsWithAmounts_20 : decode cX2_startsWithAmounts 20 = .ok (.iinc 2 1, 3) := by decide +kernel
theorem dX2_startsWithAmounts_23 : decode cX2_startsWithAmounts 23 = .ok (.goto (-21), 3) := by decide +kernel
theorem dX2_startsWithAmounts_26 : decode cX2_startsWithAmounts 26 = .ok (.iconst 1, 1) := by decide +kernel
theorem dX2_startsWithAmounts_27 : decode cX2_startsWithAmounts 27 = .ok (.ireturn, 1) := by decide +kernel
theorem dX2_whole_0 : decode cX2_whole 0 = .ok (.aload_n 0, 1) := by decide +kernel
theorem dX2_whole_1 : decode cX2_whole 1 = .ok (.getfield 9, 3) := by decide +kernel
theorem dX2_whole_4 : decode cX2_whole 4 = .ok (.iconst 2, 1) := by decide +kernel
theorem dX2_whole_5 : decode cX2_whole 5 = .ok (.if_icmp .ne 15, 3) := by decide +kernel
theorem dX2_whole_8 : decode cX2_whole 8 = .ok (.aload_n 0, 1) := by decide +kernel
theorem dX2_whole_9 : decode cX2_whole 9 = .ok (.getfield 18, 3) := by decide +kernel
theorem dX2_whole_12 : decode cX2_whole 12 = .ok (.iload_n 1, 1) := by decide +kernel
theorem dX2_whole_13 : decode cX2_whole 13 = .ok (.iaload, 1) := by decide +kernel
theorem dX2_whole_14 : decode cX2_whole 14 = .ok (.invokestatic 38, 3) := by decide +kernel
theorem dX2_whole_17 : decode cX2_whole 17 = .ok (.goto 9, 3) := by decide +kernel
theorem dX2_whole_20 : decode cX2_whole 20 = .ok (.aload_n 0, 1) := by decide +kernel
theorem dX2_whole_21 : decode cX2_whole 21 = .ok (.getfield 18, 3) := by decide +kernel
theorem dX2_whole_24 : decode cX2_whole 24 = .ok (.iload_n 1, 1) := by decide +kernel
theorem dX2_whole_25 : decode cX2_whole 25 = .ok (.iaload, 1) := by decide +kernel
theorem dX2_whole_26 : decode cX2_whole 26 = .ok (.ireturn, 1) := by decide +kernel
theorem dX2_isNoNumber_0 : decode cX2_isNoNumber 0 = .ok (.iload_n 0, 1) := by decide +kernel
theorem dX2_isNoNumber_1 : decode cX2_isNoNumber 1 = .ok (.ldc 43, 2) := by decide +kernel
theorem dX2_isNoNumber_3 : decode cX2_isNoNumber 3 = .ok (.iand, 1) := by decide +kernel
theorem dX2_isNoNumber_4 : decode cX2_isNoNumber 4 = .ok (.ldc 44, 2) := by decide +kernel
theorem dX2_isNoNumber_6 : decode cX2_isNoNumber 6 = .ok (.if_icmp .le 7, 3) := by decide +kernel
theorem dX2_isNoNumber_9 : decode cX2_isNoNumber 9 = .ok (.iconst 1, 1) := by decide +kernel
theorem dX2_isNoNumber_10 : decode cX2_isNoNumber 10 = .ok (.goto 4, 3) := by decide +kernel
theorem dX2_isNoNumber_13 : decode cX2_isNoNumber 13 = .ok (.iconst 0, 1) := by decide +kernel
theorem dX2_isNoNumber_14 : decode cX2_isNoNumber 14 = .ok (.ireturn, 1) := by decide +kernel
theorem dX2_cut_0 : decode cX2_cut 0 = .ok (.iload_n 0, 1) := by decide +kernel
theorem dX2_cut_1 : decode cX2_cut 1 = .ok (.bipush 23, 2) := by decide +kernel
theorem dX2_cut_3 : decode cX2_cut 3 = .ok (.iushr, 1) := by decide +kernel
theorem dX2_cut_4 : decode cX2_cut 4 = .ok (.sipush 255, 3) := by decide +kernel
theorem dX2_cut_7 : decode cX2_cut 7 = .ok (.iand, 1) := by decide +kernel
theorem dX2_cut_8 : decode cX2_cut 8 = .ok (.bipush 127, 2) := by decide +kernel
theorem dX2_cut_10 : decode cX2_cut 10 = .ok (.isub, 1) := by decide +kernel
theorem dX2_cut_11 : decode cX2_cut 11 = .ok (.istore_n 1, 1) := by decide +kernel
theorem dX2_cut_12 : decode cX2_cut 12 = .ok (.iload_n 1, 1) := by decide +kernel
theorem dX2_cut_13 : decode cX2_cut 13 = .ok (.ifCond .ge 5, 3) := by decide +kernel
theorem dX2_cut_16 : decode cX2_cut 16 = .ok (.iconst 0, 1) := by decide +kernel
theorem dX2_cut_17 : decode cX2_cut 17 = .ok (.ireturn, 1) := by decide +kernel
theorem dX2_cut_18 : decode cX2_cut 18 = .ok (.iload_n 1, 1) := by decide +kernel
theorem dX2_cut_19 : decode cX2_cut 19 = .ok (.bipush 22, 2) := by decide +kernel
theorem dX2_cut_21 : decode cX2_cut 21 = .ok (.if_icmp .le 15, 3) := by decide +kernel
theorem dX2_cut_24 : decode cX2_cut 24 = .ok (.iload_n 0, 1) := by decide +kernel
theorem dX2_cut_25 : decode cX2_cut 25 = .ok (.ifCond .ge 8, 3) := by decide +kernel
theorem dX2_cut_28 : decode cX2_cut 28 = .ok (.ldc 45, 2) := by decide +kernel
theorem dX2_cut_30 : decode cX2_cut 30 = .ok (.goto 5, 3) := by decide +kernel
theorem dX2_cut_33 : decode cX2_cut 33 = .ok (.ldc 43, 2) := by decide +kernel
theorem dX2_cut_35 : decode cX2_cut 35 = .ok (.ireturn, 1) := by decide +kernel
theorem dX2_cut_36 : decode cX2_cut 36 = .ok (.iload_n 0, 1) := by decide +kernel
theorem dX2_cut_37 : decode cX2_cut 37 = .ok (.ldc 46, 2) := by decide +kernel
theorem dX2_cut_39 : decode cX2_cut 39 = .ok (.iand, 1) := by decide +kernel
theorem dX2_cut_40 : decode cX2_cut 40 = .ok (.ldc 47, 2) := by decide +kernel
theorem dX2_cut_42 : decode cX2_cut 42 = .ok (.ior, 1) := by decide +kernel
theorem dX2_cut_43 : decode cX2_cut 43 = .ok (.bipush 23, 2) := by decide +kernel
theorem dX2_cut_45 : decode cX2_cut 45 = .ok (.iload_n 1, 1) := by decide +kernel
theorem dX2_cut_46 : decode cX2_cut 46 = .ok (.isub, 1) := by decide +kernel
theorem dX2_cut_47 : decode cX2_cut 47 = .ok (.ishr, 1) := by decide +kernel
theorem dX2_cut_48 : decode cX2_cut 48 = .ok (.istore_n 2, 1) := by decide +kernel
theorem dX2_cut_49 : decode cX2_cut 49 = .ok (.iload_n 0, 1) := by decide +kernel
theorem dX2_cut_50 : decode cX2_cut 50 = .ok (.ifCond .ge 8, 3) := by decide +kernel
theorem dX2_cut_53 : decode cX2_cut 53 = .ok (.iload_n 2, 1) := by decide +kernel
theorem dX2_cut_54 : decode cX2_cut 54 = .ok (.ineg, 1) := by decide +kernel
theorem dX2_cut_55 : decode cX2_cut 55 = .ok (.goto 4, 3) := by decide +kernel
theorem dX2_cut_58 : decode cX2_cut 58 = .ok (.iload_n 2, 1) := by decide +kernel
theorem dX2_cut_59 : decode cX2_cut 59 = .ok (.ireturn, 1) := by decide +kernel
theorem dX3_init_0 : decode cX3_init 0 = .ok (.aload_n 0, 1) := by decide +kernel
theorem dX3_init_1 : decode cX3_init 1 = .ok (.invokespecial 3, 3) := by decide +kernel
theorem dX3_init_4 : decode cX3_init 4 = .ok (.aload_n 0, 1) := by decide +kernel
theorem dX3_init_5 : decode cX3_init 5 = .ok (.sipush 240, 3) := by decide +kernel
theorem dX3_init_8 : decode cX3_init 8 = .ok (.newarray .int, 2) := by decide +kernel
theorem dX3_init_10 : decode cX3_init 10 = .ok (.putfield 9, 3) := by decide +kernel
theorem dX3_init_13 : decode cX3_init 13 = .ok (.aload_n 0, 1) := by decide +kernel
theorem dX3_init_14 : decode cX3_init 14 = .ok (.bipush 12, 2) := by decide +kernel
theorem dX3_init_16 : decode cX3_init 16 = .ok (.newarray .int, 2) := by decide +kernel
theorem dX3_init_18 : decode cX3_init 18 = .ok (.putfield 15, 3) := by decide +kernel
theorem dX3_init_21 : decode cX3_init 21 = .ok (.aload_n 0, 1) := by decide +kernel
theorem dX3_init_22 : decode cX3_init 22 = .ok (.bipush 10, 2) := by decide +kernel
theorem dX3_init_24 : decode cX3_init 24 = .ok (.newarray .int, 2) := by decide +kernel
theorem dX3_init_26 : decode cX3_init 26 = .ok (.putfield 18, 3) := by decide +kernel
theorem dX3_init_29 : decode cX3_init 29 = .ok (.iconst 0, 1) := by decide +kernel
theorem dX3_init_30 : decode cX3_init 30 = .ok (.istore_n 1, 1) := by decide +kernel
theorem dX3_init_31 : decode cX3_init 31 = .ok (.iload_n 1, 1) := by decide +kernel
theorem dX3_init_32 : decode cX3_init 32 = .ok (.bipush 10, 2) := by decide +kernel
theorem dX3_init_34 : decode cX3_init 34 = .ok (.if_icmp .ge 41, 3) := by decide +kernel
theorem dX3_init_37 : decode cX3_init 37 = .ok (.bipush 100, 2) := by decide +kernel
theorem dX3_init_39 : decode cX3_init 39 = .ok (.bipush 10, 2) := by decide +kernel
theorem dX3_init_41 : decode cX3_init 41 = .ok (.iload_n 1, 1) := by decide +kernel
theorem dX3_init_42 : decode cX3_init 42 = .ok (.imul, 1) := by decide +kernel
theorem dX3_init_43 : decode cX3_init 43 = .ok (.isub, 1) := by decide +kernel
theorem dX3_init_44 : decode cX3_init 44 = .ok (.istore_n 2, 1) := by decide +kernel
theorem dX3_init_45 : decode cX3_init 45 = .ok (.aload_n 0, 1) := by decide +kernel
theorem dX3_init_46 : decode cX3_init 46 = .ok (.getfield 9, 3) := by decide +kernel
theorem dX3_init_49 : decode cX3_init 49 = .ok (.iconst 0, 1) := by decide +kernel
theorem dX3_init_50 : decode cX3_init 50 = .ok (.iload_n 1, 1) := by decide +kernel
theorem dX3_init_51 : decode cX3_init 51 = .ok (.invokestatic 21, 3) := by decide +kernel
theorem dX3_init_54 : decode cX3_init 54 = .ok (.iload_n 2, 1) := by decide +kernel
theorem dX3_init_55 : decode cX3_init 55 = .ok (.iastore, 1) := by decide +kernel
theorem dX3_init_56 : decode cX3_init 56 = .ok (.aload_n 0, 1) := by decide +kernel
theorem dX3_init_57 : decode cX3_init 57 = .ok (.getfield 9, 3) := by decide +kernel
theorem dX3_init_60 : decode cX3_init 60 = .ok (.iconst 1, 1) := by decide +kernel
theorem dX3_init_61 : decode cX3_init 61 = .ok (.iload_n 1, 1) := by decide +kernel
theorem dX3_init_62 : decode cX3_init 62 = .ok (.invokestatic 21, 3) := by decide +kernel
theorem dX3_init_65 : decode cX3_init 65 = .ok (.iload_n 2, 1) := by decide +kernel
theorem dX3_init_66 : decode cX3_init 66 = .ok (.iconst 2, 1) := by decide +kernel
theorem dX3_init_67 : decode cX3_init 67 = .ok (.idiv, 1) := by decide +kernel
theorem dX3_init_68 : decode cX3_init 68 = .ok (.iastore, 1) := by decide +kernel
theorem dX3_init_69 : decode cX3_init 69 = .ok (.iinc 1 1, 3) := by decide +kernel
theorem dX3_init_72 : decode cX3_init 72 = .ok (.goto (-41), 3) := by decide +kernel
theorem dX3_init_75 : decode cX3_init 75 = .ok (.aload_n 0, 1) := by decide +kernel
theorem dX3_init_76 : decode cX3_init 76 = .ok (.getfield 15, 3) := by decide +kernel
theorem dX3_init_79 : decode cX3_init 79 = .ok (.iconst 0, 1) := by decide +kernel
theorem dX3_init_80 : decode cX3_init 80 = .ok (.bipush 10, 2) := by decide +kernel
theorem dX3_init_82 : decode cX3_init 82 = .ok (.iastore, 1) := by decide +kernel
theorem dX3_init_83 : decode cX3_init 83 = .ok (.return_, 1) := by decide +kernel
theorem dX3_row_0 : decode cX3_row 0 = .ok (.iload_n 0, 1) := by decide +kernel
theorem dX3_row_1 : decode cX3_row 1 = .ok (.bipush 10, 2) := by decide +kernel
theorem dX3_row_3 : decode cX3_row 3 = .ok (.imul, 1) := by decide +kernel
theorem dX3_row_4 : decode cX3_row 4 = .ok (.iload_n 1, 1) := by decide +kernel
theorem dX3_row_5 : decode cX3_row 5 = .ok (.iadd, 1) := by decide +kernel
theorem dX3_row_6 : decode cX3_row 6 = .ok (.bipush 12, 2) := by decide +kernel
theorem dX3_row_8 : decode cX3_row 8 = .ok (.imul, 1) := by decide +kernel
theorem dX3_row_9 : decode cX3_row 9 = .ok (.ireturn, 1) := by decide +kernel
theorem dX3_keepsOrder_0 : decode cX3_keepsOrder 0 = .ok (.iload_n 2, 1) := by decide +kernel
theorem dX3_keepsOrder_1 : decode cX3_keepsOrder 1 = .ok (.ifCond .le 24, 3) := by decide +kernel
theorem dX3_keepsOrder_4 : decode cX3_keepsOrder 4 = .ok (.iload 4, 2) := by decide +kernel
theorem dX3_keepsOrder_6 : decode cX3_keepsOrder 6 = .ok (.aload_n 0, 1) := by decide +kernel
theorem dX3_keepsOrder_7 : decode cX3_keepsOrder 7 = .ok (.getfield 9, 3) := by decide +kernel
theorem dX3_keepsOrder_10 : decode cX3_keepsOrder 10 = .ok (.iload_n 1, 1) := by decide +kernel
theorem dX3_keepsOrder_11 : decode cX3_keepsOrder 11 = .ok (.iload_n 2, 1) := by decide +kernel
theorem dX3_keepsOrder_12 : decode cX3_keepsOrder 12 = .ok (.iconst 1, 1) := by decide +kernel
theorem dX3_keepsOrder_13 : decode cX3_keepsOrder 13 = .ok (.isub, 1) := by decide +kernel
theorem dX3_keepsOrder_14 : decode cX3_keepsOrder 14 = .ok (.invokestatic 21, 3) := by decide +kernel
theorem dX3_keepsOrder_17 : decode cX3_keepsOrder 17 = .ok (.iload_n 3, 1) := by decide +kernel
theorem dX3_keepsOrder_18 : decode cX3_keepsOrder 18 = .ok (.iadd, 1) := by decide +kernel
theorem dX3_keepsOrder_19 : decode cX3_keepsOrder 19 = .ok (.iaload, 1) := by decide +kernel
theorem dX3_keepsOrder_20 : decode cX3_keepsOrder 20 = .ok (.if_icmp .le 5, 3) := by decide +kernel
theorem dX3_keepsOrder_23 : decode cX3_keepsOrder 23 = .ok (.iconst 0, 1) := by decide +kernel
theorem dX3_keepsOrder_24 : decode cX3_keepsOrder 24 = .ok (.ireturn, 1) := by decide +kernel
theorem dX3_keepsOrder_25 : decode cX3_keepsOrder 25 = .ok (.iload_n 2, 1) := by decide +kernel
theorem dX3_keepsOrder_26 : decode cX3_keepsOrder 26 = .ok (.bipush 9, 2) := by decide +kernel
theorem dX3_keepsOrder_28 : decode cX3_keepsOrder 28 = .ok (.if_icmp .eq 22, 3) := by decide +kernel
theorem dX3_keepsOrder_31 : decode cX3_keepsOrder 31 = .ok (.iload 4, 2) := by decide +kernel
theorem dX3_keepsOrder_33 : decode cX3_keepsOrder 33 = .ok (.aload_n 0, 1) := by decide +kernel
theorem dX3_keepsOrder_34 : decode cX3_keepsOrder 34 = .ok (.getfield 9, 3) := by decide +kernel
theorem dX3_keepsOrder_37 : decode cX3_keepsOrder 37 = .ok (.iload_n 1, 1) := by decide +kernel
theorem dX3_keepsOrder_38 : decode cX3_keepsOrder 38 = .ok (.iload_n 2, 1) := by decide +kernel
theorem dX3_keepsOrder_39 : decode cX3_keepsOrder 39 = .ok (.iconst 1, 1) := by decide +kernel
theorem dX3_keepsOrder_40 : decode cX3_keepsOrder 40 = .ok (.iadd, 1) := by decide +kernel
theorem dX3_keepsOrder_41 : decode cX3_keepsOrder 41 = .ok (.invokestatic 21, 3) := by decide +kernel
theorem dX3_keepsOrder_44 : decode cX3_keepsOrder 44 = .ok (.iload_n 3, 1) := by decide +kernel
theorem dX3_keepsOrder_45 : decode cX3_keepsOrder 45 = .ok (.iadd, 1) := by decide +kernel
theorem dX3_keepsOrder_46 : decode cX3_keepsOrder 46 = .ok (.iaload, 1) := by decide +kernel
theorem dX3_keepsOrder_47 : decode cX3_keepsOrder 47 = .ok (.if_icmp .lt 7, 3) := by decide +kernel
theorem dX3_keepsOrder_50 : decode cX3_keepsOrder 50 = .ok (.iconst 1, 1) := by decide +kernel
theorem dX3_keepsOrder_51 : decode cX3_keepsOrder 51 = .ok (.goto 4, 3) := by decide +kernel
theorem dX3_keepsOrder_54 : decode cX3_keepsOrder 54 = .ok (.iconst 0, 1) := by decide +kernel
theorem dX3_keepsOrder_55 : decode cX3_keepsOrder 55 = .ok (.ireturn, 1) := by decide +kernel
theorem dX3_startTrial_0 : decode cX3_startTrial 0 = .ok (.iconst 0, 1) := by decide +kernel
theorem dX3_startTrial_1 : decode cX3_startTrial 1 = .ok (.istore_n 3, 1) := by decide +kernel
theorem dX3_startTrial_2 : decode cX3_startTrial 2 = .ok (.iload_n 3, 1) := by decide +kernel
theorem dX3_startTrial_3 : decode cX3_startTrial 3 = .ok (.bipush 10, 2) := by decide +kernel
theorem dX3_startTrial_5 : decode cX3_startTrial 5 = .ok (.if_icmp .ge 27, 3) := by decide +kernel
theorem dX3_startTrial_8 : decode cX3_startTrial 8 = .ok (.aload_n 0, 1) := by decide +kernel
theorem dX3_startTrial_9 : decode cX3_startTrial 9 = .ok (.getfield 18, 3) := by decide +kernel
theorem dX3_startTrial_12 : decode cX3_startTrial 12 = .ok (.iload_n 3, 1) := by decide +kernel
theorem dX3_startTrial_13 : decode cX3_startTrial 13 = .ok (.aload_n 0, 1) := by decide +kernel
theorem dX3_startTrial_14 : decode cX3_startTrial 14 = .ok (.getfield 9, 3) := by decide +kernel
theorem dX3_startTrial_17 : decode cX3_startTrial 17 = .ok (.iload_n 1, 1) := by decide +kernel
theorem dX3_startTrial_18 : decode cX3_startTrial 18 = .ok (.iload_n 3, 1) := by decide +kernel
theorem dX3_startTrial_19 : decode cX3_startTrial 19 = .ok (.invokestatic 21, 3) := by decide +kernel
theorem dX3_startTrial_22 : decode cX3_startTrial 22 = .ok (.iload_n 2, 1) := by decide +kernel
theorem dX3_startTrial_23 : decode cX3_startTrial 23 = .ok (.iadd, 1) := by decide +kernel
theorem dX3_startTrial_24 : decode cX3_startTrial 24 = .ok (.iaload, 1) := by decide +kernel
theorem dX3_startTrial_25 : decode cX3_startTrial 25 = .ok (.iastore, 1) := by decide +kernel
theorem dX3_startTrial_26 : decode cX3_startTrial 26 = .ok (.iinc 3 1, 3) := by decide +kernel
theorem dX3_startTrial_29 : decode cX3_startTrial 29 = .ok (.goto (-27), 3) := by decide +kernel
theorem dX3_startTrial_32 : decode cX3_startTrial 32 = .ok (.return_, 1) := by decide +kernel
theorem dX3_tryFactor_0 : decode cX3_tryFactor 0 = .ok (.iconst 0, 1) := by decide +kernel
theorem dX3_tryFactor_1 : decode cX3_tryFactor 1 = .ok (.istore 4, 2) := by decide +kernel
theorem dX3_tryFactor_3 : decode cX3_tryFactor 3 = .ok (.iload 4, 2) := by decide +kernel
theorem dX3_tryFactor_5 : decode cX3_tryFactor 5 = .ok (.bipush 10, 2) := by decide +kernel
theorem dX3_tryFactor_7 : decode cX3_tryFactor 7 = .ok (.if_icmp .ge 40, 3) := by decide +kernel
theorem dX3_tryFactor_10 : decode cX3_tryFactor 10 = .ok (.aload_n 0, 1) := by decide +kernel
theorem dX3_tryFactor_11 : decode cX3_tryFactor 11 = .ok (.getfield 9, 3) := by decide +kernel
theorem dX3_tryFactor_14 : decode cX3_tryFactor 14 = .ok (.iload_n 1, 1) := by decide +kernel
theorem dX3_tryFactor_15 : decode cX3_tryFactor 15 = .ok (.iload 4, 2) := by decide +kernel
theorem dX3_tryFactor_17 : decode cX3_tryFactor 17 = .ok (.invokestatic 21, 3) := by decide +kernel
theorem dX3_tryFactor_20 : decode cX3_tryFactor 20 = .ok (.iload_n 2, 1) := by decide +kernel
theorem dX3_tryFactor_21 : decode cX3_tryFactor 21 = .ok (.iadd, 1) := by decide +kernel
theorem dX3_tryFactor_22 : decode cX3_tryFactor 22 = .ok (.aload_n 0, 1) := by decide +kernel
theorem dX3_tryFactor_23 : decode cX3_tryFactor 23 = .ok (.getfield 18, 3) := by decide +kernel
theorem dX3_tryFactor_26 : decode cX3_tryFactor 26 = .ok (.iload 4, 2) := by decide +kernel
theorem dX3_tryFactor_28 : decode cX3_tryFactor 28 = .ok (.iaload, 1) := by decide +kernel
theorem dX3_tryFactor_29 : decode cX3_tryFactor 29 = .ok (.iload_n 3, 1) := by decide +kernel
theorem dX3_tryFactor_30 : decode cX3_tryFactor 30 = .ok (.imul, 1) := by decide +kernel
theorem dX3_tryFactor_31 : decode cX3_tryFactor 31 = .ok (.bipush 100, 2) := by decide +kernel
theorem dX3_tryFactor_33 : decode cX3_tryFactor 33 = .ok (.idiv, 1) := by decide +kernel
theorem dX3_tryFactor_34 : decode cX3_tryFactor 34 = .ok (.sipush 1000, 3) := by decide +kernel
theorem dX3_tryFactor_37 : decode cX3_tryFactor 37 = .ok (.invokestatic 25, 3) := by decide +kernel
theorem dX3_tryFactor_40 : decode cX3_tryFactor 40 = .ok (.iastore, 1) := by decide +kernel
theorem dX3_tryFactor_41 : decode cX3_tryFactor 41 = .ok (.iinc 4 1, 3) := by decide +kernel
theorem dX3_tryFactor_44 : decode cX3_tryFactor 44 = .ok (.goto (-41), 3) := by decide +kernel
theorem dX3_tryFactor_47 : decode cX3_tryFactor 47 = .ok (.return_, 1) := by decide +kernel
theorem dX3_take_0 : decode cX3_take 0 = .ok (.aload_n 1, 1) := by decide +kernel
theorem dX3_take_1 : decode cX3_take 1 = .ok (.getfield 9, 3) := by decide +kernel
theorem dX3_take_4 : decode cX3_take 4 = .ok (.aload_n 0, 1) := by decide +kernel
theorem dX3_take_5 : decode cX3_take 5 = .ok (.getfield 9, 3) := by decide +kernel
theorem dX3_take_8 : decode cX3_take 8 = .ok (.invokestatic 30, 3) := by decide +kernel
theorem dX3_take_11 : decode cX3_take 11 = .ok (.aload_n 1, 1) := by decide +kernel
theorem dX3_take_12 : decode cX3_take 12 = .ok (.getfield 15, 3) := by decide +kernel
theorem dX3_take_15 : decode cX3_take 15 = .ok (.aload_n 0, 1) := by decide +kernel
theorem dX3_take_16 : decode cX3_take 16 = .ok (.getfield 15, 3) := by decide +kernel
theorem dX3_take_19 : decode cX3_take 19 = .ok (.invokestatic 30, 3) := by decide +kernel
theorem dX3_take_22 : decode cX3_take 22 = .ok (.return_, 1) := by decide +kernel
theorem dX4_init_0 : decode cX4_init 0 = .ok (.aload_n 0, 1) := by decide +kernel
theorem dX4_init_1 : decode cX4_init 1 = .ok (.invokespecial 3, 3) := by decide +kernel
theorem dX4_init_4 : decode cX4_init 4 = .ok (.aload_n 0, 1) := by decide +kernel
theorem dX4_init_5 : decode cX4_init 5 = .ok (.new 9, 3) := by decide +kernel
theorem dX4_init_8 : decode cX4_init 8 = .ok (.dup, 1) := by decide +kernel
theorem dX4_init_9 : decode cX4_init 9 = .ok (.invokespecial 11, 3) := by decide +kernel
theorem dX4_init_12 : decode cX4_init 12 = .ok (.putfield 12, 3) := by decide +kernel
theorem dX4_init_15 : decode cX4_init 15 = .ok (.aload_n 0, 1) := by decide +kernel
theorem dX4_init_16 : decode cX4_init 16 = .ok (.new 18, 3) := by decide +kernel
theorem dX4_init_19 : decode cX4_init 19 = .ok (.dup, 1) := by decide +kernel
theorem dX4_init_20 : decode cX4_init 20 = .ok (.invokespecial 20, 3) := by decide +kernel
theorem dX4_init_23 : decode cX4_init 23 = .ok (.putfield 21, 3) := by decide +kernel
theorem dX4_init_26 : decode cX4_init 26 = .ok (.aload_n 0, 1) := by decide +kernel
theorem dX4_init_27 : decode cX4_init 27 = .ok (.new 25, 3) := by decide +kernel
theorem dX4_init_30 : decode cX4_init 30 = .ok (.dup, 1) := by decide +kernel
theorem dX4_init_31 : decode cX4_init 31 = .ok (.invokespecial 27, 3) := by decide +kernel
theorem dX4_init_34 : decode cX4_init 34 = .ok (.putfield 28, 3) := by decide +kernel
theorem dX4_init_37 : decode cX4_init 37 = .ok (.aload_n 0, 1) := by decide +kernel
theorem dX4_init_38 : decode cX4_init 38 = .ok (.new 32, 3) := by decide +kernel
theorem dX4_init_41 : decode cX4_init 41 = .ok (.dup, 1) := by decide +kernel
theorem dX4_init_42 : decode cX4_init 42 = .ok (.invokespecial 34, 3) := by decide +kernel
theorem dX4_init_45 : decode cX4_init 45 = .ok (.putfield 35, 3) := by decide +kernel
theorem dX4_init_48 : decode cX4_init 48 = .ok (.aload_n 0, 1) := by decide +kernel
theorem dX4_init_49 : decode cX4_init 49 = .ok (.sipush 240, 3) := by decide +kernel
theorem dX4_init_52 : decode cX4_init 52 = .ok (.newarray .int, 2) := by decide +kernel
theorem dX4_init_54 : decode cX4_init 54 = .ok (.putfield 39, 3) := by decide +kernel
theorem dX4_init_57 : decode cX4_init 57 = .ok (.aload_n 0, 1) := by decide +kernel
theorem dX4_init_58 : decode cX4_init 58 = .ok (.bipush 24, 2) := by decide +kernel
theorem dX4_init_60 : decode cX4_init 60 = .ok (.newarray .int, 2) := by decide +kernel
theorem dX4_init_62 : decode cX4_init 62 = .ok (.putfield 43, 3) := by decide +kernel
theorem dX4_init_65 : decode cX4_init 65 = .ok (.aload_n 0, 1) := by decide +kernel
theorem dX4_init_66 : decode cX4_init 66 = .ok (.sipush 240, 3) := by decide +kernel
theorem dX4_init_69 : decode cX4_init 69 = .ok (.newarray .int, 2) := by decide +kernel
theorem dX4_init_71 : decode cX4_init 71 = .ok (.putfield 46, 3) := by decide +kernel
theorem dX4_init_74 : decode cX4_init 74 = .ok (.return_, 1) := by decide +kernel
theorem dX4_drawOf_0 : decode cX4_drawOf 0 = .ok (.aload_n 0, 1) := by decide +kernel
theorem dX4_drawOf_1 : decode cX4_drawOf 1 = .ok (.getfield 39, 3) := by decide +kernel
theorem dX4_drawOf_4 : decode cX4_drawOf 4 = .ok (.iload_n 1, 1) := by decide +kernel
theorem dX4_drawOf_5 : decode cX4_drawOf 5 = .ok (.bipush 24, 2) := by decide +kernel
theorem dX4_drawOf_7 : decode cX4_drawOf 7 = .ok (.imul, 1) := by decide +kernel
theorem dX4_drawOf_8 : decode cX4_drawOf 8 = .ok (.iload_n 2, 1) := by decide +kernel
theorem dX4_drawOf_9 : decode cX4_drawOf 9 = .ok (.iadd, 1) := by decide +kernel
theorem dX4_drawOf_10 : decode cX4_drawOf 10 = .ok (.iaload, 1) := by decide +kernel
theorem dX4_drawOf_11 : decode cX4_drawOf 11 = .ok (.ireturn, 1) := by decide +kernel
theorem dX4_setDraw_0 : decode cX4_setDraw 0 = .ok (.aload_n 0, 1) := by decide +kernel
theorem dX4_setDraw_1 : decode cX4_setDraw 1 = .ok (.getfield 39, 3) := by decide +kernel
theorem dX4_setDraw_4 : decode cX4_setDraw 4 = .ok (.iload_n 1, 1) := by decide +kernel
theorem dX4_setDraw_5 : decode cX4_setDraw 5 = .ok (.bipush 24, 2) := by decide +kernel
theorem dX4_setDraw_7 : decode cX4_setDraw 7 = .ok (.imul, 1) := by decide +kernel
theorem dX4_setDraw_8 : decode cX4_setDraw 8 = .ok (.iload_n 2, 1) := by decide +kernel
theorem dX4_setDraw_9 : decode cX4_setDraw 9 = .ok (.iadd, 1) := by decide +kernel
theorem dX4_setDraw_10 : decode cX4_setDraw 10 = .ok (.iload_n 3, 1) := by decide +kernel
theorem dX4_setDraw_11 : decode cX4_setDraw 11 = .ok (.iastore, 1) := by decide +kernel
theorem dX4_setDraw_12 : decode cX4_setDraw 12 = .ok (.return_, 1) := by decide +kernel
theorem dX4_sumOfDraws_0 : decode cX4_sumOfDraws 0 = .ok (.iconst 0, 1) := by decide +kernel
theorem dX4_sumOfDraws_1 : decode cX4_sumOfDraws 1 = .ok (.istore_n 2, 1) := by decide +kernel
theorem dX4_sumOfDraws_2 : decode cX4_sumOfDraws 2 = .ok (.iconst 0, 1) := by decide +kernel
theorem dX4_sumOfDraws_3 : decode cX4_sumOfDraws 3 = .ok (.istore_n 3, 1) := by decide +kernel
theorem dX4_sumOfDraws_4 : decode cX4_sumOfDraws 4 = .ok (.iload_n 3, 1) := by decide +kernel
theorem dX4_sumOfDraws_5 : decode cX4_sumOfDraws 5 = .ok (.bipush 24, 2) := by decide +kernel
theorem dX4_sumOfDraws_7 : decode cX4_sumOfDraws 7 = .ok (.if_icmp .ge 18, 3) := by decide +kernel
theorem dX4_sumOfDraws_10 : decode cX4_sumOfDraws 10 = .ok (.iload_n 2, 1) := by decide +kernel
theorem dX4_sumOfDraws_11 : decode cX4_sumOfDraws 11 = .ok (.aload_n 0, 1) := by decide +kernel
theorem dX4_sumOfDraws_12 : decode cX4_sumOfDraws 12 = .ok (.iload_n 1, 1) := by decide +kernel
theorem dX4_sumOfDraws_13 : decode cX4_sumOfDraws 13 = .ok (.iload_n 3, 1) := by decide +kernel
theorem dX4_sumOfDraws_14 : decode cX4_sumOfDraws 14 = .ok (.invokevirtual 49, 3) := by decide +kernel
theorem dX4_sumOfDraws_17 : decode cX4_sumOfDraws 17 = .ok (.iadd, 1) := by decide +kernel
theorem dX4_sumOfDraws_18 : decode cX4_sumOfDraws 18 = .ok (.istore_n 2, 1) := by decide +kernel
theorem dX4_sumOfDraws_19 : decode cX4_sumOfDraws 19 = .ok (.iinc 3 1, 3) := by decide +kernel
theorem dX4_sumOfDraws_22 : decode cX4_sumOfDraws 22 = .ok (.goto (-18), 3) := by decide +kernel
theorem dX4_sumOfDraws_25 : decode cX4_sumOfDraws 25 = .ok (.iload_n 2, 1) := by decide +kernel
theorem dX4_sumOfDraws_26 : decode cX4_sumOfDraws 26 = .ok (.ireturn, 1) := by decide +kernel
theorem dX4_counted_0 : decode cX4_counted 0 = .ok (.aload_n 0, 1) := by decide +kernel
theorem dX4_counted_1 : decode cX4_counted 1 = .ok (.getfield 12, 3) := by decide +kernel
theorem dX4_counted_4 : decode cX4_counted 4 = .ok (.iload_n 1, 1) := by decide +kernel
theorem dX4_counted_5 : decode cX4_counted 5 = .ok (.iload_n 2, 1) := by decide +kernel
theorem dX4_counted_6 : decode cX4_counted 6 = .ok (.invokevirtual 53, 3) := by decide +kernel
theorem dX4_counted_9 : decode cX4_counted 9 = .ok (.ifCond .eq 26, 3) := by decide +kernel
theorem dX4_counted_12 : decode cX4_counted 12 = .ok (.getstatic 57, 3) := by decide +kernel
theorem dX4_counted_15 : decode cX4_counted 15 = .ok (.aload_n 0, 1) := by decide +kernel
theorem dX4_counted_16 : decode cX4_counted 16 = .ok (.getfield 12, 3) := by decide +kernel
theorem dX4_counted_19 : decode cX4_counted 19 = .ok (.getfield 60, 3) := by decide +kernel
theorem dX4_counted_22 : decode cX4_counted 22 = .ok (.iload_n 1, 1) := by decide +kernel
theorem dX4_counted_23 : decode cX4_counted 23 = .ok (.iaload, 1) := by decide +kernel
theorem dX4_counted_24 : decode cX4_counted 24 = .ok (.iaload, 1) := by decide +kernel
theorem dX4_counted_25 : decode cX4_counted 25 = .ok (.aload_n 0, 1) := by decide +kernel
theorem dX4_counted_26 : decode cX4_counted 26 = .ok (.iload_n 1, 1) := by decide +kernel
theorem dX4_counted_27 : decode cX4_counted 27 = .ok (.iload_n 2, 1) := by decide +kernel
theorem dX4_counted_28 : decode cX4_counted 28 = .ok (.invokevirtual 49, 3) := by decide +kernel
theorem dX4_counted_31 : decode cX4_counted 31 = .ok (.imul, 1) := by decide +kernel
theorem dX4_counted_32 : decode cX4_counted 32 = .ok (.goto 4, 3) := by decide +kernel
theorem dX4_counted_35 : decode cX4_counted 35 = .ok (.iconst 0, 1) := by decide +kernel
theorem dX4_counted_36 : decode cX4_counted 36 = .ok (.ireturn, 1) := by decide +kernel
theorem dX4_rowBetween_0 : decode cX4_rowBetween 0 = .ok (.aload_n 0, 1) := by decide +kernel
theorem dX4_rowBetween_1 : decode cX4_rowBetween 1 = .ok (.getfield 12, 3) := by decide +kernel
theorem dX4_rowBetween_4 : decode cX4_rowBetween 4 = .ok (.iload_n 1, 1) := by decide +kernel
theorem dX4_rowBetween_5 : decode cX4_rowBetween 5 = .ok (.iload_n 2, 1) := by decide +kernel
theorem dX4_rowBetween_6 : decode cX4_rowBetween 6 = .ok (.invokevirtual 63, 3) := by decide +kernel
theorem dX4_rowBetween_9 : decode cX4_rowBetween 9 = .ok (.aload_n 0, 1) := by decide +kernel
theorem dX4_rowBetween_10 : decode cX4_rowBetween 10 = .ok (.getfield 12, 3) := by decide +kernel
theorem dX4_rowBetween_13 : decode cX4_rowBetween 13 = .ok (.iload_n 1, 1) := by decide +kernel
theorem dX4_rowBetween_14 : decode cX4_rowBetween 14 = .ok (.iload_n 2, 1) := by decide +kernel
theorem dX4_rowBetween_15 : decode cX4_rowBetween 15 = .ok (.invokevirtual 66, 3) := by decide +kernel
theorem dX4_rowBetween_18 : decode cX4_rowBetween 18 = .ok (.invokestatic 69, 3) := by decide +kernel
theorem dX4_rowBetween_21 : decode cX4_rowBetween 21 = .ok (.ireturn, 1) := by decide +kernel
theorem dX4_lowering_0 : decode cX4_lowering 0 = .ok (.aload_n 0, 1) := by decide +kernel
theorem dX4_lowering_1 : decode cX4_lowering 1 = .ok (.iload_n 1, 1) := by decide +kernel
theorem dX4_lowering_2 : decode cX4_lowering 2 = .ok (.iload_n 3, 1) := by decide +kernel
theorem dX4_lowering_3 : decode cX4_lowering 3 = .ok (.invokevirtual 72, 3) := by decide +kernel
theorem dX4_lowering_6 : decode cX4_lowering 6 = .ok (.istore 5, 2) := by decide +kernel
theorem dX4_lowering_8 : decode cX4_lowering 8 = .ok (.iconst 0, 1) := by decide +kernel
theorem dX4_lowering_9 : decode cX4_lowering 9 = .ok (.istore 6, 2) := by decide +kernel
theorem dX4_lowering_11 : decode cX4_lowering 11 = .ok (.iload 4, 2) := by decide +kernel
theorem dX4_lowering_13 : decode cX4_lowering 13 = .ok (.iload_n 2, 1) := by decide +kernel
theorem dX4_lowering_14 : decode cX4_lowering 14 = .ok (.bipush 12, 2) := by decide +kernel
theorem dX4_lowering_16 : decode cX4_lowering 16 = .ok (.isub, 1) := by decide +kernel
theorem dX4_lowering_17 : decode cX4_lowering 17 = .ok (.iconst 1, 1) := by decide +kernel
theorem dX4_lowering_18 : decode cX4_lowering 18 = .ok (.iadd, 1) := by decide +kernel
theorem dX4_lowering_19 : decode cX4_lowering 19 = .ok (.invokestatic 75, 3) := by decide +kernel
theorem dX4_lowering_22 : decode cX4_lowering 22 = .ok (.istore 7, 2) := by decide +kernel
theorem dX4_lowering_24 : decode cX4_lowering 24 = .ok (.iload 7, 2) := by decide +kernel
theorem dX4_lowering_26 : decode cX4_lowering 26 = .ok (.iload_n 2, 1) := by decide +kernel
theorem dX4_lowering_27 : decode cX4_lowering 27 = .ok (.if_icmp .gt 55, 3) := by decide +kernel
theorem dX4_lowering_30 : decode cX4_lowering 30 = .ok (.aload_n 0, 1) := by decide +kernel
theorem dX4_lowering_31 : decode cX4_lowering 31 = .ok (.getfield 12, 3) := by decide +kernel
theorem dX4_lowering_34 : decode cX4_lowering 34 = .ok (.iload_n 3, 1) := by decide +kernel
theorem dX4_lowering_35 : decode cX4_lowering 35 = .ok (.iload 7, 2) := by decide +kernel
theorem dX4_lowering_37 : decode cX4_lowering 37 = .ok (.invokevirtual 53, 3) := by decide +kernel
theorem dX4_lowering_40 : decode cX4_lowering 40 = .ok (.ifCond .eq 36, 3) := by decide +kernel
theorem dX4_lowering_43 : decode cX4_lowering 43 = .ok (.iload 6, 2) := by decide +kernel
theorem dX4_lowering_45 : decode cX4_lowering 45 = .ok (.aload_n 0, 1) := by decide +kernel
theorem dX4_lowering_46 : decode cX4_lowering 46 = .ok (.getfield 39, 3) := by decide +kernel
theorem dX4_lowering_49 : decode cX4_lowering 49 = .ok (.iload_n 3, 1) := by decide +kernel
theorem dX4_lowering_50 : decode cX4_lowering 50 = .ok (.bipush 24, 2) := by decide +kernel
theorem dX4_lowering_52 : decode cX4_lowering 52 = .ok (.imul, 1) := by decide +kernel
theorem dX4_lowering_53 : decode cX4_lowering 53 = .ok (.iload 7, 2) := by decide +kernel
theorem dX4_lowering_55 : decode cX4_lowering 55 = .ok (.iadd, 1) := by decide +kernel
theorem dX4_lowering_56 : decode cX4_lowering 56 = .ok (.iaload, 1) := by decide +kernel
theorem dX4_lowering_57 : decode cX4_lowering 57 = .ok (.aload_n 0, 1) := by decide +kernel
theorem dX4_lowering_58 : decode cX4_lowering 58 = .ok (.getfield 21, 3) := by decide +kernel
theorem dX4_lowering_61 : decode cX4_lowering 61 = .ok (.getfield 80, 3) := by decide +kernel
theorem dX4_lowering_64 : decode cX4_lowering 64 = .ok (.iload 5, 2) := by decide +kernel
theorem dX4_lowering_66 : decode cX4_lowering 66 = .ok (.iload_n 2, 1) := by decide +kernel
theorem dX4_lowering_67 : decode cX4_lowering 67 = .ok (.iadd, 1) := by decide +kernel
theorem dX4_lowering_68 : decode cX4_lowering 68 = .ok (.iload 7, 2) := by decide +kernel
theorem dX4_lowering_70 : decode cX4_lowering 70 = .ok (.isub, 1) := by decide +kernel
theorem dX4_lowering_71 : decode cX4_lowering 71 = .ok (.iaload, 1) := by decide +kernel
theorem dX4_lowering_72 : decode cX4_lowering 72 = .ok (.imul, 1) := by decide +kernel
theorem dX4_lowering_73 : decode cX4_lowering 73 = .ok (.iadd, 1) := by decide +kernel
theorem dX4_lowering_74 : decode cX4_lowering 74 = .ok (.istore 6, 2) := by decide +kernel
theorem dX4_lowering_76 : decode cX4_lowering 76 = .ok (.iinc 7 1, 3) := by decide +kernel
theorem dX4_lowering_79 : decode cX4_lowering 79 = .ok (.goto (-55), 3) := by decide +kernel
theorem dX4_lowering_82 : decode cX4_lowering 82 = .ok (.iload 6, 2) := by decide +kernel
theorem dX4_lowering_84 : decode cX4_lowering 84 = .ok (.getstatic 57, 3) := by decide +kernel
theorem dX4_lowering_87 : decode cX4_lowering 87 = .ok (.aload_n 0, 1) := by decide +kernel
theorem dX4_lowering_88 : decode cX4_lowering 88 = .ok (.getfield 12, 3) := by decide +kernel
theorem dX4_lowering_91 : decode cX4_lowering 91 = .ok (.getfield 60, 3) := by decide +kernel
theorem dX4_lowering_94 : decode cX4_lowering 94 = .ok (.iload_n 3, 1) := by decide +kernel
theorem dX4_lowering_95 : decode cX4_lowering 95 = .ok (.iaload, 1) := by decide +kernel
theorem dX4_lowering_96 : decode cX4_lowering 96 = .ok (.iaload, 1) := by decide +kernel
theorem dX4_lowering_97 : decode cX4_lowering 97 = .ok (.imul, 1) := by decide +kernel
theorem dX4_lowering_98 : decode cX4_lowering 98 = .ok (.ireturn, 1) := by decide +kernel
theorem dX4_loweringOfOneMore_0 : decode cX4_loweringOfOneMore 0 = .ok (.aload_n 0, 1) := by decide +kernel
theorem dX4_loweringOfOneMore_1 : decode cX4_loweringOfOneMore 1 = .ok (.iload_n 1, 1) := by decide +kernel
theorem dX4_loweringOfOneMore_2 : decode cX4_loweringOfOneMore 2 = .ok (.iload_n 3, 1) := by decide +kernel
theorem dX4_loweringOfOneMore_3 : decode cX4_loweringOfOneMore 3 = .ok (.invokevirtual 72, 3) := by decide +kernel
theorem dX4_loweringOfOneMore_6 : decode cX4_loweringOfOneMore 6 = .ok (.istore 5, 2) := by decide +kernel
theorem dX4_loweringOfOneMore_8 : decode cX4_loweringOfOneMore 8 = .ok (.iconst 0, 1) := by decide +kernel
theorem dX4_loweringOfOneMore_9 : decode cX4_loweringOfOneMore 9 = .ok (.istore 6, 2) := by decide +kernel
theorem dX4_loweringOfOneMore_11 : decode cX4_loweringOfOneMore 11 = .ok (.iload 4, 2) := by decide +kernel
theorem dX4_loweringOfOneMore_13 : decode cX4_loweringOfOneMore 13 = .ok (.iload_n 2, 1) := by decide +kernel
theorem dX4_loweringOfOneMore_14 : decode cX4_loweringOfOneMore 14 = .ok (.bipush 12, 2) := by decide +kernel
theorem dX4_loweringOfOneMore_16 : decode cX4_loweringOfOneMore 16 = .ok (.isub, 1) := by decide +kernel
theorem dX4_loweringOfOneMore_17 : decode cX4_loweringOfOneMore 17 = .ok (.iconst 1, 1) := by decide +kernel
theorem dX4_loweringOfOneMore_18 : decode cX4_loweringOfOneMore 18 = .ok (.iadd, 1) := by decide +kernel
theorem dX4_loweringOfOneMore_19 : decode cX4_loweringOfOneMore 19 = .ok (.invokestatic 75, 3) := by decide +kernel
theorem dX4_loweringOfOneMore_22 : decode cX4_loweringOfOneMore 22 = .ok (.istore 7, 2) := by decide +kernel
theorem dX4_loweringOfOneMore_24 : decode cX4_loweringOfOneMore 24 = .ok (.iload 7, 2) := by decide +kernel
theorem dX4_loweringOfOneMore_26 : decode cX4_loweringOfOneMore 26 = .ok (.iload_n 2, 1) := by decide +kernel
theorem dX4_loweringOfOneMore_27 : decode cX4_loweringOfOneMore 27 = .ok (.if_icmp .gt 42, 3) := by decide +kernel
theorem dX4_loweringOfOneMore_30 : decode cX4_loweringOfOneMore 30 = .ok (.aload_n 0, 1) := by decide +kernel
theorem dX4_loweringOfOneMore_31 : decode cX4_loweringOfOneMore 31 = .ok (.getfield 12, 3) := by decide +kernel
theorem dX4_loweringOfOneMore_34 : decode cX4_loweringOfOneMore 34 = .ok (.iload_n 3, 1) := by decide +kernel
theorem dX4_loweringOfOneMore_35 : decode cX4_loweringOfOneMore 35 = .ok (.iload 7, 2) := by decide +kernel
theorem dX4_loweringOfOneMore_37 : decode cX4_loweringOfOneMore 37 = .ok (.invokevirtual 53, 3) := by decide +kernel
theorem dX4_loweringOfOneMore_40 : decode cX4_loweringOfOneMore 40 = .ok (.ifCond .eq 23, 3) := by decide +kernel
theorem dX4_loweringOfOneMore_43 : decode cX4_loweringOfOneMore 43 = .ok (.iload 6, 2) := by decide +kernel
theorem dX4_loweringOfOneMore_45 : decode cX4_loweringOfOneMore 45 = .ok (.aload_n 0, 1) := by decide +kernel
theorem dX4_loweringOfOneMore_46 : decode cX4_loweringOfOneMore 46 = .ok (.getfield 21, 3) := by decide +kernel
theorem dX4_loweringOfOneMore_49 : decode cX4_loweringOfOneMore 49 = .ok (.getfield 80, 3) := by decide +kernel
theorem dX4_loweringOfOneMore_52 : decode cX4_loweringOfOneMore 52 = .ok (.iload 5, 2) := by decide +kernel
theorem dX4_loweringOfOneMore_54 : decode cX4_loweringOfOneMore 54 = .ok (.iload_n 2, 1) := by decide +kernel
theorem dX4_loweringOfOneMore_55 : decode cX4_loweringOfOneMore 55 = .ok (.iadd, 1) := by decide +kernel
theorem dX4_loweringOfOneMore_56 : decode cX4_loweringOfOneMore 56 = .ok (.iload 7, 2) := by decide +kernel
theorem dX4_loweringOfOneMore_58 : decode cX4_loweringOfOneMore 58 = .ok (.isub, 1) := by decide +kernel
theorem dX4_loweringOfOneMore_59 : decode cX4_loweringOfOneMore 59 = .ok (.iaload, 1) := by decide +kernel
theorem dX4_loweringOfOneMore_60 : decode cX4_loweringOfOneMore 60 = .ok (.iadd, 1) := by decide +kernel
theorem dX4_loweringOfOneMore_61 : decode cX4_loweringOfOneMore 61 = .ok (.istore 6, 2) := by decide +kernel
theorem dX4_loweringOfOneMore_63 : decode cX4_loweringOfOneMore 63 = .ok (.iinc 7 1, 3) := by decide +kernel
theorem dX4_loweringOfOneMore_66 : decode cX4_loweringOfOneMore 66 = .ok (.goto (-42), 3) := by decide +kernel
theorem dX4_loweringOfOneMore_69 : decode cX4_loweringOfOneMore 69 = .ok (.iload 6, 2) := by decide +kernel
theorem dX4_loweringOfOneMore_71 : decode cX4_loweringOfOneMore 71 = .ok (.ireturn, 1) := by decide +kernel
theorem dX4_raisedByRain_0 : decode cX4_raisedByRain 0 = .ok (.iconst 0, 1) := by decide +kernel
theorem dX4_raisedByRain_1 : decode cX4_raisedByRain 1 = .ok (.istore_n 2, 1) := by decide +kernel
theorem dX4_raisedByRain_2 : decode cX4_raisedByRain 2 = .ok (.iconst 0, 1) := by decide +kernel
theorem dX4_raisedByRain_3 : decode cX4_raisedByRain 3 = .ok (.iload_n 1, 1) := by decide +kernel
theorem dX4_raisedByRain_4 : decode cX4_raisedByRain 4 = .ok (.bipush 12, 2) := by decide +kernel
theorem dX4_raisedByRain_6 : decode cX4_raisedByRain 6 = .ok (.isub, 1) := by decide +kernel
theorem dX4_raisedByRain_7 : decode cX4_raisedByRain 7 = .ok (.iconst 1, 1) := by decide +kernel
theorem dX4_raisedByRain_8 : decode cX4_raisedByRain 8 = .ok (.iadd, 1) := by decide +kernel
theorem dX4_raisedByRain_9 : decode cX4_raisedByRain 9 = .ok (.invokestatic 75, 3) := by decide +kernel
theorem dX4_raisedByRain_12 : decode cX4_raisedByRain 12 = .ok (.istore_n 3, 1) := by decide +kernel
theorem dX4_raisedByRain_13 : decode cX4_raisedByRain 13 = .ok (.iload_n 3, 1) := by decide +kernel
theorem dX4_raisedByRain_14 : decode cX4_raisedByRain 14 = .ok (.iload_n 1, 1) := by decide +kernel
theorem dX4_raisedByRain_15 : decode cX4_raisedByRain 15 = .ok (.if_icmp .gt 30, 3) := by decide +kernel
theorem dX4_raisedByRain_18 : decode cX4_raisedByRain 18 = .ok (.iload_n 2, 1) := by decide +kernel
theorem dX4_raisedByRain_19 : decode cX4_raisedByRain 19 = .ok (.aload_n 0, 1) := by decide +kernel
theorem dX4_raisedByRain_20 : decode cX4_raisedByRain 20 = .ok (.getfield 43, 3) := by decide +kernel
theorem dX4_raisedByRain_23 : decode cX4_raisedByRain 23 = .ok (.iload_n 3, 1) := by decide +kernel
theorem dX4_raisedByRain_24 : decode cX4_raisedByRain 24 = .ok (.iaload, 1) := by decide +kernel
theorem dX4_raisedByRain_25 : decode cX4_raisedByRain 25 = .ok (.aload_n 0, 1) := by decide +kernel
theorem dX4_raisedByRain_26 : decode cX4_raisedByRain 26 = .ok (.getfield 21, 3) := by decide +kernel
theorem dX4_raisedByRain_29 : decode cX4_raisedByRain 29 = .ok (.getfield 83, 3) := by decide +kernel
theorem dX4_raisedByRain_32 : decode cX4_raisedByRain 32 = .ok (.iload_n 1, 1) := by decide +kernel
theorem dX4_raisedByRain_33 : decode cX4_raisedByRain 33 = .ok (.iload_n 3, 1) := by decide +kernel
theorem dX4_raisedByRain_34 : decode cX4_raisedByRain 34 = .ok (.isub, 1) := by decide +kernel
theorem dX4_raisedByRain_35 : decode cX4_raisedByRain 35 = .ok (.iaload, 1) := by decide +kernel
theorem dX4_raisedByRain_36 : decode cX4_raisedByRain 36 = .ok (.imul, 1) := by decide +kernel
theorem dX4_raisedByRain_37 : decode cX4_raisedByRain 37 = .ok (.iadd, 1) := by decide +kernel
theorem dX4_raisedByRain_38 : decode cX4_raisedByRain 38 = .ok (.istore_n 2, 1) := by decide +kernel
theorem dX4_raisedByRain_39 : decode cX4_raisedByRain 39 = .ok (.iinc 3 1, 3) := by decide +kernel
theorem dX4_raisedByRain_42 : decode cX4_raisedByRain 42 = .ok (.goto (-29), 3) := by decide +kernel
theorem dX4_raisedByRain_45 : decode cX4_raisedByRain 45 = .ok (.iload_n 2, 1) := by decide +kernel
theorem dX4_raisedByRain_46 : decode cX4_raisedByRain 46 = .ok (.ireturn, 1) := by decide +kernel
theorem dX4_headOf_0 : decode cX4_headOf 0 = .ok (.aload_n 0, 1) := by decide +kernel
theorem dX4_headOf_1 : decode cX4_headOf 1 = .ok (.getfield 12, 3) := by decide +kernel
theorem dX4_headOf_4 : decode cX4_headOf 4 = .ok (.getfield 86, 3) := by decide +kernel
theorem dX4_headOf_7 : decode cX4_headOf 7 = .ok (.iload_n 1, 1) := by decide +kernel
theorem dX4_headOf_8 : decode cX4_headOf 8 = .ok (.iaload, 1) := by decide +kernel
theorem dX4_headOf_9 : decode cX4_headOf 9 = .ok (.aload_n 0, 1) := by decide +kernel
theorem dX4_headOf_10 : decode cX4_headOf 10 = .ok (.iload_n 2, 1) := by decide +kernel
theorem dX4_headOf_11 : decode cX4_headOf 11 = .ok (.invokevirtual 89, 3) := by decide +kernel
theorem dX4_headOf_14 : decode cX4_headOf 14 = .ok (.iadd, 1) := by decide +kernel
theorem dX4_headOf_15 : decode cX4_headOf 15 = .ok (.istore_n 3, 1) := by decide +kernel
theorem dX4_headOf_16 : decode cX4_headOf 16 = .ok (.iconst 0, 1) := by decide +kernel
theorem dX4_headOf_17 : decode cX4_headOf 17 = .ok (.istore 4, 2) := by decide +kernel
theorem dX4_headOf_19 : decode cX4_headOf 19 = .ok (.iload 4, 2) := by decide +kernel
theorem dX4_headOf_21 : decode cX4_headOf 21 = .ok (.aload_n 0, 1) := by decide +kernel
theorem dX4_headOf_22 : decode cX4_headOf 22 = .ok (.getfield 12, 3) := by decide +kernel
theorem dX4_headOf_25 : decode cX4_headOf 25 = .ok (.getfield 93, 3) := by decide +kernel
theorem dX4_headOf_28 : decode cX4_headOf 28 = .ok (.if_icmp .ge 21, 3) := by decide +kernel
theorem dX4_headOf_31 : decode cX4_headOf 31 = .ok (.iload_n 3, 1) := by decide +kernel
theorem dX4_headOf_32 : decode cX4_headOf 32 = .ok (.aload_n 0, 1) := by decide +kernel
theorem dX4_headOf_33 : decode cX4_headOf 33 = .ok (.iload_n 1, 1) := by decide +kernel
theorem dX4_headOf_34 : decode cX4_headOf 34 = .ok (.iload_n 2, 1) := by decide +kernel
theorem dX4_headOf_35 : decode cX4_headOf 35 = .ok (.iload 4, 2) := by decide +kernel
theorem dX4_headOf_37 : decode cX4_headOf 37 = .ok (.iconst 0, 1) := by decide +kernel
theorem dX4_headOf_38 : decode cX4_headOf 38 = .ok (.invokevirtual 97, 3) := by decide +kernel
theorem dX4_headOf_41 : decode cX4_headOf 41 = .ok (.isub, 1) := by decide +kernel
theorem dX4_headOf_42 : decode cX4_headOf 42 = .ok (.istore_n 3, 1) := by decide +kernel
theorem dX4_headOf_43 : decode cX4_headOf 43 = .ok (.iinc 4 1, 3) := by decide +kernel
theorem dX4_headOf_46 : decode cX4_headOf 46 = .ok (.goto (-27), 3) := by decide +kernel
theorem dX4_headOf_49 : decode cX4_headOf 49 = .ok (.iload_n 3, 1) := by decide +kernel
theorem dX4_headOf_50 : decode cX4_headOf 50 = .ok (.ireturn, 1) := by decide +kernel
theorem dX4_aboveLimit_0 : decode cX4_aboveLimit 0 = .ok (.aload_n 0, 1) := by decide +kernel
theorem dX4_aboveLimit_1 : decode cX4_aboveLimit 1 = .ok (.iload_n 1, 1) := by decide +kernel
theorem dX4_aboveLimit_2 : decode cX4_aboveLimit 2 = .ok (.iload_n 2, 1) := by decide +kernel
theorem dX4_aboveLimit_3 : decode cX4_aboveLimit 3 = .ok (.invokevirtual 101, 3) := by decide +kernel
theorem dX4_aboveLimit_6 : decode cX4_aboveLimit 6 = .ok (.aload_n 0, 1) := by decide +kernel
theorem dX4_aboveLimit_7 : decode cX4_aboveLimit 7 = .ok (.getfield 12, 3) := by decide +kernel
theorem dX4_aboveLimit_10 : decode cX4_aboveLimit 10 = .ok (.getfield 104, 3) := by decide +kernel
theorem dX4_aboveLimit_13 : decode cX4_aboveLimit 13 = .ok (.iload_n 1, 1) := by decide +kernel
theorem dX4_aboveLimit_14 : decode cX4_aboveLimit 14 = .ok (.iaload, 1) := by decide +kernel
theorem dX4_aboveLimit_15 : decode cX4_aboveLimit 15 = .ok (.isub, 1) := by decide +kernel
theorem dX4_aboveLimit_16 : decode cX4_aboveLimit 16 = .ok (.ireturn, 1) := by decide +kernel
theorem dX4_findSpare_0 : decode cX4_findSpare 0 = .ok (.iconst 0, 1) := by decide +kernel
theorem dX4_findSpare_1 : decode cX4_findSpare 1 = .ok (.istore_n 2, 1) := by decide +kernel
theorem dX4_findSpare_2 : decode cX4_findSpare 2 = .ok (.iload_n 2, 1) := by decide +kernel
theorem dX4_findSpare_3 : decode cX4_findSpare 3 = .ok (.aload_n 0, 1) := by decide +kernel
theorem dX4_findSpare_4 : decode cX4_findSpare 4 = .ok (.getfield 12, 3) := by decide +kernel
theorem dX4_findSpare_7 : decode cX4_findSpare 7 = .ok (.getfield 93, 3) := by decide +kernel
theorem dX4_findSpare_10 : decode cX4_findSpare 10 = .ok (.if_icmp .ge 40, 3) := by decide +kernel
theorem dX4_findSpare_13 : decode cX4_findSpare 13 = .ok (.iload_n 1, 1) := by decide +kernel
theorem dX4_findSpare_14 : decode cX4_findSpare 14 = .ok (.istore_n 3, 1) := by decide +kernel
theorem dX4_findSpare_15 : decode cX4_findSpare 15 = .ok (.iload_n 3, 1) := by decide +kernel
theorem dX4_findSpare_16 : decode cX4_findSpare 16 = .ok (.bipush 24, 2) := by decide +kernel
theorem dX4_findSpare_18 : decode cX4_findSpare 18 = .ok (.if_icmp .ge 26, 3) := by decide +kernel
theorem dX4_findSpare_21 : decode cX4_findSpare 21 = .ok (.aload_n 0, 1) := by decide +kernel
theorem dX4_findSpare_22 : decode cX4_findSpare 22 = .ok (.getfield 46, 3) := by decide +kernel
theorem dX4_findSpare_25 : decode cX4_findSpare 25 = .ok (.iload_n 2, 1) := by decide +kernel
theorem dX4_findSpare_26 : decode cX4_findSpare 26 = .ok (.bipush 24, 2) := by decide +kernel
theorem dX4_findSpare_28 : decode cX4_findSpare 28 = .ok (.imul, 1) := by decide +kernel
theorem dX4_findSpare_29 : decode cX4_findSpare 29 = .ok (.iload_n 3, 1) := by decide +kernel
theorem dX4_findSpare_30 : decode cX4_findSpare 30 = .ok (.iadd, 1) := by decide +kernel
theorem dX4_findSpare_31 : decode cX4_findSpare 31 = .ok (.aload_n 0, 1) := by decide +kernel
theorem dX4_findSpare_32 : decode cX4_findSpare 32 = .ok (.iload_n 2, 1) := by decide +kernel
theorem dX4_findSpare_33 : decode cX4_findSpare 33 = .ok (.iload_n 3, 1) := by decide +kernel
theorem dX4_findSpare_34 : decode cX4_findSpare 34 = .ok (.invokevirtual 107, 3) := by decide +kernel
theorem dX4_findSpare_37 : decode cX4_findSpare 37 = .ok (.iastore, 1) := by decide +kernel
theorem dX4_findSpare_38 : decode cX4_findSpare 38 = .ok (.iinc 3 1, 3) := by decide +kernel
theorem dX4_findSpare_41 : decode cX4_findSpare 41 = .ok (.goto (-26), 3) := by decide +kernel
theorem dX4_findSpare_44 : decode cX4_findSpare 44 = .ok (.iinc 2 1, 3) := by decide +kernel
theorem dX4_findSpare_47 : decode cX4_findSpare 47 = .ok (.goto (-45), 3) := by decide +kernel
theorem dX4_findSpare_50 : decode cX4_findSpare 50 = .ok (.return_, 1) := by decide +kernel
theorem dX4_useSpare_0 : decode cX4_useSpare 0 = .ok (.iconst 0, 1) := by decide +kernel
theorem dX4_useSpare_1 : decode cX4_useSpare 1 = .ok (.istore 4, 2) := by decide +kernel
theorem dX4_useSpare_3 : decode cX4_useSpare 3 = .ok (.iload 4, 2) := by decide +kernel
theorem dX4_useSpare_5 : decode cX4_useSpare 5 = .ok (.aload_n 0, 1) := by decide +kernel
theorem dX4_useSpare_6 : decode cX4_useSpare 6 = .ok (.getfield 12, 3) := by decide +kernel
theorem dX4_useSpare_9 : decode cX4_useSpare 9 = .ok (.getfield 93, 3) := by decide +kernel
theorem dX4_useSpare_12 : decode cX4_useSpare 12 = .ok (.if_icmp .ge 53, 3) := by decide +kernel
theorem dX4_useSpare_15 : decode cX4_useSpare 15 = .ok (.iload_n 2, 1) := by decide +kernel
theorem dX4_useSpare_16 : decode cX4_useSpare 16 = .ok (.istore 5, 2) := by decide +kernel
theorem dX4_useSpare_18 : decode cX4_useSpare 18 = .ok (.iload 5, 2) := by decide +kernel
theorem dX4_useSpare_20 : decode cX4_useSpare 20 = .ok (.bipush 24, 2) := by decide +kernel
theorem dX4_useSpare_22 : decode cX4_useSpare 22 = .ok (.if_icmp .ge 37, 3) := by decide +kernel
theorem dX4_useSpare_25 : decode cX4_useSpare 25 = .ok (.aload_n 0, 1) := by decide +kernel
theorem dX4_useSpare_26 : decode cX4_useSpare 26 = .ok (.getfield 46, 3) := by decide +kernel
theorem dX4_useSpare_29 : decode cX4_useSpare 29 = .ok (.iload 4, 2) := by decide +kernel
theorem dX4_useSpare_31 : decode cX4_useSpare 31 = .ok (.bipush 24, 2) := by decide +kernel
theorem dX4_useSpare_33 : decode cX4_useSpare 33 = .ok (.imul, 1) := by decide +kernel
theorem dX4_useSpare_34 : decode cX4_useSpare 34 = .ok (.iload 5, 2) := by decide +kernel
theorem dX4_useSpare_36 : decode cX4_useSpare 36 = .ok (.iadd, 1) := by decide +kernel
theorem dX4_useSpare_37 : decode cX4_useSpare 37 = .ok (.dup2, 1) := by decide +kernel
theorem dX4_useSpare_38 : decode cX4_useSpare 38 = .ok (.iaload, 1) := by decide +kernel
theorem dX4_useSpare_39 : decode cX4_useSpare 39 = .ok (.iload_n 3, 1) := by decide +kernel
theorem dX4_useSpare_40 : decode cX4_useSpare 40 = .ok (.aload_n 0, 1) := by decide +kernel
theorem dX4_useSpare_41 : decode cX4_useSpare 41 = .ok (.iload 4, 2) := by decide +kernel
theorem dX4_useSpare_43 : decode cX4_useSpare 43 = .ok (.iload 5, 2) := by decide +kernel
theorem dX4_useSpare_45 : decode cX4_useSpare 45 = .ok (.iload_n 1, 1) := by decide +kernel
theorem dX4_useSpare_46 : decode cX4_useSpare 46 = .ok (.iload_n 2, 1) := by decide +kernel
theorem dX4_useSpare_47 : decode cX4_useSpare 47 = .ok (.invokevirtual 110, 3) := by decide +kernel
theorem dX4_useSpare_50 : decode cX4_useSpare 50 = .ok (.imul, 1) := by decide +kernel
theorem dX4_useSpare_51 : decode cX4_useSpare 51 = .ok (.isub, 1) := by decide +kernel
theorem dX4_useSpare_52 : decode cX4_useSpare 52 = .ok (.iastore, 1) := by decide +kernel
theorem dX4_useSpare_53 : decode cX4_useSpare 53 = .ok (.iinc 5 1, 3) := by decide +kernel
theorem dX4_useSpare_56 : decode cX4_useSpare 56 = .ok (.goto (-38), 3) := by decide +kernel
theorem dX4_useSpare_59 : decode cX4_useSpare 59 = .ok (.iinc 4 1, 3) := by decide +kernel
theorem dX4_useSpare_62 : decode cX4_useSpare 62 = .ok (.goto (-59), 3) := by decide +kernel
theorem dX4_useSpare_65 : decode cX4_useSpare 65 = .ok (.return_, 1) := by decide +kernel
theorem dX4_freeOf_0 : decode cX4_freeOf 0 = .ok (.aload_n 0, 1) := by decide +kernel
theorem dX4_freeOf_1 : decode cX4_freeOf 1 = .ok (.getfield 12, 3) := by decide +kernel
theorem dX4_freeOf_4 : decode cX4_freeOf 4 = .ok (.iload_n 1, 1) := by decide +kernel
theorem dX4_freeOf_5 : decode cX4_freeOf 5 = .ok (.invokevirtual 113, 3) := by decide +kernel
theorem dX4_freeOf_8 : decode cX4_freeOf 8 = .ok (.ifCond .ne 5, 3) := by decide +kernel
theorem dX4_freeOf_11 : decode cX4_freeOf 11 = .ok (.iconst 0, 1) := by decide +kernel
theorem dX4_freeOf_12 : decode cX4_freeOf 12 = .ok (.ireturn, 1) := by decide +kernel
theorem dX4_freeOf_13 : decode cX4_freeOf 13 = .ok (.sipush 1000, 3) := by decide +kernel
theorem dX4_freeOf_16 : decode cX4_freeOf 16 = .ok (.istore_n 3, 1) := by decide +kernel
theorem dX4_freeOf_17 : decode cX4_freeOf 17 = .ok (.iconst 0, 1) := by decide +kernel
theorem dX4_freeOf_18 : decode cX4_freeOf 18 = .ok (.istore 4, 2) := by decide +kernel
theorem dX4_freeOf_20 : decode cX4_freeOf 20 = .ok (.iload 4, 2) := by decide +kernel
theorem dX4_freeOf_22 : decode cX4_freeOf 22 = .ok (.aload_n 0, 1) := by decide +kernel
theorem dX4_freeOf_23 : decode cX4_freeOf 23 = .ok (.getfield 12, 3) := by decide +kernel
theorem dX4_freeOf_26 : decode cX4_freeOf 26 = .ok (.getfield 93, 3) := by decide +kernel
theorem dX4_freeOf_29 : decode cX4_freeOf 29 = .ok (.if_icmp .ge 67, 3) := by decide +kernel
theorem dX4_freeOf_32 : decode cX4_freeOf 32 = .ok (.iload_n 2, 1) := by decide +kernel
theorem dX4_freeOf_33 : decode cX4_freeOf 33 = .ok (.istore 5, 2) := by decide +kernel
theorem dX4_freeOf_35 : decode cX4_freeOf 35 = .ok (.iload 5, 2) := by decide +kernel
theorem dX4_freeOf_37 : decode cX4_freeOf 37 = .ok (.bipush 24, 2) := by decide +kernel
theorem dX4_freeOf_39 : decode cX4_freeOf 39 = .ok (.if_icmp .ge 51, 3) := by decide +kernel
theorem dX4_freeOf_42 : decode cX4_freeOf 42 = .ok (.aload_n 0, 1) := by decide +kernel
theorem dX4_freeOf_43 : decode cX4_freeOf 43 = .ok (.iload 4, 2) := by decide +kernel
theorem dX4_freeOf_45 : decode cX4_freeOf 45 = .ok (.iload 5, 2) := by decide +kernel
theorem dX4_freeOf_47 : decode cX4_freeOf 47 = .ok (.iload_n 1, 1) := by decide +kernel
theorem dX4_freeOf_48 : decode cX4_freeOf 48 = .ok (.iload_n 2, 1) := by decide +kernel
theorem dX4_freeOf_49 : decode cX4_freeOf 49 = .ok (.invokevirtual 110, 3) := by decide +kernel
theorem dX4_freeOf_52 : decode cX4_freeOf 52 = .ok (.istore 6, 2) := by decide +kernel
theorem dX4_freeOf_54 : decode cX4_freeOf 54 = .ok (.iload 6, 2) := by decide +kernel
theorem dX4_freeOf_56 : decode cX4_freeOf 56 = .ok (.ifCond .le 28, 3) := by decide +kernel
theorem dX4_freeOf_59 : decode cX4_freeOf 59 = .ok (.iload_n 3, 1) := by decide +kernel
theorem dX4_freeOf_60 : decode cX4_freeOf 60 = .ok (.iconst 0, 1) := by decide +kernel
theorem dX4_freeOf_61 : decode cX4_freeOf 61 = .ok (.aload_n 0, 1) := by decide +kernel
theorem dX4_freeOf_62 : decode cX4_freeOf 62 = .ok (.getfield 46, 3) := by decide +kernel
theorem dX4_freeOf_65 : decode cX4_freeOf 65 = .ok (.iload 4, 2) := by decide +kernel
theorem dX4_freeOf_67 : decode cX4_freeOf 67 = .ok (.bipush 24, 2) := by decide +kernel
theorem dX4_freeOf_69 : decode cX4_freeOf 69 = .ok (.imul, 1) := by decide +kernel
theorem dX4_freeOf_70 : decode cX4_freeOf 70 = .ok (.iload 5, 2) := by decide +kernel
theorem dX4_freeOf_72 : decode cX4_freeOf 72 = .ok (.iadd, 1) := by decide +kernel
theorem dX4_freeOf_73 : decode cX4_freeOf 73 = .ok (.iaload, 1) := by decide +kernel
theorem dX4_freeOf_74 : decode cX4_freeOf 74 = .ok (.invokestatic 75, 3) := by decide +kernel
theorem dX4_freeOf_77 : decode cX4_freeOf 77 = .ok (.iload 6, 2) := by decide +kernel
theorem dX4_freeOf_79 : decode cX4_freeOf 79 = .ok (.idiv, 1) := by decide +kernel
theorem dX4_freeOf_80 : decode cX4_freeOf 80 = .ok (.invokestatic 117, 3) := by decide +kernel
theorem dX4_freeOf_83 : decode cX4_freeOf 83 = .ok (.istore_n 3, 1) := by decide +kernel
theorem dX4_freeOf_84 : decode cX4_freeOf 84 = .ok (.iinc 5 1, 3) := by decide +kernel
theorem dX4_freeOf_87 : decode cX4_freeOf 87 = .ok (.goto (-52), 3) := by decide +kernel
theorem dX4_freeOf_90 : decode cX4_freeOf 90 = .ok (.iinc 4 1, 3) := by decide +kernel
theorem dX4_freeOf_93 : decode cX4_freeOf 93 = .ok (.goto (-73), 3) := by decide +kernel
theorem dX4_freeOf_96 : decode cX4_freeOf 96 = .ok (.iload_n 3, 1) := by decide +kernel
theorem dX4_freeOf_97 : decode cX4_freeOf 97 = .ok (.ireturn, 1) := by decide +kernel
theorem dX4_unserve_0 : decode cX4_unserve 0 = .ok (.iconst 0, 1) := by decide +kernel
theorem dX4_unserve_1 : decode cX4_unserve 1 = .ok (.istore_n 2, 1) := by decide +kernel
theorem dX4_unserve_2 : decode cX4_unserve 2 = .ok (.iload_n 2, 1) := by decide +kernel
theorem dX4_unserve_3 : decode cX4_unserve 3 = .ok (.aload_n 0, 1) := by decide +kernel
theorem dX4_unserve_4 : decode cX4_unserve 4 = .ok (.getfield 28, 3) := by decide +kernel
theorem dX4_unserve_7 : decode cX4_unserve 7 = .ok (.getfield 120, 3) := by decide +kernel
theorem dX4_unserve_10 : decode cX4_unserve 10 = .ok (.if_icmp .ge 48, 3) := by decide +kernel
theorem dX4_unserve_13 : decode cX4_unserve 13 = .ok (.aload_n 0, 1) := by decide +kernel
theorem dX4_unserve_14 : decode cX4_unserve 14 = .ok (.getfield 28, 3) := by decide +kernel
theorem dX4_unserve_17 : decode cX4_unserve 17 = .ok (.getfield 121, 3) := by decide +kernel
theorem dX4_unserve_20 : decode cX4_unserve 20 = .ok (.iload_n 2, 1) := by decide +kernel
theorem dX4_unserve_21 : decode cX4_unserve 21 = .ok (.iconst (-1), 1) := by decide +kernel
theorem dX4_unserve_22 : decode cX4_unserve 22 = .ok (.iastore, 1) := by decide +kernel
theorem dX4_unserve_23 : decode cX4_unserve 23 = .ok (.iload_n 1, 1) := by decide +kernel
theorem dX4_unserve_24 : decode cX4_unserve 24 = .ok (.istore_n 3, 1) := by decide +kernel
theorem dX4_unserve_25 : decode cX4_unserve 25 = .ok (.iload_n 3, 1) := by decide +kernel
theorem dX4_unserve_26 : decode cX4_unserve 26 = .ok (.bipush 24, 2) := by decide +kernel
theorem dX4_unserve_28 : decode cX4_unserve 28 = .ok (.if_icmp .ge 24, 3) := by decide +kernel
theorem dX4_unserve_31 : decode cX4_unserve 31 = .ok (.aload_n 0, 1) := by decide +kernel
theorem dX4_unserve_32 : decode cX4_unserve 32 = .ok (.aload_n 0, 1) := by decide +kernel
theorem dX4_unserve_33 : decode cX4_unserve 33 = .ok (.getfield 28, 3) := by decide +kernel
theorem dX4_unserve_36 : decode cX4_unserve 36 = .ok (.getfield 124, 3) := by decide +kernel
theorem dX4_unserve_39 : decode cX4_unserve 39 = .ok (.iload_n 2, 1) := by decide +kernel
theorem dX4_unserve_40 : decode cX4_unserve 40 = .ok (.iaload, 1) := by decide +kernel
theorem dX4_unserve_41 : decode cX4_unserve 41 = .ok (.iload_n 3, 1) := by decide +kernel
theorem dX4_unserve_42 : decode cX4_unserve 42 = .ok (.iconst 0, 1) := by decide +kernel
theorem dX4_unserve_43 : decode cX4_unserve 43 = .ok (.invokevirtual 126, 3) := by decide +kernel
theorem dX4_unserve_46 : decode cX4_unserve 46 = .ok (.iinc 3 1, 3) := by decide +kernel
theorem dX4_unserve_49 : decode cX4_unserve 49 = .ok (.goto (-24), 3) := by decide +kernel
theorem dX4_unserve_52 : decode cX4_unserve 52 = .ok (.iinc 2 1, 3) := by decide +kernel
theorem dX4_unserve_55 : decode cX4_unserve 55 = .ok (.goto (-53), 3) := by decide +kernel
theorem dX4_unserve_58 : decode cX4_unserve 58 = .ok (.return_, 1) := by decide +kernel
theorem dX4_grant_0 : decode cX4_grant 0 = .ok (.aload_n 0, 1) := by decide +kernel
theorem dX4_grant_1 : decode cX4_grant 1 = .ok (.getfield 28, 3) := by decide +kernel
theorem dX4_grant_4 : decode cX4_grant 4 = .ok (.getfield 124, 3) := by decide +kernel
theorem dX4_grant_7 : decode cX4_grant 7 = .ok (.iload_n 1, 1) := by decide +kernel
theorem dX4_grant_8 : decode cX4_grant 8 = .ok (.iaload, 1) := by decide +kernel
theorem dX4_grant_9 : decode cX4_grant 9 = .ok (.istore 4, 2) := by decide +kernel
theorem dX4_grant_11 : decode cX4_grant 11 = .ok (.aload_n 0, 1) := by decide +kernel
theorem dX4_grant_12 : decode cX4_grant 12 = .ok (.getfield 28, 3) := by decide +kernel
theorem dX4_grant_15 : decode cX4_grant 15 = .ok (.getfield 130, 3) := by decide +kernel
theorem dX4_grant_18 : decode cX4_grant 18 = .ok (.iload_n 1, 1) := by decide +kernel
theorem dX4_grant_19 : decode cX4_grant 19 = .ok (.iaload, 1) := by decide +kernel
theorem dX4_grant_20 : decode cX4_grant 20 = .ok (.iload_n 3, 1) := by decide +kernel
theorem dX4_grant_21 : decode cX4_grant 21 = .ok (.invokestatic 117, 3) := by decide +kernel
theorem dX4_grant_24 : decode cX4_grant 24 = .ok (.istore 5, 2) := by decide +kernel
theorem dX4_grant_26 : decode cX4_grant 26 = .ok (.iload 5, 2) := by decide +kernel
theorem dX4_grant_28 : decode cX4_grant 28 = .ok (.aload_n 0, 1) := by decide +kernel
theorem dX4_grant_29 : decode cX4_grant 29 = .ok (.iload 4, 2) := by decide +kernel
theorem dX4_grant_31 : decode cX4_grant 31 = .ok (.iload_n 2, 1) := by decide +kernel
theorem dX4_grant_32 : decode cX4_grant 32 = .ok (.invokevirtual 133, 3) := by decide +kernel
theorem dX4_grant_35 : decode cX4_grant 35 = .ok (.invokestatic 117, 3) := by decide +kernel
theorem dX4_grant_38 : decode cX4_grant 38 = .ok (.istore 5, 2) := by decide +kernel
theorem dX4_grant_40 : decode cX4_grant 40 = .ok (.iload_n 2, 1) := by decide +kernel
theorem dX4_grant_41 : decode cX4_grant 41 = .ok (.istore 6, 2) := by decide +kernel
theorem dX4_grant_43 : decode cX4_grant 43 = .ok (.iload 6, 2) := by decide +kernel
theorem dX4_grant_45 : decode cX4_grant 45 = .ok (.bipush 24, 2) := by decide +kernel
theorem dX4_grant_47 : decode cX4_grant 47 = .ok (.if_icmp .ge 42, 3) := by decide +kernel
theorem dX4_grant_50 : decode cX4_grant 50 = .ok (.aload_n 0, 1) := by decide +kernel
theorem dX4_grant_51 : decode cX4_grant 51 = .ok (.getfield 12, 3) := by decide +kernel
theorem dX4_grant_54 : decode cX4_grant 54 = .ok (.iload 4, 2) := by decide +kernel
theorem dX4_grant_56 : decode cX4_grant 56 = .ok (.iload 6, 2) := by decide +kernel
theorem dX4_grant_58 : decode cX4_grant 58 = .ok (.invokevirtual 53, 3) := by decide +kernel
theorem dX4_grant_61 : decode cX4_grant 61 = .ok (.ifCond .eq 22, 3) := by decide +kernel
theorem dX4_grant_64 : decode cX4_grant 64 = .ok (.aload_n 0, 1) := by decide +kernel
theorem dX4_grant_65 : decode cX4_grant 65 = .ok (.iload 4, 2) := by decide +kernel
theorem dX4_grant_67 : decode cX4_grant 67 = .ok (.iload 6, 2) := by decide +kernel
theorem dX4_grant_69 : decode cX4_grant 69 = .ok (.aload_n 0, 1) := by decide +kernel
theorem dX4_grant_70 : decode cX4_grant 70 = .ok (.iload 4, 2) := by decide +kernel
theorem dX4_grant_72 : decode cX4_grant 72 = .ok (.iload 6, 2) := by decide +kernel
theorem dX4_grant_74 : decode cX4_grant 74 = .ok (.invokevirtual 49, 3) := by decide +kernel
theorem dX4_grant_77 : decode cX4_grant 77 = .ok (.iload 5, 2) := by decide +kernel
theorem dX4_grant_79 : decode cX4_grant 79 = .ok (.iadd, 1) := by decide +kernel
theorem dX4_grant_80 : decode cX4_grant 80 = .ok (.invokevirtual 126, 3) := by decide +kernel
theorem dX4_grant_83 : decode cX4_grant 83 = .ok (.iinc 6 1, 3) := by decide +kernel
theorem dX4_grant_86 : decode cX4_grant 86 = .ok (.goto (-43), 3) := by decide +kernel
theorem dX4_grant_89 : decode cX4_grant 89 = .ok (.aload_n 0, 1) := by decide +kernel
theorem dX4_grant_90 : decode cX4_grant 90 = .ok (.iload 4, 2) := by decide +kernel
theorem dX4_grant_92 : decode cX4_grant 92 = .ok (.iload_n 2, 1) := by decide +kernel
theorem dX4_grant_93 : decode cX4_grant 93 = .ok (.iload 5, 2) := by decide +kernel
theorem dX4_grant_95 : decode cX4_grant 95 = .ok (.invokevirtual 136, 3) := by decide +kernel
theorem dX4_grant_98 : decode cX4_grant 98 = .ok (.aload_n 0, 1) := by decide +kernel
theorem dX4_grant_99 : decode cX4_grant 99 = .ok (.getfield 28, 3) := by decide +kernel
theorem dX4_grant_102 : decode cX4_grant 102 = .ok (.getfield 121, 3) := by decide +kernel
theorem dX4_grant_105 : decode cX4_grant 105 = .ok (.iload_n 1, 1) := by decide +kernel
theorem dX4_grant_106 : decode cX4_grant 106 = .ok (.iload 5, 2) := by decide +kernel
theorem dX4_grant_108 : decode cX4_grant 108 = .ok (.iastore, 1) := by decide +kernel
theorem dX4_grant_109 : decode cX4_grant 109 = .ok (.iload 5, 2) := by decide +kernel
theorem dX4_grant_111 : decode cX4_grant 111 = .ok (.ireturn, 1) := by decide +kernel
theorem dX4_roomForDraws_0 : decode cX4_roomForDraws 0 = .ok (.sipush 1000, 3) := by decide +kernel
theorem dX4_roomForDraws_3 : decode cX4_roomForDraws 3 = .ok (.istore_n 3, 1) := by decide +kernel
theorem dX4_roomForDraws_4 : decode cX4_roomForDraws 4 = .ok (.iload_n 2, 1) := by decide +kernel
theorem dX4_roomForDraws_5 : decode cX4_roomForDraws 5 = .ok (.istore 4, 2) := by decide +kernel
theorem dX4_roomForDraws_7 : decode cX4_roomForDraws 7 = .ok (.iload 4, 2) := by decide +kernel
theorem dX4_roomForDraws_9 : decode cX4_roomForDraws 9 = .ok (.bipush 24, 2) := by decide +kernel
theorem dX4_roomForDraws_11 : decode cX4_roomForDraws 11 = .ok (.if_icmp .ge 38, 3) := by decide +kernel
theorem dX4_roomForDraws_14 : decode cX4_roomForDraws 14 = .ok (.aload_n 0, 1) := by decide +kernel
theorem dX4_roomForDraws_15 : decode cX4_roomForDraws 15 = .ok (.getfield 12, 3) := by decide +kernel
theorem dX4_roomForDraws_18 : decode cX4_roomForDraws 18 = .ok (.iload_n 1, 1) := by decide +kernel
theorem dX4_roomForDraws_19 : decode cX4_roomForDraws 19 = .ok (.iload 4, 2) := by decide +kernel
theorem dX4_roomForDraws_21 : decode cX4_roomForDraws 21 = .ok (.invokevirtual 53, 3) := by decide +kernel
theorem dX4_roomForDraws_24 : decode cX4_roomForDraws 24 = .ok (.ifCond .eq 19, 3) := by decide +kernel
theorem dX4_roomForDraws_27 : decode cX4_roomForDraws 27 = .ok (.iload_n 3, 1) := by decide +kernel
theorem dX4_roomForDraws_28 : decode cX4_roomForDraws 28 = .ok (.sipush 1000, 3) := by decide +kernel
theorem dX4_roomForDraws_31 : decode cX4_roomForDraws 31 = .ok (.aload_n 0, 1) := by decide +kernel
theorem dX4_roomForDraws_32 : decode cX4_roomForDraws 32 = .ok (.iload_n 1, 1) := by decide +kernel
theorem dX4_roomForDraws_33 : decode cX4_roomForDraws 33 = .ok (.iload 4, 2) := by decide +kernel
theorem dX4_roomForDraws_35 : decode cX4_roomForDraws 35 = .ok (.invokevirtual 49, 3) := by decide +kernel
theorem dX4_roomForDraws_38 : decode cX4_roomForDraws 38 = .ok (.isub, 1) := by decide +kernel
theorem dX4_roomForDraws_39 : decode cX4_roomForDraws 39 = .ok (.invokestatic 117, 3) := by decide +kernel
theorem dX4_roomForDraws_42 : decode cX4_roomForDraws 42 = .ok (.istore_n 3, 1) := by decide +kernel
theorem dX4_roomForDraws_43 : decode cX4_roomForDraws 43 = .ok (.iinc 4 1, 3) := by decide +kernel
theorem dX4_roomForDraws_46 : decode cX4_roomForDraws 46 = .ok (.goto (-39), 3) := by decide +kernel
theorem dX4_roomForDraws_49 : decode cX4_roomForDraws 49 = .ok (.iload_n 3, 1) := by decide +kernel
theorem dX4_roomForDraws_50 : decode cX4_roomForDraws 50 = .ok (.ireturn, 1) := by decide +kernel
theorem dX4_leastToHold_0 : decode cX4_leastToHold 0 = .ok (.aload_n 0, 1) := by decide +kernel
theorem dX4_leastToHold_1 : decode cX4_leastToHold 1 = .ok (.getfield 21, 3) := by decide +kernel
theorem dX4_leastToHold_4 : decode cX4_leastToHold 4 = .ok (.getfield 80, 3) := by decide +kernel
theorem dX4_leastToHold_7 : decode cX4_leastToHold 7 = .ok (.aload_n 0, 1) := by decide +kernel
theorem dX4_leastToHold_8 : decode cX4_leastToHold 8 = .ok (.iload_n 1, 1) := by decide +kernel
theorem dX4_leastToHold_9 : decode cX4_leastToHold 9 = .ok (.iload_n 1, 1) := by decide +kernel
theorem dX4_leastToHold_10 : decode cX4_leastToHold 10 = .ok (.invokevirtual 72, 3) := by decide +kernel
theorem dX4_leastToHold_13 : decode cX4_leastToHold 13 = .ok (.iaload, 1) := by decide +kernel
theorem dX4_leastToHold_14 : decode cX4_leastToHold 14 = .ok (.istore 4, 2) := by decide +kernel
theorem dX4_leastToHold_16 : decode cX4_leastToHold 16 = .ok (.iload_n 3, 1) := by decide +kernel
theorem dX4_leastToHold_17 : decode cX4_leastToHold 17 = .ok (.aload_n 0, 1) := by decide +kernel
theorem dX4_leastToHold_18 : decode cX4_leastToHold 18 = .ok (.iload_n 1, 1) := by decide +kernel
theorem dX4_leastToHold_19 : decode cX4_leastToHold 19 = .ok (.iload_n 2, 1) := by decide +kernel
theorem dX4_leastToHold_20 : decode cX4_leastToHold 20 = .ok (.invokevirtual 101, 3) := by decide +kernel
theorem dX4_leastToHold_23 : decode cX4_leastToHold 23 = .ok (.aload_n 0, 1) := by decide +kernel
theorem dX4_leastToHold_24 : decode cX4_leastToHold 24 = .ok (.iload_n 1, 1) := by decide +kernel
theorem dX4_leastToHold_25 : decode cX4_leastToHold 25 = .ok (.iload_n 2, 1) := by decide +kernel
theorem dX4_leastToHold_26 : decode cX4_leastToHold 26 = .ok (.invokevirtual 49, 3) := by decide +kernel
theorem dX4_leastToHold_29 : decode cX4_leastToHold 29 = .ok (.iload 4, 2) := by decide +kernel
theorem dX4_leastToHold_31 : decode cX4_leastToHold 31 = .ok (.imul, 1) := by decide +kernel
theorem dX4_leastToHold_32 : decode cX4_leastToHold 32 = .ok (.isub, 1) := by decide +kernel
theorem dX4_leastToHold_33 : decode cX4_leastToHold 33 = .ok (.isub, 1) := by decide +kernel
theorem dX4_leastToHold_34 : decode cX4_leastToHold 34 = .ok (.istore 5, 2) := by decide +kernel
theorem dX4_leastToHold_36 : decode cX4_leastToHold 36 = .ok (.iload 5, 2) := by decide +kernel
theorem dX4_leastToHold_38 : decode cX4_leastToHold 38 = .ok (.ifCond .gt 5, 3) := by decide +kernel
theorem dX4_leastToHold_41 : decode cX4_leastToHold 41 = .ok (.iconst 0, 1) := by decide +kernel
theorem dX4_leastToHold_42 : decode cX4_leastToHold 42 = .ok (.ireturn, 1) := by decide +kernel
theorem dX4_leastToHold_43 : decode cX4_leastToHold 43 = .ok (.iload 4, 2) := by decide +kernel
theorem dX4_leastToHold_45 : decode cX4_leastToHold 45 = .ok (.ifCond .le 16, 3) := by decide +kernel
theorem dX4_leastToHold_48 : decode cX4_leastToHold 48 = .ok (.iload 5, 2) := by decide +kernel
theorem dX4_leastToHold_50 : decode cX4_leastToHold 50 = .ok (.iload 4, 2) := by decide +kernel
theorem dX4_leastToHold_52 : decode cX4_leastToHold 52 = .ok (.iadd, 1) := by decide +kernel
theorem dX4_leastToHold_53 : decode cX4_leastToHold 53 = .ok (.iconst 1, 1) := by decide +kernel
theorem dX4_leastToHold_54 : decode cX4_leastToHold 54 = .ok (.isub, 1) := by decide +kernel
theorem dX4_leastToHold_55 : decode cX4_leastToHold 55 = .ok (.iload 4, 2) := by decide +kernel
theorem dX4_leastToHold_57 : decode cX4_leastToHold 57 = .ok (.idiv, 1) := by decide +kernel
theorem dX4_leastToHold_58 : decode cX4_leastToHold 58 = .ok (.goto 6, 3) := by decide +kernel
theorem dX4_leastToHold_61 : decode cX4_leastToHold 61 = .ok (.sipush 1001, 3) := by decide +kernel
theorem dX4_leastToHold_64 : decode cX4_leastToHold 64 = .ok (.ireturn, 1) := by decide +kernel
theorem dX4_mostToMove_0 : decode cX4_mostToMove 0 = .ok (.aload_n 0, 1) := by decide +kernel
theorem dX4_mostToMove_1 : decode cX4_mostToMove 1 = .ok (.getfield 12, 3) := by decide +kernel
theorem dX4_mostToMove_4 : decode cX4_mostToMove 4 = .ok (.iload_n 1, 1) := by decide +kernel
theorem dX4_mostToMove_5 : decode cX4_mostToMove 5 = .ok (.iload_n 2, 1) := by decide +kernel
theorem dX4_mostToMove_6 : decode cX4_mostToMove 6 = .ok (.invokevirtual 53, 3) := by decide +kernel
theorem dX4_mostToMove_9 : decode cX4_mostToMove 9 = .ok (.ifCond .ne 7, 3) := by decide +kernel
theorem dX4_mostToMove_12 : decode cX4_mostToMove 12 = .ok (.sipush 1000, 3) := by decide +kernel
theorem dX4_mostToMove_15 : decode cX4_mostToMove 15 = .ok (.ireturn, 1) := by decide +kernel
theorem dX4_mostToMove_16 : decode cX4_mostToMove 16 = .ok (.sipush 1000, 3) := by decide +kernel
theorem dX4_mostToMove_19 : decode cX4_mostToMove 19 = .ok (.istore 4, 2) := by decide +kernel
theorem dX4_mostToMove_21 : decode cX4_mostToMove 21 = .ok (.aload_n 0, 1) := by decide +kernel
theorem dX4_mostToMove_22 : decode cX4_mostToMove 22 = .ok (.iload_n 3, 1) := by decide +kernel
theorem dX4_mostToMove_23 : decode cX4_mostToMove 23 = .ok (.iload_n 2, 1) := by decide +kernel
theorem dX4_mostToMove_24 : decode cX4_mostToMove 24 = .ok (.invokevirtual 139, 3) := by decide +kernel
theorem dX4_mostToMove_27 : decode cX4_mostToMove 27 = .ok (.istore 5, 2) := by decide +kernel
theorem dX4_mostToMove_29 : decode cX4_mostToMove 29 = .ok (.iconst 0, 1) := by decide +kernel
theorem dX4_mostToMove_30 : decode cX4_mostToMove 30 = .ok (.istore 6, 2) := by decide +kernel
theorem dX4_mostToMove_32 : decode cX4_mostToMove 32 = .ok (.iload 6, 2) := by decide +kernel
theorem dX4_mostToMove_34 : decode cX4_mostToMove 34 = .ok (.aload_n 0, 1) := by decide +kernel
theorem dX4_mostToMove_35 : decode cX4_mostToMove 35 = .ok (.getfield 12, 3) := by decide +kernel
theorem dX4_mostToMove_38 : decode cX4_mostToMove 38 = .ok (.getfield 93, 3) := by decide +kernel
theorem dX4_mostToMove_41 : decode cX4_mostToMove 41 = .ok (.if_icmp .ge 109, 3) := by decide +kernel
theorem dX4_mostToMove_44 : decode cX4_mostToMove 44 = .ok (.aload_n 0, 1) := by decide +kernel
theorem dX4_mostToMove_45 : decode cX4_mostToMove 45 = .ok (.iload 6, 2) := by decide +kernel
theorem dX4_mostToMove_47 : decode cX4_mostToMove 47 = .ok (.iload_n 1, 1) := by decide +kernel
theorem dX4_mostToMove_48 : decode cX4_mostToMove 48 = .ok (.invokevirtual 72, 3) := by decide +kernel
theorem dX4_mostToMove_51 : decode cX4_mostToMove 51 = .ok (.istore 7, 2) := by decide +kernel
theorem dX4_mostToMove_53 : decode cX4_mostToMove 53 = .ok (.aload_n 0, 1) := by decide +kernel
theorem dX4_mostToMove_54 : decode cX4_mostToMove 54 = .ok (.iload 6, 2) := by decide +kernel
theorem dX4_mostToMove_56 : decode cX4_mostToMove 56 = .ok (.iload_n 3, 1) := by decide +kernel
theorem dX4_mostToMove_57 : decode cX4_mostToMove 57 = .ok (.invokevirtual 72, 3) := by decide +kernel
theorem dX4_mostToMove_60 : decode cX4_mostToMove 60 = .ok (.istore 8, 2) := by decide +kernel
theorem dX4_mostToMove_62 : decode cX4_mostToMove 62 = .ok (.iconst 0, 1) := by decide +kernel
theorem dX4_mostToMove_63 : decode cX4_mostToMove 63 = .ok (.istore 9, 2) := by decide +kernel
theorem dX4_mostToMove_65 : decode cX4_mostToMove 65 = .ok (.iload 9, 2) := by decide +kernel
theorem dX4_mostToMove_67 : decode cX4_mostToMove 67 = .ok (.bipush 12, 2) := by decide +kernel
theorem dX4_mostToMove_69 : decode cX4_mostToMove 69 = .ok (.if_icmp .ge 75, 3) := by decide +kernel
theorem dX4_mostToMove_72 : decode cX4_mostToMove 72 = .ok (.iload_n 2, 1) := by decide +kernel
theorem dX4_mostToMove_73 : decode cX4_mostToMove 73 = .ok (.iload 9, 2) := by decide +kernel
theorem dX4_mostToMove_75 : decode cX4_mostToMove 75 = .ok (.iadd, 1) := by decide +kernel
theorem dX4_mostToMove_76 : decode cX4_mostToMove 76 = .ok (.bipush 24, 2) := by decide +kernel
theorem dX4_mostToMove_78 : decode cX4_mostToMove 78 = .ok (.if_icmp .ge 66, 3) := by decide +kernel
theorem dX4_mostToMove_81 : decode cX4_mostToMove 81 = .ok (.aload_n 0, 1) := by decide +kernel
theorem dX4_mostToMove_82 : decode cX4_mostToMove 82 = .ok (.getfield 21, 3) := by decide +kernel
theorem dX4_mostToMove_85 : decode cX4_mostToMove 85 = .ok (.getfield 80, 3) := by decide +kernel
theorem dX4_mostToMove_88 : decode cX4_mostToMove 88 = .ok (.iload 7, 2) := by decide +kernel
theorem dX4_mostToMove_90 : decode cX4_mostToMove 90 = .ok (.iload 9, 2) := by decide +kernel
theorem dX4_mostToMove_92 : decode cX4_mostToMove 92 = .ok (.iadd, 1) := by decide +kernel
theorem dX4_mostToMove_93 : decode cX4_mostToMove 93 = .ok (.iaload, 1) := by decide +kernel
theorem dX4_mostToMove_94 : decode cX4_mostToMove 94 = .ok (.istore 10, 2) := by decide +kernel
theorem dX4_mostToMove_96 : decode cX4_mostToMove 96 = .ok (.iload 10, 2) := by decide +kernel
theorem dX4_mostToMove_98 : decode cX4_mostToMove 98 = .ok (.ifCond .le 40, 3) := by decide +kernel
theorem dX4_mostToMove_101 : decode cX4_mostToMove 101 = .ok (.iload 5, 2) := by decide +kernel
theorem dX4_mostToMove_103 : decode cX4_mostToMove 103 = .ok (.aload_n 0, 1) := by decide +kernel
theorem dX4_mostToMove_104 : decode cX4_mostToMove 104 = .ok (.getfield 21, 3) := by decide +kernel
theorem dX4_mostToMove_107 : decode cX4_mostToMove 107 = .ok (.getfield 80, 3) := by decide +kernel
theorem dX4_mostToMove_110 : decode cX4_mostToMove 110 = .ok (.iload 8, 2) := by decide +kernel
theorem dX4_mostToMove_112 : decode cX4_mostToMove 112 = .ok (.iload 9, 2) := by decide +kernel
theorem dX4_mostToMove_114 : decode cX4_mostToMove 114 = .ok (.iadd, 1) := by decide +kernel
theorem dX4_mostToMove_115 : decode cX4_mostToMove 115 = .ok (.iaload, 1) := by decide +kernel
theorem dX4_mostToMove_116 : decode cX4_mostToMove 116 = .ok (.imul, 1) := by decide +kernel
theorem dX4_mostToMove_117 : decode cX4_mostToMove 117 = .ok (.iload 10, 2) := by decide +kernel
theorem dX4_mostToMove_119 : decode cX4_mostToMove 119 = .ok (.idiv, 1) := by decide +kernel
theorem dX4_mostToMove_120 : decode cX4_mostToMove 120 = .ok (.istore 11, 2) := by decide +kernel
theorem dX4_mostToMove_122 : decode cX4_mostToMove 122 = .ok (.iload 4, 2) := by decide +kernel
theorem dX4_mostToMove_124 : decode cX4_mostToMove 124 = .ok (.aload_n 0, 1) := by decide +kernel
theorem dX4_mostToMove_125 : decode cX4_mostToMove 125 = .ok (.iload_n 1, 1) := by decide +kernel
theorem dX4_mostToMove_126 : decode cX4_mostToMove 126 = .ok (.iload_n 2, 1) := by decide +kernel
theorem dX4_mostToMove_127 : decode cX4_mostToMove 127 = .ok (.invokevirtual 49, 3) := by decide +kernel
theorem dX4_mostToMove_130 : decode cX4_mostToMove 130 = .ok (.iload 11, 2) := by decide +kernel
theorem dX4_mostToMove_132 : decode cX4_mostToMove 132 = .ok (.iadd, 1) := by decide +kernel
theorem dX4_mostToMove_133 : decode cX4_mostToMove 133 = .ok (.invokestatic 117, 3) := by decide +kernel
theorem dX4_mostToMove_136 : decode cX4_mostToMove 136 = .ok (.istore 4, 2) := by decide +kernel
theorem dX4_mostToMove_138 : decode cX4_mostToMove 138 = .ok (.iinc 9 1, 3) := by decide +kernel
theorem dX4_mostToMove_141 : decode cX4_mostToMove 141 = .ok (.goto (-76), 3) := by decide +kernel
theorem dX4_mostToMove_144 : decode cX4_mostToMove 144 = .ok (.iinc 6 1, 3) := by decide +kernel
theorem dX4_mostToMove_147 : decode cX4_mostToMove 147 = .ok (.goto (-115), 3) := by decide +kernel
theorem dX4_mostToMove_150 : decode cX4_mostToMove 150 = .ok (.iload 4, 2) := by decide +kernel
theorem dX4_mostToMove_152 : decode cX4_mostToMove 152 = .ok (.ireturn, 1) := by decide +kernel
theorem dX4_difference_0 : decode cX4_difference 0 = .ok (.aload_n 0, 1) := by decide +kernel
theorem dX4_difference_1 : decode cX4_difference 1 = .ok (.getfield 35, 3) := by decide +kernel
theorem dX4_difference_4 : decode cX4_difference 4 = .ok (.iload_n 1, 1) := by decide +kernel
theorem dX4_difference_5 : decode cX4_difference 5 = .ok (.iload_n 2, 1) := by decide +kernel
theorem dX4_difference_6 : decode cX4_difference 6 = .ok (.invokevirtual 142, 3) := by decide +kernel
theorem dX4_difference_9 : decode cX4_difference 9 = .ok (.aload_n 0, 1) := by decide +kernel
theorem dX4_difference_10 : decode cX4_difference 10 = .ok (.iload_n 1, 1) := by decide +kernel
theorem dX4_difference_11 : decode cX4_difference 11 = .ok (.iload_n 2, 1) := by decide +kernel
theorem dX4_difference_12 : decode cX4_difference 12 = .ok (.invokevirtual 101, 3) := by decide +kernel
theorem dX4_difference_15 : decode cX4_difference 15 = .ok (.isub, 1) := by decide +kernel
theorem dX4_difference_16 : decode cX4_difference 16 = .ok (.ireturn, 1) := by decide +kernel
theorem dX4_sumOfSquares_0 : decode cX4_sumOfSquares 0 = .ok (.lconst 0, 1) := by decide +kernel
theorem dX4_sumOfSquares_1 : decode cX4_sumOfSquares 1 = .ok (.lstore_n 1, 1) := by decide +kernel
theorem dX4_sumOfSquares_2 : decode cX4_sumOfSquares 2 = .ok (.iconst 0, 1) := by decide +kernel
theorem dX4_sumOfSquares_3 : decode cX4_sumOfSquares 3 = .ok (.istore_n 3, 1) := by decide +kernel
theorem dX4_sumOfSquares_4 : decode cX4_sumOfSquares 4 = .ok (.iload_n 3, 1) := by decide +kernel
theorem dX4_sumOfSquares_5 : decode cX4_sumOfSquares 5 = .ok (.aload_n 0, 1) := by decide +kernel
theorem dX4_sumOfSquares_6 : decode cX4_sumOfSquares 6 = .ok (.getfield 12, 3) := by decide +kernel
theorem dX4_sumOfSquares_9 : decode cX4_sumOfSquares 9 = .ok (.getfield 93, 3) := by decide +kernel
theorem dX4_sumOfSquares_12 : decode cX4_sumOfSquares 12 = .ok (.if_icmp .ge 56, 3) := by decide +kernel
theorem dX4_sumOfSquares_15 : decode cX4_sumOfSquares 15 = .ok (.iconst 0, 1) := by decide +kernel
theorem dX4_sumOfSquares_16 : decode cX4_sumOfSquares 16 = .ok (.istore 4, 2) := by decide +kernel
theorem dX4_sumOfSquares_18 : decode cX4_sumOfSquares 18 = .ok (.iload 4, 2) := by decide +kernel
theorem dX4_sumOfSquares_20 : decode cX4_sumOfSquares 20 = .ok (.bipush 24, 2) := by decide +kernel
theorem dX4_sumOfSquares_22 : decode cX4_sumOfSquares 22 = .ok (.if_icmp .ge 40, 3) := by decide +kernel
theorem dX4_sumOfSquares_25 : decode cX4_sumOfSquares 25 = .ok (.aload_n 0, 1) := by decide +kernel
theorem dX4_sumOfSquares_26 : decode cX4_sumOfSquares 26 = .ok (.getfield 35, 3) := by decide +kernel
theorem dX4_sumOfSquares_29 : decode cX4_sumOfSquares 29 = .ok (.iload_n 3, 1) := by decide +kernel
theorem dX4_sumOfSquares_30 : decode cX4_sumOfSquares 30 = .ok (.iload 4, 2) := by decide +kernel
theorem dX4_sumOfSquares_32 : decode cX4_sumOfSquares 32 = .ok (.invokevirtual 145, 3) := by decide +kernel
theorem dX4_sumOfSquares_35 : decode cX4_sumOfSquares 35 = .ok (.ifCond .eq 21, 3) := by decide +kernel
theorem dX4_sumOfSquares_38 : decode cX4_sumOfSquares 38 = .ok (.aload_n 0, 1) := by decide +kernel
theorem dX4_sumOfSquares_39 : decode cX4_sumOfSquares 39 = .ok (.iload_n 3, 1) := by decide +kernel
theorem dX4_sumOfSquares_40 : decode cX4_sumOfSquares 40 = .ok (.iload 4, 2) := by decide +kernel
theorem dX4_sumOfSquares_42 : decode cX4_sumOfSquares 42 = .ok (.invokevirtual 148, 3) := by decide +kernel
theorem dX4_sumOfSquares_45 : decode cX4_sumOfSquares 45 = .ok (.i2l, 1) := by decide +kernel
theorem dX4_sumOfSquares_46 : decode cX4_sumOfSquares 46 = .ok (.lstore 5, 2) := by decide +kernel
theorem dX4_sumOfSquares_48 : decode cX4_sumOfSquares 48 = .ok (.lload_n 1, 1) := by decide +kernel
theorem dX4_sumOfSquares_49 : decode cX4_sumOfSquares 49 = .ok (.lload 5, 2) := by decide +kernel
theorem dX4_sumOfSquares_51 : decode cX4_sumOfSquares 51 = .ok (.lload 5, 2) := by decide +kernel
theorem dX4_sumOfSquares_53 : decode cX4_sumOfSquares 53 = .ok (.lmul, 1) := by decide +kernel
theorem dX4_sumOfSquares_54 : decode cX4_sumOfSquares 54 = .ok (.ladd, 1) := by decide +kernel
theorem dX4_sumOfSquares_55 : decode cX4_sumOfSquares 55 = .ok (.lstore_n 1, 1) := by decide +kernel
theorem dX4_sumOfSquares_56 : decode cX4_sumOfSquares 56 = .ok (.iinc 4 1, 3) := by decide +kernel
theorem dX4_sumOfSquares_59 : decode cX4_sumOfSquares 59 = .ok (.goto (-41), 3) := by decide +kernel
theorem dX4_sumOfSquares_62 : decode cX4_sumOfSquares 62 = .ok (.iinc 3 1, 3) := by decide +kernel
theorem dX4_sumOfSquares_65 : decode cX4_sumOfSquares 65 = .ok (.goto (-61), 3) := by decide +kernel
theorem dX4_sumOfSquares_68 : decode cX4_sumOfSquares 68 = .ok (.lload_n 1, 1) := by decide +kernel
theorem dX4_sumOfSquares_69 : decode cX4_sumOfSquares 69 = .ok (.lreturn, 1) := by decide +kernel
theorem dX4_take_0 : decode cX4_take 0 = .ok (.aload_n 0, 1) := by decide +kernel
theorem dX4_take_1 : decode cX4_take 1 = .ok (.getfield 12, 3) := by decide +kernel
theorem dX4_take_4 : decode cX4_take 4 = .ok (.aload_n 1, 1) := by decide +kernel
theorem dX4_take_5 : decode cX4_take 5 = .ok (.getfield 12, 3) := by decide +kernel
theorem dX4_take_8 : decode cX4_take 8 = .ok (.invokevirtual 151, 3) := by decide +kernel
theorem dX4_take_11 : decode cX4_take 11 = .ok (.aload_n 0, 1) := by decide +kernel
theorem dX4_take_12 : decode cX4_take 12 = .ok (.getfield 21, 3) := by decide +kernel
theorem dX4_take_15 : decode cX4_take 15 = .ok (.aload_n 1, 1) := by decide +kernel
theorem dX4_take_16 : decode cX4_take 16 = .ok (.getfield 21, 3) := by decide +kernel
theorem dX4_take_19 : decode cX4_take 19 = .ok (.invokevirtual 155, 3) := by decide +kernel
theorem dX4_take_22 : decode cX4_take 22 = .ok (.aload_n 0, 1) := by decide +kernel
theorem dX4_take_23 : decode cX4_take 23 = .ok (.getfield 28, 3) := by decide +kernel
theorem dX4_take_26 : decode cX4_take 26 = .ok (.aload_n 1, 1) := by decide +kernel
theorem dX4_take_27 : decode cX4_take 27 = .ok (.getfield 28, 3) := by decide +kernel
theorem dX4_take_30 : decode cX4_take 30 = .ok (.invokevirtual 158, 3) := by decide +kernel
theorem dX4_take_33 : decode cX4_take 33 = .ok (.aload_n 0, 1) := by decide +kernel
theorem dX4_take_34 : decode cX4_take 34 = .ok (.getfield 35, 3) := by decide +kernel
theorem dX4_take_37 : decode cX4_take 37 = .ok (.aload_n 1, 1) := by decide +kernel
theorem dX4_take_38 : decode cX4_take 38 = .ok (.getfield 35, 3) := by decide +kernel
theorem dX4_take_41 : decode cX4_take 41 = .ok (.invokevirtual 161, 3) := by decide +kernel
theorem dX4_take_44 : decode cX4_take 44 = .ok (.aload_n 1, 1) := by decide +kernel
theorem dX4_take_45 : decode cX4_take 45 = .ok (.getfield 39, 3) := by decide +kernel
theorem dX4_take_48 : decode cX4_take 48 = .ok (.aload_n 0, 1) := by decide +kernel
theorem dX4_take_49 : decode cX4_take 49 = .ok (.getfield 39, 3) := by decide +kernel
theorem dX4_take_52 : decode cX4_take 52 = .ok (.invokestatic 164, 3) := by decide +kernel
theorem dX4_take_55 : decode cX4_take 55 = .ok (.aload_n 1, 1) := by decide +kernel
theorem dX4_take_56 : decode cX4_take 56 = .ok (.getfield 43, 3) := by decide +kernel
theorem dX4_take_59 : decode cX4_take 59 = .ok (.aload_n 0, 1) := by decide +kernel
theorem dX4_take_60 : decode cX4_take 60 = .ok (.getfield 43, 3) := by decide +kernel
theorem dX4_take_63 : decode cX4_take 63 = .ok (.invokestatic 164, 3) := by decide +kernel
theorem dX4_take_66 : decode cX4_take 66 = .ok (.return_, 1) := by decide +kernel
theorem dX5_init_0 : decode cX5_init 0 = .ok (.aload_n 0, 1) := by decide +kernel
theorem dX5_init_1 : decode cX5_init 1 = .ok (.invokespecial 3, 3) := by decide +kernel
theorem dX5_init_4 : decode cX5_init 4 = .ok (.aload_n 0, 1) := by decide +kernel
theorem dX5_init_5 : decode cX5_init 5 = .ok (.iconst 0, 1) := by decide +kernel
theorem dX5_init_6 : decode cX5_init 6 = .ok (.putfield 9, 3) := by decide +kernel
theorem dX5_init_9 : decode cX5_init 9 = .ok (.aload_n 0, 1) := by decide +kernel
theorem dX5_init_10 : decode cX5_init 10 = .ok (.bipush 10, 2) := by decide +kernel
theorem dX5_init_12 : decode cX5_init 12 = .ok (.newarray .int, 2) := by decide +kernel
theorem dX5_init_14 : decode cX5_init 14 = .ok (.putfield 15, 3) := by decide +kernel
theorem dX5_init_17 : decode cX5_init 17 = .ok (.aload_n 0, 1) := by decide +kernel
theorem dX5_init_18 : decode cX5_init 18 = .ok (.bipush 10, 2) := by decide +kernel
theorem dX5_init_20 : decode cX5_init 20 = .ok (.newarray .int, 2) := by decide +kernel
theorem dX5_init_22 : decode cX5_init 22 = .ok (.putfield 19, 3) := by decide +kernel
theorem dX5_init_25 : decode cX5_init 25 = .ok (.aload_n 0, 1) := by decide +kernel
theorem dX5_init_26 : decode cX5_init 26 = .ok (.bipush 10, 2) := by decide +kernel
theorem dX5_init_28 : decode cX5_init 28 = .ok (.newarray .int, 2) := by decide +kernel
theorem dX5_init_30 : decode cX5_init 30 = .ok (.putfield 22, 3) := by decide +kernel
theorem dX5_init_33 : decode cX5_init 33 = .ok (.aload_n 0, 1) := by decide +kernel
theorem dX5_init_34 : decode cX5_init 34 = .ok (.bipush 10, 2) := by decide +kernel
theorem dX5_init_36 : decode cX5_init 36 = .ok (.newarray .int, 2) := by decide +kernel
theorem dX5_init_38 : decode cX5_init 38 = .ok (.putfield 25, 3) := by decide +kernel
theorem dX5_init_41 : decode cX5_init 41 = .ok (.aload_n 0, 1) := by decide +kernel
theorem dX5_init_42 : decode cX5_init 42 = .ok (.bipush 10, 2) := by decide +kernel
theorem dX5_init_44 : decode cX5_init 44 = .ok (.newarray .int, 2) := by decide +kernel
theorem dX5_init_46 : decode cX5_init 46 = .ok (.putfield 28, 3) := by decide +kernel
theorem dX5_init_49 : decode cX5_init 49 = .ok (.return_, 1) := by decide +kernel
theorem dX5_add_0 : decode cX5_add 0 = .ok (.aload_n 0, 1) := by decide +kernel
theorem dX5_add_1 : decode cX5_add 1 = .ok (.getfield 9, 3) := by decide +kernel
theorem dX5_add_4 : decode cX5_add 4 = .ok (.istore 5, 2) := by decide +kernel
theorem dX5_add_6 : decode cX5_add 6 = .ok (.aload_n 0, 1) := by decide +kernel
theorem dX5_add_7 : decode cX5_add 7 = .ok (.getfield 15, 3) := by decide +kernel
theorem dX5_add_10 : decode cX5_add 10 = .ok (.iload 5, 2) := by decide +kernel
theorem dX5_add_12 : decode cX5_add 12 = .ok (.iload_n 1, 1) := by decide +kernel
theorem dX5_add_13 : decode cX5_add 13 = .ok (.iastore, 1) := by decide +kernel
theorem dX5_add_14 : decode cX5_add 14 = .ok (.aload_n 0, 1) := by decide +kernel
theorem dX5_add_15 : decode cX5_add 15 = .ok (.getfield 19, 3) := by decide +kernel
theorem dX5_add_18 : decode cX5_add 18 = .ok (.iload 5, 2) := by decide +kernel
theorem dX5_add_20 : decode cX5_add 20 = .ok (.iload_n 2, 1) := by decide +kernel
theorem dX5_add_21 : decode cX5_add 21 = .ok (.iastore, 1) := by decide +kernel
theorem dX5_add_22 : decode cX5_add 22 = .ok (.aload_n 0, 1) := by decide +kernel
theorem dX5_add_23 : decode cX5_add 23 = .ok (.getfield 22, 3) := by decide +kernel
theorem dX5_add_26 : decode cX5_add 26 = .ok (.iload 5, 2) := by decide +kernel
theorem dX5_add_28 : decode cX5_add 28 = .ok (.iload_n 3, 1) := by decide +kernel
theorem dX5_add_29 : decode cX5_add 29 = .ok (.iastore, 1) := by decide +kernel
theorem dX5_add_30 : decode cX5_add 30 = .ok (.aload_n 0, 1) := by decide +kernel
theorem dX5_add_31 : decode cX5_add 31 = .ok (.getfield 25, 3) := by decide +kernel
theorem dX5_add_34 : decode cX5_add 34 = .ok (.iload 5, 2) := by decide +kernel
theorem dX5_add_36 : decode cX5_add 36 = .ok (.iload 4, 2) := by decide +kernel
theorem dX5_add_38 : decode cX5_add 38 = .ok (.iastore, 1) := by decide +kernel
theorem dX5_add_39 : decode cX5_add 39 = .ok (.aload_n 0, 1) := by decide +kernel
theorem dX5_add_40 : decode cX5_add 40 = .ok (.getfield 28, 3) := by decide +kernel
theorem dX5_add_43 : decode cX5_add 43 = .ok (.iload 5, 2) := by decide +kernel
theorem dX5_add_45 : decode cX5_add 45 = .ok (.ldc 31, 2) := by decide +kernel
theorem dX5_add_47 : decode cX5_add 47 = .ok (.iastore, 1) := by decide +kernel
theorem dX5_add_48 : decode cX5_add 48 = .ok (.aload_n 0, 1) := by decide +kernel
theorem dX5_add_49 : decode cX5_add 49 = .ok (.dup, 1) := by decide +kernel
theorem dX5_add_50 : decode cX5_add 50 = .ok (.getfield 9, 3) := by decide +kernel
theorem dX5_add_53 : decode cX5_add 53 = .ok (.iconst 1, 1) := by decide +kernel
theorem dX5_add_54 : decode cX5_add 54 = .ok (.iadd, 1) := by decide +kernel
theorem dX5_add_55 : decode cX5_add 55 = .ok (.putfield 9, 3) := by decide +kernel
theorem dX5_add_58 : decode cX5_add 58 = .ok (.iload 5, 2) := by decide +kernel
theorem dX5_add_60 : decode cX5_add 60 = .ok (.ireturn, 1) := by decide +kernel
theorem dX5_isOneOf_0 : decode cX5_isOneOf 0 = .ok (.aload_n 0, 1) := by decide +kernel
theorem dX5_isOneOf_1 : decode cX5_isOneOf 1 = .ok (.getfield 15, 3) := by decide +kernel
theorem dX5_isOneOf_4 : decode cX5_isOneOf 4 = .ok (.iload_n 1, 1) := by decide +kernel
theorem dX5_isOneOf_5 : decode cX5_isOneOf 5 = .ok (.iaload, 1) := by decide +kernel
theorem dX5_isOneOf_6 : decode cX5_isOneOf 6 = .ok (.iload_n 2, 1) := by decide +kernel
theorem dX5_isOneOf_7 : decode cX5_isOneOf 7 = .ok (.if_icmp .eq 22, 3) := by decide +kernel
theorem dX5_isOneOf_10 : decode cX5_isOneOf 10 = .ok (.iload_n 2, 1) := by decide +kernel
theorem dX5_isOneOf_11 : decode cX5_isOneOf 11 = .ok (.ifCond .eq 18, 3) := by decide +kernel
theorem dX5_isOneOf_14 : decode cX5_isOneOf 14 = .ok (.iload_n 2, 1) := by decide +kernel
theorem dX5_isOneOf_15 : decode cX5_isOneOf 15 = .ok (.iconst 3, 1) := by decide +kernel
theorem dX5_isOneOf_16 : decode cX5_isOneOf 16 = .ok (.if_icmp .ne 17, 3) := by decide +kernel
theorem dX5_isOneOf_19 : decode cX5_isOneOf 19 = .ok (.aload_n 0, 1) := by decide +kernel
theorem dX5_isOneOf_20 : decode cX5_isOneOf 20 = .ok (.getfield 15, 3) := by decide +kernel
theorem dX5_isOneOf_23 : decode cX5_isOneOf 23 = .ok (.iload_n 1, 1) := by decide +kernel
theorem dX5_isOneOf_24 : decode cX5_isOneOf 24 = .ok (.iaload, 1) := by decide +kernel
theorem dX5_isOneOf_25 : decode cX5_isOneOf 25 = .ok (.iconst 4, 1) := by decide +kernel
theorem dX5_isOneOf_26 : decode cX5_isOneOf 26 = .ok (.if_icmp .ne 7, 3) := by decide +kernel
theorem dX5_isOneOf_29 : decode cX5_isOneOf 29 = .ok (.iconst 1, 1) := by decide +kernel
theorem dX5_isOneOf_30 : decode cX5_isOneOf 30 = .ok (.goto 4, 3) := by decide +kernel
theorem dX5_isOneOf_33 : decode cX5_isOneOf 33 = .ok (.iconst 0, 1) := by decide +kernel
theorem dX5_isOneOf_34 : decode cX5_isOneOf 34 = .ok (.ireturn, 1) := by decide +kernel
theorem dX5_isDrawing_0 : decode cX5_isDrawing 0 = .ok (.getstatic 32, 3) := by decide +kernel
theorem dX5_isDrawing_3 : decode cX5_isDrawing 3 = .ok (.aload_n 0, 1) := by decide +kernel
theorem dX5_isDrawing_4 : decode cX5_isDrawing 4 = .ok (.getfield 15, 3) := by decide +kernel
theorem dX5_isDrawing_7 : decode cX5_isDrawing 7 = .ok (.iload_n 1, 1) := by decide +kernel
theorem dX5_isDrawing_8 : decode cX5_isDrawing 8 = .ok (.iaload, 1) := by decide +kernel
end
section
theorem dX5_isDrawing_9 : decode cX5_isDrawing 9 = .ok (.iaload, 1) := by decide +kernel
theorem dX5_isDrawing_10 : decode cX5_isDrawing 10 = .ok (.ifCond .le 7, 3) := by decide +kernel
theorem dX5_isDrawing_13 : decode cX5_isDrawing 13 = .ok (.iconst 1, 1) := by decide +kernel
theorem dX5_isDrawing_14 : decode cX5_isDrawing 14 = .ok (.goto 4, 3) := by decide +kernel
theorem dX5_isDrawing_17 : decode cX5_isDrawing 17 = .ok (.iconst 0, 1) := by decide +kernel
theorem dX5_isDrawing_18 : decode cX5_isDrawing 18 = .ok (.ireturn, 1) := by decide +kernel
theorem dX5_isOwnMonth_0 : decode cX5_isOwnMonth 0 = .ok (.aload_n 0, 1) := by decide +kernel
theorem dX5_isOwnMonth_1 : decode cX5_isOwnMonth 1 = .ok (.getfield 15, 3) := by decide +kernel
theorem dX5_isOwnMonth_4 : decode cX5_isOwnMonth 4 = .ok (.iload_n 1, 1) := by decide +kernel
theorem dX5_isOwnMonth_5 : decode cX5_isOwnMonth 5 = .ok (.iaload, 1) := by decide +kernel
theorem dX5_isOwnMonth_6 : decode cX5_isOwnMonth 6 = .ok (.iconst 2, 1) := by decide +kernel
theorem dX5_isOwnMonth_7 : decode cX5_isOwnMonth 7 = .ok (.if_icmp .ne 12, 3) := by decide +kernel
theorem dX5_isOwnMonth_10 : decode cX5_isOwnMonth 10 = .ok (.iload_n 1, 1) := by decide +kernel
theorem dX5_isOwnMonth_11 : decode cX5_isOwnMonth 11 = .ok (.iconst 1, 1) := by decide +kernel
theorem dX5_isOwnMonth_12 : decode cX5_isOwnMonth 12 = .ok (.iand, 1) := by decide +kernel
theorem dX5_isOwnMonth_13 : decode cX5_isOwnMonth 13 = .ok (.iload_n 2, 1) := by decide +kernel
theorem dX5_isOwnMonth_14 : decode cX5_isOwnMonth 14 = .ok (.iconst 1, 1) := by decide +kernel
theorem dX5_isOwnMonth_15 : decode cX5_isOwnMonth 15 = .ok (.iand, 1) := by decide +kernel
theorem dX5_isOwnMonth_16 : decode cX5_isOwnMonth 16 = .ok (.if_icmp .ne 7, 3) := by decide +kernel
theorem dX5_isOwnMonth_19 : decode cX5_isOwnMonth 19 = .ok (.iconst 1, 1) := by decide +kernel
theorem dX5_isOwnMonth_20 : decode cX5_isOwnMonth 20 = .ok (.goto 4, 3) := by decide +kernel
theorem dX5_isOwnMonth_23 : decode cX5_isOwnMonth 23 = .ok (.iconst 0, 1) := by decide +kernel
theorem dX5_isOwnMonth_24 : decode cX5_isOwnMonth 24 = .ok (.ireturn, 1) := by decide +kernel
theorem dX5_apart_0 : decode cX5_apart 0 = .ok (.aload_n 0, 1) := by decide +kernel
theorem dX5_apart_1 : decode cX5_apart 1 = .ok (.getfield 19, 3) := by decide +kernel
theorem dX5_apart_4 : decode cX5_apart 4 = .ok (.iload_n 1, 1) := by decide +kernel
theorem dX5_apart_5 : decode cX5_apart 5 = .ok (.iaload, 1) := by decide +kernel
theorem dX5_apart_6 : decode cX5_apart 6 = .ok (.aload_n 0, 1) := by decide +kernel
theorem dX5_apart_7 : decode cX5_apart 7 = .ok (.getfield 19, 3) := by decide +kernel
theorem dX5_apart_10 : decode cX5_apart 10 = .ok (.iload_n 2, 1) := by decide +kernel
theorem dX5_apart_11 : decode cX5_apart 11 = .ok (.iaload, 1) := by decide +kernel
theorem dX5_apart_12 : decode cX5_apart 12 = .ok (.isub, 1) := by decide +kernel
theorem dX5_apart_13 : decode cX5_apart 13 = .ok (.invokestatic 35, 3) := by decide +kernel
theorem dX5_apart_16 : decode cX5_apart 16 = .ok (.aload_n 0, 1) := by decide +kernel
theorem dX5_apart_17 : decode cX5_apart 17 = .ok (.getfield 22, 3) := by decide +kernel
theorem dX5_apart_20 : decode cX5_apart 20 = .ok (.iload_n 1, 1) := by decide +kernel
theorem dX5_apart_21 : decode cX5_apart 21 = .ok (.iaload, 1) := by decide +kernel
theorem dX5_apart_22 : decode cX5_apart 22 = .ok (.aload_n 0, 1) := by decide +kernel
theorem dX5_apart_23 : decode cX5_apart 23 = .ok (.getfield 22, 3) := by decide +kernel
theorem dX5_apart_26 : decode cX5_apart 26 = .ok (.iload_n 2, 1) := by decide +kernel
theorem dX5_apart_27 : decode cX5_apart 27 = .ok (.iaload, 1) := by decide +kernel
theorem dX5_apart_28 : decode cX5_apart 28 = .ok (.isub, 1) := by decide +kernel
theorem dX5_apart_29 : decode cX5_apart 29 = .ok (.invokestatic 35, 3) := by decide +kernel
theorem dX5_apart_32 : decode cX5_apart 32 = .ok (.invokestatic 41, 3) := by decide +kernel
theorem dX5_apart_35 : decode cX5_apart 35 = .ok (.istore_n 3, 1) := by decide +kernel
theorem dX5_apart_36 : decode cX5_apart 36 = .ok (.iload_n 3, 1) := by decide +kernel
theorem dX5_apart_37 : decode cX5_apart 37 = .ok (.bipush 9, 2) := by decide +kernel
theorem dX5_apart_39 : decode cX5_apart 39 = .ok (.invokestatic 45, 3) := by decide +kernel
theorem dX5_apart_42 : decode cX5_apart 42 = .ok (.ireturn, 1) := by decide +kernel
theorem dX5_layer_0 : decode cX5_layer 0 = .ok (.aload_n 0, 1) := by decide +kernel
theorem dX5_layer_1 : decode cX5_layer 1 = .ok (.getfield 15, 3) := by decide +kernel
theorem dX5_layer_4 : decode cX5_layer 4 = .ok (.iload_n 1, 1) := by decide +kernel
theorem dX5_layer_5 : decode cX5_layer 5 = .ok (.iaload, 1) := by decide +kernel
theorem dX5_layer_6 : decode cX5_layer 6 = .ok (.iconst 1, 1) := by decide +kernel
theorem dX5_layer_7 : decode cX5_layer 7 = .ok (.if_icmp .ne 7, 3) := by decide +kernel
theorem dX5_layer_10 : decode cX5_layer 10 = .ok (.iconst 1, 1) := by decide +kernel
theorem dX5_layer_11 : decode cX5_layer 11 = .ok (.goto 4, 3) := by decide +kernel
theorem dX5_layer_14 : decode cX5_layer 14 = .ok (.iconst 0, 1) := by decide +kernel
theorem dX5_layer_15 : decode cX5_layer 15 = .ok (.aload_n 0, 1) := by decide +kernel
theorem dX5_layer_16 : decode cX5_layer 16 = .ok (.getfield 15, 3) := by decide +kernel
theorem dX5_layer_19 : decode cX5_layer 19 = .ok (.iload_n 2, 1) := by decide +kernel
theorem dX5_layer_20 : decode cX5_layer 20 = .ok (.iaload, 1) := by decide +kernel
theorem dX5_layer_21 : decode cX5_layer 21 = .ok (.iconst 1, 1) := by decide +kernel
theorem dX5_layer_22 : decode cX5_layer 22 = .ok (.if_icmp .ne 7, 3) := by decide +kernel
theorem dX5_layer_25 : decode cX5_layer 25 = .ok (.iconst 1, 1) := by decide +kernel
theorem dX5_layer_26 : decode cX5_layer 26 = .ok (.goto 4, 3) := by decide +kernel
theorem dX5_layer_29 : decode cX5_layer 29 = .ok (.iconst 0, 1) := by decide +kernel
theorem dX5_layer_30 : decode cX5_layer 30 = .ok (.if_icmp .eq 7, 3) := by decide +kernel
theorem dX5_layer_33 : decode cX5_layer 33 = .ok (.iconst 1, 1) := by decide +kernel
theorem dX5_layer_34 : decode cX5_layer 34 = .ok (.goto 4, 3) := by decide +kernel
theorem dX5_layer_37 : decode cX5_layer 37 = .ok (.iconst 0, 1) := by decide +kernel
theorem dX5_layer_38 : decode cX5_layer 38 = .ok (.ireturn, 1) := by decide +kernel
theorem dX5_take_0 : decode cX5_take 0 = .ok (.aload_n 0, 1) := by decide +kernel
theorem dX5_take_1 : decode cX5_take 1 = .ok (.aload_n 1, 1) := by decide +kernel
theorem dX5_take_2 : decode cX5_take 2 = .ok (.getfield 9, 3) := by decide +kernel
theorem dX5_take_5 : decode cX5_take 5 = .ok (.putfield 9, 3) := by decide +kernel
theorem dX5_take_8 : decode cX5_take 8 = .ok (.aload_n 1, 1) := by decide +kernel
theorem dX5_take_9 : decode cX5_take 9 = .ok (.getfield 15, 3) := by decide +kernel
theorem dX5_take_12 : decode cX5_take 12 = .ok (.aload_n 0, 1) := by decide +kernel
theorem dX5_take_13 : decode cX5_take 13 = .ok (.getfield 15, 3) := by decide +kernel
theorem dX5_take_16 : decode cX5_take 16 = .ok (.invokestatic 48, 3) := by decide +kernel
theorem dX5_take_19 : decode cX5_take 19 = .ok (.aload_n 1, 1) := by decide +kernel
theorem dX5_take_20 : decode cX5_take 20 = .ok (.getfield 19, 3) := by decide +kernel
theorem dX5_take_23 : decode cX5_take 23 = .ok (.aload_n 0, 1) := by decide +kernel
theorem dX5_take_24 : decode cX5_take 24 = .ok (.getfield 19, 3) := by decide +kernel
theorem dX5_take_27 : decode cX5_take 27 = .ok (.invokestatic 48, 3) := by decide +kernel
theorem dX5_take_30 : decode cX5_take 30 = .ok (.aload_n 1, 1) := by decide +kernel
theorem dX5_take_31 : decode cX5_take 31 = .ok (.getfield 22, 3) := by decide +kernel
theorem dX5_take_34 : decode cX5_take 34 = .ok (.aload_n 0, 1) := by decide +kernel
theorem dX5_take_35 : decode cX5_take 35 = .ok (.getfield 22, 3) := by decide +kernel
theorem dX5_take_38 : decode cX5_take 38 = .ok (.invokestatic 48, 3) := by decide +kernel
theorem dX5_take_41 : decode cX5_take 41 = .ok (.aload_n 1, 1) := by decide +kernel
theorem dX5_take_42 : decode cX5_take 42 = .ok (.getfield 25, 3) := by decide +kernel
theorem dX5_take_45 : decode cX5_take 45 = .ok (.aload_n 0, 1) := by decide +kernel
theorem dX5_take_46 : decode cX5_take 46 = .ok (.getfield 25, 3) := by decide +kernel
theorem dX5_take_49 : decode cX5_take 49 = .ok (.invokestatic 48, 3) := by decide +kernel
theorem dX5_take_52 : decode cX5_take 52 = .ok (.aload_n 1, 1) := by decide +kernel
theorem dX5_take_53 : decode cX5_take 53 = .ok (.getfield 28, 3) := by decide +kernel
theorem dX5_take_56 : decode cX5_take 56 = .ok (.aload_n 0, 1) := by decide +kernel
theorem dX5_take_57 : decode cX5_take 57 = .ok (.getfield 28, 3) := by decide +kernel
theorem dX5_take_60 : decode cX5_take 60 = .ok (.invokestatic 48, 3) := by decide +kernel
theorem dX5_take_63 : decode cX5_take 63 = .ok (.return_, 1) := by decide +kernel
theorem dX6_init_0 : decode cX6_init 0 = .ok (.aload_n 0, 1) := by decide +kernel
theorem dX6_init_1 : decode cX6_init 1 = .ok (.invokespecial 1, 3) := by decide +kernel
theorem dX6_init_4 : decode cX6_init 4 = .ok (.aload_n 0, 1) := by decide +kernel
theorem dX6_init_5 : decode cX6_init 5 = .ok (.new 7, 3) := by decide +kernel
theorem dX6_init_8 : decode cX6_init 8 = .ok (.dup, 1) := by decide +kernel
theorem dX6_init_9 : decode cX6_init 9 = .ok (.invokespecial 9, 3) := by decide +kernel
theorem dX6_init_12 : decode cX6_init 12 = .ok (.putfield 10, 3) := by decide +kernel
theorem dX6_init_15 : decode cX6_init 15 = .ok (.aload_n 0, 1) := by decide +kernel
theorem dX6_init_16 : decode cX6_init 16 = .ok (.new 7, 3) := by decide +kernel
theorem dX6_init_19 : decode cX6_init 19 = .ok (.dup, 1) := by decide +kernel
theorem dX6_init_20 : decode cX6_init 20 = .ok (.invokespecial 9, 3) := by decide +kernel
theorem dX6_init_23 : decode cX6_init 23 = .ok (.putfield 16, 3) := by decide +kernel
theorem dX6_init_26 : decode cX6_init 26 = .ok (.aload_n 0, 1) := by decide +kernel
theorem dX6_init_27 : decode cX6_init 27 = .ok (.iconst 0, 1) := by decide +kernel
theorem dX6_init_28 : decode cX6_init 28 = .ok (.putfield 19, 3) := by decide +kernel
theorem dX6_init_31 : decode cX6_init 31 = .ok (.aload_n 0, 1) := by decide +kernel
theorem dX6_init_32 : decode cX6_init 32 = .ok (.iconst 4, 1) := by decide +kernel
theorem dX6_init_33 : decode cX6_init 33 = .ok (.anewarray 23, 3) := by decide +kernel
theorem dX6_init_36 : decode cX6_init 36 = .ok (.dup, 1) := by decide +kernel
theorem dX6_init_37 : decode cX6_init 37 = .ok (.iconst 0, 1) := by decide +kernel
theorem dX6_init_38 : decode cX6_init 38 = .ok (.new 23, 3) := by decide +kernel
theorem dX6_init_41 : decode cX6_init 41 = .ok (.dup, 1) := by decide +kernel
theorem dX6_init_42 : decode cX6_init 42 = .ok (.invokespecial 25, 3) := by decide +kernel
theorem dX6_init_45 : decode cX6_init 45 = .ok (.aastore, 1) := by decide +kernel
theorem dX6_init_46 : decode cX6_init 46 = .ok (.dup, 1) := by decide +kernel
theorem dX6_init_47 : decode cX6_init 47 = .ok (.iconst 1, 1) := by decide +kernel
theorem dX6_init_48 : decode cX6_init 48 = .ok (.new 23, 3) := by decide +kernel
theorem dX6_init_51 : decode cX6_init 51 = .ok (.dup, 1) := by decide +kernel
theorem dX6_init_52 : decode cX6_init 52 = .ok (.invokespecial 25, 3) := by decide +kernel
theorem dX6_init_55 : decode cX6_init 55 = .ok (.aastore, 1) := by decide +kernel
theorem dX6_init_56 : decode cX6_init 56 = .ok (.dup, 1) := by decide +kernel
theorem dX6_init_57 : decode cX6_init 57 = .ok (.iconst 2, 1) := by decide +kernel
theorem dX6_init_58 : decode cX6_init 58 = .ok (.new 23, 3) := by decide +kernel
theorem dX6_init_61 : decode cX6_init 61 = .ok (.dup, 1) := by decide +kernel
theorem dX6_init_62 : decode cX6_init 62 = .ok (.invokespecial 25, 3) := by decide +kernel
theorem dX6_init_65 : decode cX6_init 65 = .ok (.aastore, 1) := by decide +kernel
theorem dX6_init_66 : decode cX6_init 66 = .ok (.dup, 1) := by decide +kernel
theorem dX6_init_67 : decode cX6_init 67 = .ok (.iconst 3, 1) := by decide +kernel
theorem dX6_init_68 : decode cX6_init 68 = .ok (.new 23, 3) := by decide +kernel
theorem dX6_init_71 : decode cX6_init 71 = .ok (.dup, 1) := by decide +kernel
theorem dX6_init_72 : decode cX6_init 72 = .ok (.invokespecial 25, 3) := by decide +kernel
theorem dX6_init_75 : decode cX6_init 75 = .ok (.aastore, 1) := by decide +kernel
theorem dX6_init_76 : decode cX6_init 76 = .ok (.putfield 26, 3) := by decide +kernel
theorem dX6_init_79 : decode cX6_init 79 = .ok (.aload_n 0, 1) := by decide +kernel
theorem dX6_init_80 : decode cX6_init 80 = .ok (.iconst 0, 1) := by decide +kernel
theorem dX6_init_81 : decode cX6_init 81 = .ok (.putfield 30, 3) := by decide +kernel
theorem dX6_init_84 : decode cX6_init 84 = .ok (.return_, 1) := by decide +kernel
theorem dX6_well_0 : decode cX6_well 0 = .ok (.iload_n 1, 1) := by decide +kernel
theorem dX6_well_1 : decode cX6_well 1 = .ok (.invokestatic 34, 3) := by decide +kernel
theorem dX6_well_4 : decode cX6_well 4 = .ok (.ifCond .eq 25, 3) := by decide +kernel
theorem dX6_well_7 : decode cX6_well 7 = .ok (.iload_n 2, 1) := by decide +kernel
theorem dX6_well_8 : decode cX6_well 8 = .ok (.invokestatic 38, 3) := by decide +kernel
theorem dX6_well_11 : decode cX6_well 11 = .ok (.ifCond .eq 18, 3) := by decide +kernel
theorem dX6_well_14 : decode cX6_well 14 = .ok (.iload_n 3, 1) := by decide +kernel
theorem dX6_well_15 : decode cX6_well 15 = .ok (.invokestatic 38, 3) := by decide +kernel
theorem dX6_well_18 : decode cX6_well 18 = .ok (.ifCond .eq 11, 3) := by decide +kernel
theorem dX6_well_21 : decode cX6_well 21 = .ok (.iload 4, 2) := by decide +kernel
theorem dX6_well_23 : decode cX6_well 23 = .ok (.invokestatic 41, 3) := by decide +kernel
theorem dX6_well_26 : decode cX6_well 26 = .ok (.ifCond .ne 10, 3) := by decide +kernel
theorem dX6_well_29 : decode cX6_well 29 = .ok (.aload_n 0, 1) := by decide +kernel
theorem dX6_well_30 : decode cX6_well 30 = .ok (.ldc 44, 2) := by decide +kernel
theorem dX6_well_32 : decode cX6_well 32 = .ok (.invokevirtual 45, 3) := by decide +kernel
theorem dX6_well_35 : decode cX6_well 35 = .ok (.ireturn, 1) := by decide +kernel
theorem dX6_well_36 : decode cX6_well 36 = .ok (.aload_n 0, 1) := by decide +kernel
theorem dX6_well_37 : decode cX6_well 37 = .ok (.getfield 10, 3) := by decide +kernel
theorem dX6_well_40 : decode cX6_well 40 = .ok (.getfield 49, 3) := by decide +kernel
theorem dX6_well_43 : decode cX6_well 43 = .ok (.getfield 53, 3) := by decide +kernel
theorem dX6_well_46 : decode cX6_well 46 = .ok (.bipush 10, 2) := by decide +kernel
theorem dX6_well_48 : decode cX6_well 48 = .ok (.if_icmp .lt 10, 3) := by decide +kernel
theorem dX6_well_51 : decode cX6_well 51 = .ok (.aload_n 0, 1) := by decide +kernel
theorem dX6_well_52 : decode cX6_well 52 = .ok (.ldc 58, 2) := by decide +kernel
theorem dX6_well_54 : decode cX6_well 54 = .ok (.invokevirtual 45, 3) := by decide +kernel
theorem dX6_well_57 : decode cX6_well 57 = .ok (.ireturn, 1) := by decide +kernel
theorem dX6_well_58 : decode cX6_well 58 = .ok (.aload_n 0, 1) := by decide +kernel
theorem dX6_well_59 : decode cX6_well 59 = .ok (.getfield 10, 3) := by decide +kernel
theorem dX6_well_62 : decode cX6_well 62 = .ok (.getfield 49, 3) := by decide +kernel
theorem dX6_well_65 : decode cX6_well 65 = .ok (.iload_n 1, 1) := by decide +kernel
theorem dX6_well_66 : decode cX6_well 66 = .ok (.iload_n 2, 1) := by decide +kernel
theorem dX6_well_67 : decode cX6_well 67 = .ok (.iload_n 3, 1) := by decide +kernel
theorem dX6_well_68 : decode cX6_well 68 = .ok (.iload 4, 2) := by decide +kernel
theorem dX6_well_70 : decode cX6_well 70 = .ok (.invokevirtual 59, 3) := by decide +kernel
theorem dX6_well_73 : decode cX6_well 73 = .ok (.ireturn, 1) := by decide +kernel
theorem dX6_limit_0 : decode cX6_limit 0 = .ok (.aload_n 0, 1) := by decide +kernel
theorem dX6_limit_1 : decode cX6_limit 1 = .ok (.iload_n 1, 1) := by decide +kernel
theorem dX6_limit_2 : decode cX6_limit 2 = .ok (.invokevirtual 63, 3) := by decide +kernel
theorem dX6_limit_5 : decode cX6_limit 5 = .ok (.ifCond .eq 10, 3) := by decide +kernel
theorem dX6_limit_8 : decode cX6_limit 8 = .ok (.iload_n 2, 1) := by decide +kernel
theorem dX6_limit_9 : decode cX6_limit 9 = .ok (.invokestatic 41, 3) := by decide +kernel
theorem dX6_limit_12 : decode cX6_limit 12 = .ok (.ifCond .ne 10, 3) := by decide +kernel
theorem dX6_limit_15 : decode cX6_limit 15 = .ok (.aload_n 0, 1) := by decide +kernel
theorem dX6_limit_16 : decode cX6_limit 16 = .ok (.ldc 44, 2) := by decide +kernel
theorem dX6_limit_18 : decode cX6_limit 18 = .ok (.invokevirtual 45, 3) := by decide +kernel
theorem dX6_limit_21 : decode cX6_limit 21 = .ok (.ireturn, 1) := by decide +kernel
theorem dX6_limit_22 : decode cX6_limit 22 = .ok (.aload_n 0, 1) := by decide +kernel
theorem dX6_limit_23 : decode cX6_limit 23 = .ok (.getfield 10, 3) := by decide +kernel
theorem dX6_limit_26 : decode cX6_limit 26 = .ok (.getfield 49, 3) := by decide +kernel
theorem dX6_limit_29 : decode cX6_limit 29 = .ok (.getfield 66, 3) := by decide +kernel
theorem dX6_limit_32 : decode cX6_limit 32 = .ok (.iload_n 1, 1) := by decide +kernel
theorem dX6_limit_33 : decode cX6_limit 33 = .ok (.iaload, 1) := by decide +kernel
theorem dX6_limit_34 : decode cX6_limit 34 = .ok (.istore_n 3, 1) := by decide +kernel
theorem dX6_limit_35 : decode cX6_limit 35 = .ok (.aload_n 0, 1) := by decide +kernel
theorem dX6_limit_36 : decode cX6_limit 36 = .ok (.getfield 10, 3) := by decide +kernel
theorem dX6_limit_39 : decode cX6_limit 39 = .ok (.getfield 49, 3) := by decide +kernel
theorem dX6_limit_42 : decode cX6_limit 42 = .ok (.getfield 66, 3) := by decide +kernel
theorem dX6_limit_45 : decode cX6_limit 45 = .ok (.iload_n 1, 1) := by decide +kernel
theorem dX6_limit_46 : decode cX6_limit 46 = .ok (.iload_n 2, 1) := by decide +kernel
theorem dX6_limit_47 : decode cX6_limit 47 = .ok (.iastore, 1) := by decide +kernel
theorem dX6_limit_48 : decode cX6_limit 48 = .ok (.iload_n 3, 1) := by decide +kernel
theorem dX6_limit_49 : decode cX6_limit 49 = .ok (.ireturn, 1) := by decide +kernel
theorem dX6_as_0 : decode cX6_as 0 = .ok (.aload_n 0, 1) := by decide +kernel
theorem dX6_as_1 : decode cX6_as 1 = .ok (.iload_n 1, 1) := by decide +kernel
theorem dX6_as_2 : decode cX6_as 2 = .ok (.invokevirtual 63, 3) := by decide +kernel
theorem dX6_as_5 : decode cX6_as 5 = .ok (.ifCond .eq 10, 3) := by decide +kernel
theorem dX6_as_8 : decode cX6_as 8 = .ok (.iload_n 2, 1) := by decide +kernel
theorem dX6_as_9 : decode cX6_as 9 = .ok (.invokestatic 34, 3) := by decide +kernel
theorem dX6_as_12 : decode cX6_as 12 = .ok (.ifCond .ne 10, 3) := by decide +kernel
theorem dX6_as_15 : decode cX6_as 15 = .ok (.aload_n 0, 1) := by decide +kernel
theorem dX6_as_16 : decode cX6_as 16 = .ok (.ldc 44, 2) := by decide +kernel
theorem dX6_as_18 : decode cX6_as 18 = .ok (.invokevirtual 45, 3) := by decide +kernel
theorem dX6_as_21 : decode cX6_as 21 = .ok (.ireturn, 1) := by decide +kernel
theorem dX6_as_22 : decode cX6_as 22 = .ok (.aload_n 0, 1) := by decide +kernel
theorem dX6_as_23 : decode cX6_as 23 = .ok (.getfield 10, 3) := by decide +kernel
theorem dX6_as_26 : decode cX6_as 26 = .ok (.getfield 49, 3) := by decide +kernel
theorem dX6_as_29 : decode cX6_as 29 = .ok (.iload_n 1, 1) := by decide +kernel
theorem dX6_as_30 : decode cX6_as 30 = .ok (.iload_n 2, 1) := by decide +kernel
theorem dX6_as_31 : decode cX6_as 31 = .ok (.invokevirtual 70, 3) := by decide +kernel
theorem dX6_as_34 : decode cX6_as 34 = .ok (.ifCond .eq 7, 3) := by decide +kernel
theorem dX6_as_37 : decode cX6_as 37 = .ok (.iload_n 1, 1) := by decide +kernel
theorem dX6_as_38 : decode cX6_as 38 = .ok (.goto 9, 3) := by decide +kernel
theorem dX6_as_41 : decode cX6_as 41 = .ok (.aload_n 0, 1) := by decide +kernel
theorem dX6_as_42 : decode cX6_as 42 = .ok (.ldc 74, 2) := by decide +kernel
theorem dX6_as_44 : decode cX6_as 44 = .ok (.invokevirtual 45, 3) := by decide +kernel
theorem dX6_as_47 : decode cX6_as 47 = .ok (.ireturn, 1) := by decide +kernel
theorem dX6_of_0 : decode cX6_of 0 = .ok (.aload_n 0, 1) := by decide +kernel
theorem dX6_of_1 : decode cX6_of 1 = .ok (.iload_n 1, 1) := by decide +kernel
theorem dX6_of_2 : decode cX6_of 2 = .ok (.invokevirtual 63, 3) := by decide +kernel
theorem dX6_of_5 : decode cX6_of 5 = .ok (.ifCond .ne 10, 3) := by decide +kernel
theorem dX6_of_8 : decode cX6_of 8 = .ok (.aload_n 0, 1) := by decide +kernel
theorem dX6_of_9 : decode cX6_of 9 = .ok (.ldc 44, 2) := by decide +kernel
theorem dX6_of_11 : decode cX6_of 11 = .ok (.invokevirtual 45, 3) := by decide +kernel
theorem dX6_of_14 : decode cX6_of 14 = .ok (.ireturn, 1) := by decide +kernel
theorem dX6_of_15 : decode cX6_of 15 = .ok (.iload_n 2, 1) := by decide +kernel
theorem dX6_of_16 : decode cX6_of 16 = .ok (.tableswitch 114 0 5 #[40, 53, 66, 79, 92, 105], 40) := by decide +kernel
theorem dX6_of_56 : decode cX6_of 56 = .ok (.aload_n 0, 1) := by decide +kernel
theorem dX6_of_57 : decode cX6_of 57 = .ok (.getfield 10, 3) := by decide +kernel
theorem dX6_of_60 : decode cX6_of 60 = .ok (.getfield 49, 3) := by decide +kernel
theorem dX6_of_63 : decode cX6_of 63 = .ok (.getfield 75, 3) := by decide +kernel
theorem dX6_of_66 : decode cX6_of 66 = .ok (.iload_n 1, 1) := by decide +kernel
theorem dX6_of_67 : decode cX6_of 67 = .ok (.iaload, 1) := by decide +kernel
theorem dX6_of_68 : decode cX6_of 68 = .ok (.ireturn, 1) := by decide +kernel
theorem dX6_of_69 : decode cX6_of 69 = .ok (.aload_n 0, 1) := by decide +kernel
theorem dX6_of_70 : decode cX6_of 70 = .ok (.getfield 10, 3) := by decide +kernel
theorem dX6_of_73 : decode cX6_of 73 = .ok (.getfield 49, 3) := by decide +kernel
theorem dX6_of_76 : decode cX6_of 76 = .ok (.getfield 78, 3) := by decide +kernel
theorem dX6_of_79 : decode cX6_of 79 = .ok (.iload_n 1, 1) := by decide +kernel
theorem dX6_of_80 : decode cX6_of 80 = .ok (.iaload, 1) := by decide +kernel
theorem dX6_of_81 : decode cX6_of 81 = .ok (.ireturn, 1) := by decide +kernel
theorem dX6_of_82 : decode cX6_of 82 = .ok (.aload_n 0, 1) := by decide +kernel
theorem dX6_of_83 : decode cX6_of 83 = .ok (.getfield 10, 3) := by decide +kernel
theorem dX6_of_86 : decode cX6_of 86 = .ok (.getfield 49, 3) := by decide +kernel
theorem dX6_of_89 : decode cX6_of 89 = .ok (.getfield 81, 3) := by decide +kernel
theorem dX6_of_92 : decode cX6_of 92 = .ok (.iload_n 1, 1) := by decide +kernel
theorem dX6_of_93 : decode cX6_of 93 = .ok (.iaload, 1) := by decide +kernel
theorem dX6_of_94 : decode cX6_of 94 = .ok (.ireturn, 1) := by decide +kernel
theorem dX6_of_95 : decode cX6_of 95 = .ok (.aload_n 0, 1) := by decide +kernel
theorem dX6_of_96 : decode cX6_of 96 = .ok (.getfield 10, 3) := by decide +kernel
theorem dX6_of_99 : decode cX6_of 99 = .ok (.getfield 49, 3) := by decide +kernel
theorem dX6_of_102 : decode cX6_of 102 = .ok (.getfield 84, 3) := by decide +kernel
theorem dX6_of_105 : decode cX6_of 105 = .ok (.iload_n 1, 1) := by decide +kernel
theorem dX6_of_106 : decode cX6_of 106 = .ok (.iaload, 1) := by decide +kernel
theorem dX6_of_107 : decode cX6_of 107 = .ok (.ireturn, 1) := by decide +kernel
theorem dX6_of_108 : decode cX6_of 108 = .ok (.aload_n 0, 1) := by decide +kernel
theorem dX6_of_109 : decode cX6_of 109 = .ok (.getfield 10, 3) := by decide +kernel
theorem dX6_of_112 : decode cX6_of 112 = .ok (.getfield 49, 3) := by decide +kernel
theorem dX6_of_115 : decode cX6_of 115 = .ok (.getfield 66, 3) := by decide +kernel
theorem dX6_of_118 : decode cX6_of 118 = .ok (.iload_n 1, 1) := by decide +kernel
theorem dX6_of_119 : decode cX6_of 119 = .ok (.iaload, 1) := by decide +kernel
theorem dX6_of_120 : decode cX6_of 120 = .ok (.ireturn, 1) := by decide +kernel
theorem dX6_of_121 : decode cX6_of 121 = .ok (.aload_n 0, 1) := by decide +kernel
theorem dX6_of_122 : decode cX6_of 122 = .ok (.getfield 10, 3) := by decide +kernel
theorem dX6_of_125 : decode cX6_of 125 = .ok (.iload_n 1, 1) := by decide +kernel
theorem dX6_of_126 : decode cX6_of 126 = .ok (.invokevirtual 87, 3) := by decide +kernel
theorem dX6_of_129 : decode cX6_of 129 = .ok (.ireturn, 1) := by decide +kernel
theorem dX6_of_130 : decode cX6_of 130 = .ok (.aload_n 0, 1) := by decide +kernel
theorem dX6_of_131 : decode cX6_of 131 = .ok (.ldc 44, 2) := by decide +kernel
theorem dX6_of_133 : decode cX6_of 133 = .ok (.invokevirtual 45, 3) := by decide +kernel
theorem dX6_of_136 : decode cX6_of 136 = .ok (.ireturn, 1) := by decide +kernel
theorem dX6_distance_0 : decode cX6_distance 0 = .ok (.aload_n 0, 1) := by decide +kernel
theorem dX6_distance_1 : decode cX6_distance 1 = .ok (.iload_n 1, 1) := by decide +kernel
theorem dX6_distance_2 : decode cX6_distance 2 = .ok (.invokevirtual 63, 3) := by decide +kernel
theorem dX6_distance_5 : decode cX6_distance 5 = .ok (.ifCond .eq 11, 3) := by decide +kernel
theorem dX6_distance_8 : decode cX6_distance 8 = .ok (.aload_n 0, 1) := by decide +kernel
theorem dX6_distance_9 : decode cX6_distance 9 = .ok (.iload_n 2, 1) := by decide +kernel
theorem dX6_distance_10 : decode cX6_distance 10 = .ok (.invokevirtual 63, 3) := by decide +kernel
theorem dX6_distance_13 : decode cX6_distance 13 = .ok (.ifCond .ne 10, 3) := by decide +kernel
theorem dX6_distance_16 : decode cX6_distance 16 = .ok (.aload_n 0, 1) := by decide +kernel
theorem dX6_distance_17 : decode cX6_distance 17 = .ok (.ldc 44, 2) := by decide +kernel
theorem dX6_distance_19 : decode cX6_distance 19 = .ok (.invokevirtual 45, 3) := by decide +kernel
theorem dX6_distance_22 : decode cX6_distance 22 = .ok (.ireturn, 1) := by decide +kernel
theorem dX6_distance_23 : decode cX6_distance 23 = .ok (.aload_n 0, 1) := by decide +kernel
theorem dX6_distance_24 : decode cX6_distance 24 = .ok (.getfield 10, 3) := by decide +kernel
theorem dX6_distance_27 : decode cX6_distance 27 = .ok (.getfield 49, 3) := by decide +kernel
theorem dX6_distance_30 : decode cX6_distance 30 = .ok (.iload_n 1, 1) := by decide +kernel
theorem dX6_distance_31 : decode cX6_distance 31 = .ok (.iload_n 2, 1) := by decide +kernel
theorem dX6_distance_32 : decode cX6_distance 32 = .ok (.invokevirtual 90, 3) := by decide +kernel
theorem dX6_distance_35 : decode cX6_distance 35 = .ok (.ireturn, 1) := by decide +kernel
theorem dX6_table_0 : decode cX6_table 0 = .ok (.iload_n 1, 1) := by decide +kernel
theorem dX6_table_1 : decode cX6_table 1 = .ok (.invokestatic 94, 3) := by decide +kernel
theorem dX6_table_4 : decode cX6_table 4 = .ok (.ifCond .eq 28, 3) := by decide +kernel
theorem dX6_table_7 : decode cX6_table 7 = .ok (.iload_n 3, 1) := by decide +kernel
theorem dX6_table_8 : decode cX6_table 8 = .ok (.invokestatic 97, 3) := by decide +kernel
theorem dX6_table_11 : decode cX6_table 11 = .ok (.ifCond .eq 21, 3) := by decide +kernel
theorem dX6_table_14 : decode cX6_table 14 = .ok (.iload 4, 2) := by decide +kernel
theorem dX6_table_16 : decode cX6_table 16 = .ok (.invokestatic 100, 3) := by decide +kernel
theorem dX6_table_19 : decode cX6_table 19 = .ok (.ifCond .eq 13, 3) := by decide +kernel
theorem dX6_table_22 : decode cX6_table 22 = .ok (.iload_n 2, 1) := by decide +kernel
theorem dX6_table_23 : decode cX6_table 23 = .ok (.iconst 0, 1) := by decide +kernel
theorem dX6_table_24 : decode cX6_table 24 = .ok (.bipush 9, 2) := by decide +kernel
theorem dX6_table_26 : decode cX6_table 26 = .ok (.invokestatic 103, 3) := by decide +kernel
theorem dX6_table_29 : decode cX6_table 29 = .ok (.ifCond .ne 10, 3) := by decide +kernel
theorem dX6_table_32 : decode cX6_table 32 = .ok (.aload_n 0, 1) := by decide +kernel
theorem dX6_table_33 : decode cX6_table 33 = .ok (.ldc 44, 2) := by decide +kernel
theorem dX6_table_35 : decode cX6_table 35 = .ok (.invokevirtual 45, 3) := by decide +kernel
theorem dX6_table_38 : decode cX6_table 38 = .ok (.ireturn, 1) := by decide +kernel
theorem dX6_table_39 : decode cX6_table 39 = .ok (.aload_n 0, 1) := by decide +kernel
theorem dX6_table_40 : decode cX6_table 40 = .ok (.getfield 10, 3) := by decide +kernel
theorem dX6_table_43 : decode cX6_table 43 = .ok (.getfield 107, 3) := by decide +kernel
theorem dX6_table_46 : decode cX6_table 46 = .ok (.iload_n 1, 1) := by decide +kernel
theorem dX6_table_47 : decode cX6_table 47 = .ok (.iload_n 2, 1) := by decide +kernel
theorem dX6_table_48 : decode cX6_table 48 = .ok (.iload_n 3, 1) := by decide +kernel
theorem dX6_table_49 : decode cX6_table 49 = .ok (.iload 4, 2) := by decide +kernel
theorem dX6_table_51 : decode cX6_table 51 = .ok (.invokevirtual 111, 3) := by decide +kernel
theorem dX6_table_54 : decode cX6_table 54 = .ok (.ifCond .ne 10, 3) := by decide +kernel
theorem dX6_table_57 : decode cX6_table 57 = .ok (.aload_n 0, 1) := by decide +kernel
theorem dX6_table_58 : decode cX6_table 58 = .ok (.ldc 117, 2) := by decide +kernel
theorem dX6_table_60 : decode cX6_table 60 = .ok (.invokevirtual 45, 3) := by decide +kernel
theorem dX6_table_63 : decode cX6_table 63 = .ok (.ireturn, 1) := by decide +kernel
theorem dX6_table_64 : decode cX6_table 64 = .ok (.iload_n 1, 1) := by decide +kernel
theorem dX6_table_65 : decode cX6_table 65 = .ok (.iload_n 2, 1) := by decide +kernel
theorem dX6_table_66 : decode cX6_table 66 = .ok (.invokestatic 118, 3) := by decide +kernel
theorem dX6_table_69 : decode cX6_table 69 = .ok (.iload_n 3, 1) := by decide +kernel
theorem dX6_table_70 : decode cX6_table 70 = .ok (.iadd, 1) := by decide +kernel
theorem dX6_table_71 : decode cX6_table 71 = .ok (.istore 5, 2) := by decide +kernel
theorem dX6_table_73 : decode cX6_table 73 = .ok (.aload_n 0, 1) := by decide +kernel
theorem dX6_table_74 : decode cX6_table 74 = .ok (.getfield 10, 3) := by decide +kernel
theorem dX6_table_77 : decode cX6_table 77 = .ok (.getfield 107, 3) := by decide +kernel
theorem dX6_table_80 : decode cX6_table 80 = .ok (.getfield 121, 3) := by decide +kernel
theorem dX6_table_83 : decode cX6_table 83 = .ok (.iload 5, 2) := by decide +kernel
theorem dX6_table_85 : decode cX6_table 85 = .ok (.iaload, 1) := by decide +kernel
theorem dX6_table_86 : decode cX6_table 86 = .ok (.istore 6, 2) := by decide +kernel
theorem dX6_table_88 : decode cX6_table 88 = .ok (.aload_n 0, 1) := by decide +kernel
theorem dX6_table_89 : decode cX6_table 89 = .ok (.getfield 10, 3) := by decide +kernel
theorem dX6_table_92 : decode cX6_table 92 = .ok (.getfield 107, 3) := by decide +kernel
theorem dX6_table_95 : decode cX6_table 95 = .ok (.getfield 121, 3) := by decide +kernel
theorem dX6_table_98 : decode cX6_table 98 = .ok (.iload 5, 2) := by decide +kernel
theorem dX6_table_100 : decode cX6_table 100 = .ok (.iload 4, 2) := by decide +kernel
theorem dX6_table_102 : decode cX6_table 102 = .ok (.iastore, 1) := by decide +kernel
theorem dX6_table_103 : decode cX6_table 103 = .ok (.iload 6, 2) := by decide +kernel
theorem dX6_table_105 : decode cX6_table 105 = .ok (.ireturn, 1) := by decide +kernel
theorem dX6_rainTable_0 : decode cX6_rainTable 0 = .ok (.iload_n 1, 1) := by decide +kernel
theorem dX6_rainTable_1 : decode cX6_rainTable 1 = .ok (.invokestatic 97, 3) := by decide +kernel
theorem dX6_rainTable_4 : decode cX6_rainTable 4 = .ok (.ifCond .eq 10, 3) := by decide +kernel
theorem dX6_rainTable_7 : decode cX6_rainTable 7 = .ok (.iload_n 2, 1) := by decide +kernel
theorem dX6_rainTable_8 : decode cX6_rainTable 8 = .ok (.invokestatic 100, 3) := by decide +kernel
theorem dX6_rainTable_11 : decode cX6_rainTable 11 = .ok (.ifCond .ne 10, 3) := by decide +kernel
theorem dX6_rainTable_14 : decode cX6_rainTable 14 = .ok (.aload_n 0, 1) := by decide +kernel
theorem dX6_rainTable_15 : decode cX6_rainTable 15 = .ok (.ldc 44, 2) := by decide +kernel
theorem dX6_rainTable_17 : decode cX6_rainTable 17 = .ok (.invokevirtual 45, 3) := by decide +kernel
theorem dX6_rainTable_20 : decode cX6_rainTable 20 = .ok (.ireturn, 1) := by decide +kernel
theorem dX6_rainTable_21 : decode cX6_rainTable 21 = .ok (.aload_n 0, 1) := by decide +kernel
theorem dX6_rainTable_22 : decode cX6_rainTable 22 = .ok (.getfield 10, 3) := by decide +kernel
theorem dX6_rainTable_25 : decode cX6_rainTable 25 = .ok (.getfield 107, 3) := by decide +kernel
theorem dX6_rainTable_28 : decode cX6_rainTable 28 = .ok (.getfield 124, 3) := by decide +kernel
theorem dX6_rainTable_31 : decode cX6_rainTable 31 = .ok (.iload_n 1, 1) := by decide +kernel
theorem dX6_rainTable_32 : decode cX6_rainTable 32 = .ok (.iaload, 1) := by decide +kernel
theorem dX6_rainTable_33 : decode cX6_rainTable 33 = .ok (.istore_n 3, 1) := by decide +kernel
theorem dX6_rainTable_34 : decode cX6_rainTable 34 = .ok (.aload_n 0, 1) := by decide +kernel
theorem dX6_rainTable_35 : decode cX6_rainTable 35 = .ok (.getfield 10, 3) := by decide +kernel
theorem dX6_rainTable_38 : decode cX6_rainTable 38 = .ok (.getfield 107, 3) := by decide +kernel
theorem dX6_rainTable_41 : decode cX6_rainTable 41 = .ok (.getfield 124, 3) := by decide +kernel
theorem dX6_rainTable_44 : decode cX6_rainTable 44 = .ok (.iload_n 1, 1) := by decide +kernel
theorem dX6_rainTable_45 : decode cX6_rainTable 45 = .ok (.iload_n 2, 1) := by decide +kernel
theorem dX6_rainTable_46 : decode cX6_rainTable 46 = .ok (.iastore, 1) := by decide +kernel
theorem dX6_rainTable_47 : decode cX6_rainTable 47 = .ok (.iload_n 3, 1) := by decide +kernel
theorem dX6_rainTable_48 : decode cX6_rainTable 48 = .ok (.ireturn, 1) := by decide +kernel
theorem dX6_sheet_0 : decode cX6_sheet 0 = .ok (.iload_n 1, 1) := by decide +kernel
theorem dX6_sheet_1 : decode cX6_sheet 1 = .ok (.invokestatic 127, 3) := by decide +kernel
theorem dX6_sheet_4 : decode cX6_sheet 4 = .ok (.ifCond .eq 12, 3) := by decide +kernel
theorem dX6_sheet_7 : decode cX6_sheet 7 = .ok (.iload_n 2, 1) := by decide +kernel
theorem dX6_sheet_8 : decode cX6_sheet 8 = .ok (.iconst 0, 1) := by decide +kernel
theorem dX6_sheet_9 : decode cX6_sheet 9 = .ok (.iconst 2, 1) := by decide +kernel
theorem dX6_sheet_10 : decode cX6_sheet 10 = .ok (.invokestatic 103, 3) := by decide +kernel
theorem dX6_sheet_13 : decode cX6_sheet 13 = .ok (.ifCond .ne 10, 3) := by decide +kernel
theorem dX6_sheet_16 : decode cX6_sheet 16 = .ok (.aload_n 0, 1) := by decide +kernel
theorem dX6_sheet_17 : decode cX6_sheet 17 = .ok (.ldc 44, 2) := by decide +kernel
theorem dX6_sheet_19 : decode cX6_sheet 19 = .ok (.invokevirtual 45, 3) := by decide +kernel
theorem dX6_sheet_22 : decode cX6_sheet 22 = .ok (.ireturn, 1) := by decide +kernel
theorem dX6_sheet_23 : decode cX6_sheet 23 = .ok (.iload_n 3, 1) := by decide +kernel
theorem dX6_sheet_24 : decode cX6_sheet 24 = .ok (.ifCond .ge 10, 3) := by decide +kernel
theorem dX6_sheet_27 : decode cX6_sheet 27 = .ok (.aload_n 0, 1) := by decide +kernel
theorem dX6_sheet_28 : decode cX6_sheet 28 = .ok (.ldc 117, 2) := by decide +kernel
theorem dX6_sheet_30 : decode cX6_sheet 30 = .ok (.invokevirtual 45, 3) := by decide +kernel
theorem dX6_sheet_33 : decode cX6_sheet 33 = .ok (.ireturn, 1) := by decide +kernel
theorem dX6_sheet_34 : decode cX6_sheet 34 = .ok (.iload_n 3, 1) := by decide +kernel
theorem dX6_sheet_35 : decode cX6_sheet 35 = .ok (.bipush 24, 2) := by decide +kernel
theorem dX6_sheet_37 : decode cX6_sheet 37 = .ok (.if_icmp .le 10, 3) := by decide +kernel
theorem dX6_sheet_40 : decode cX6_sheet 40 = .ok (.aload_n 0, 1) := by decide +kernel
theorem dX6_sheet_41 : decode cX6_sheet 41 = .ok (.ldc 44, 2) := by decide +kernel
theorem dX6_sheet_43 : decode cX6_sheet 43 = .ok (.invokevirtual 45, 3) := by decide +kernel
theorem dX6_sheet_46 : decode cX6_sheet 46 = .ok (.ireturn, 1) := by decide +kernel
theorem dX6_sheet_47 : decode cX6_sheet 47 = .ok (.aload_n 0, 1) := by decide +kernel
theorem dX6_sheet_48 : decode cX6_sheet 48 = .ok (.getfield 26, 3) := by decide +kernel
theorem dX6_sheet_51 : decode cX6_sheet 51 = .ok (.iload_n 1, 1) := by decide +kernel
theorem dX6_sheet_52 : decode cX6_sheet 52 = .ok (.aaload, 1) := by decide +kernel
theorem dX6_sheet_53 : decode cX6_sheet 53 = .ok (.iload_n 2, 1) := by decide +kernel
theorem dX6_sheet_54 : decode cX6_sheet 54 = .ok (.iload_n 3, 1) := by decide +kernel
theorem dX6_sheet_55 : decode cX6_sheet 55 = .ok (.invokevirtual 130, 3) := by decide +kernel
theorem dX6_sheet_58 : decode cX6_sheet 58 = .ok (.ireturn, 1) := by decide +kernel
theorem dX6_put_0 : decode cX6_put 0 = .ok (.iload_n 1, 1) := by decide +kernel
theorem dX6_put_1 : decode cX6_put 1 = .ok (.invokestatic 127, 3) := by decide +kernel
theorem dX6_put_4 : decode cX6_put 4 = .ok (.ifCond .ne 10, 3) := by decide +kernel
theorem dX6_put_7 : decode cX6_put 7 = .ok (.aload_n 0, 1) := by decide +kernel
theorem dX6_put_8 : decode cX6_put 8 = .ok (.ldc 44, 2) := by decide +kernel
theorem dX6_put_10 : decode cX6_put 10 = .ok (.invokevirtual 45, 3) := by decide +kernel
theorem dX6_put_13 : decode cX6_put 13 = .ok (.ireturn, 1) := by decide +kernel
theorem dX6_put_14 : decode cX6_put 14 = .ok (.aload_n 0, 1) := by decide +kernel
theorem dX6_put_15 : decode cX6_put 15 = .ok (.getfield 26, 3) := by decide +kernel
theorem dX6_put_18 : decode cX6_put 18 = .ok (.iload_n 1, 1) := by decide +kernel
theorem dX6_put_19 : decode cX6_put 19 = .ok (.aaload, 1) := by decide +kernel
theorem dX6_put_20 : decode cX6_put 20 = .ok (.invokevirtual 133, 3) := by decide +kernel
theorem dX6_put_23 : decode cX6_put 23 = .ok (.ifCond .eq 10, 3) := by decide +kernel
theorem dX6_put_26 : decode cX6_put 26 = .ok (.aload_n 0, 1) := by decide +kernel
theorem dX6_put_27 : decode cX6_put 27 = .ok (.ldc 137, 2) := by decide +kernel
theorem dX6_put_29 : decode cX6_put 29 = .ok (.invokevirtual 45, 3) := by decide +kernel
theorem dX6_put_32 : decode cX6_put 32 = .ok (.ireturn, 1) := by decide +kernel
theorem dX6_put_33 : decode cX6_put 33 = .ok (.iload_n 2, 1) := by decide +kernel
theorem dX6_put_34 : decode cX6_put 34 = .ok (.iconst 0, 1) := by decide +kernel
theorem dX6_put_35 : decode cX6_put 35 = .ok (.aload_n 0, 1) := by decide +kernel
theorem dX6_put_36 : decode cX6_put 36 = .ok (.getfield 26, 3) := by decide +kernel
theorem dX6_put_39 : decode cX6_put 39 = .ok (.iload_n 1, 1) := by decide +kernel
theorem dX6_put_40 : decode cX6_put 40 = .ok (.aaload, 1) := by decide +kernel
theorem dX6_put_41 : decode cX6_put 41 = .ok (.getfield 138, 3) := by decide +kernel
theorem dX6_put_44 : decode cX6_put 44 = .ok (.iconst 1, 1) := by decide +kernel
theorem dX6_put_45 : decode cX6_put 45 = .ok (.isub, 1) := by decide +kernel
theorem dX6_put_46 : decode cX6_put 46 = .ok (.invokestatic 103, 3) := by decide +kernel
theorem dX6_put_49 : decode cX6_put 49 = .ok (.ifCond .ne 10, 3) := by decide +kernel
theorem dX6_put_52 : decode cX6_put 52 = .ok (.aload_n 0, 1) := by decide +kernel
theorem dX6_put_53 : decode cX6_put 53 = .ok (.ldc 44, 2) := by decide +kernel
theorem dX6_put_55 : decode cX6_put 55 = .ok (.invokevirtual 45, 3) := by decide +kernel
theorem dX6_put_58 : decode cX6_put 58 = .ok (.ireturn, 1) := by decide +kernel
theorem dX6_put_59 : decode cX6_put 59 = .ok (.aload_n 0, 1) := by decide +kernel
theorem dX6_put_60 : decode cX6_put 60 = .ok (.getfield 26, 3) := by decide +kernel
theorem dX6_put_63 : decode cX6_put 63 = .ok (.iload_n 1, 1) := by decide +kernel
theorem dX6_put_64 : decode cX6_put 64 = .ok (.aaload, 1) := by decide +kernel
theorem dX6_put_65 : decode cX6_put 65 = .ok (.iload_n 2, 1) := by decide +kernel
theorem dX6_put_66 : decode cX6_put 66 = .ok (.iload_n 3, 1) := by decide +kernel
theorem dX6_put_67 : decode cX6_put 67 = .ok (.invokevirtual 139, 3) := by decide +kernel
theorem dX6_put_70 : decode cX6_put 70 = .ok (.iconst 0, 1) := by decide +kernel
theorem dX6_put_71 : decode cX6_put 71 = .ok (.ireturn, 1) := by decide +kernel
theorem dX6_copy_0 : decode cX6_copy 0 = .ok (.iload_n 1, 1) := by decide +kernel
theorem dX6_copy_1 : decode cX6_copy 1 = .ok (.invokestatic 127, 3) := by decide +kernel
theorem dX6_copy_4 : decode cX6_copy 4 = .ok (.ifCond .eq 10, 3) := by decide +kernel
theorem dX6_copy_7 : decode cX6_copy 7 = .ok (.iload_n 3, 1) := by decide +kernel
theorem dX6_copy_8 : decode cX6_copy 8 = .ok (.invokestatic 127, 3) := by decide +kernel
theorem dX6_copy_11 : decode cX6_copy 11 = .ok (.ifCond .ne 10, 3) := by decide +kernel
theorem dX6_copy_14 : decode cX6_copy 14 = .ok (.aload_n 0, 1) := by decide +kernel
theorem dX6_copy_15 : decode cX6_copy 15 = .ok (.ldc 44, 2) := by decide +kernel
theorem dX6_copy_17 : decode cX6_copy 17 = .ok (.invokevirtual 45, 3) := by decide +kernel
theorem dX6_copy_20 : decode cX6_copy 20 = .ok (.ireturn, 1) := by decide +kernel
theorem dX6_copy_21 : decode cX6_copy 21 = .ok (.aload_n 0, 1) := by decide +kernel
theorem dX6_copy_22 : decode cX6_copy 22 = .ok (.getfield 26, 3) := by decide +kernel
theorem dX6_copy_25 : decode cX6_copy 25 = .ok (.iload_n 1, 1) := by decide +kernel
theorem dX6_copy_26 : decode cX6_copy 26 = .ok (.aaload, 1) := by decide +kernel
theorem dX6_copy_27 : decode cX6_copy 27 = .ok (.invokevirtual 133, 3) := by decide +kernel
theorem dX6_copy_30 : decode cX6_copy 30 = .ok (.ifCond .ne 15, 3) := by decide +kernel
theorem dX6_copy_33 : decode cX6_copy 33 = .ok (.aload_n 0, 1) := by decide +kernel
theorem dX6_copy_34 : decode cX6_copy 34 = .ok (.getfield 26, 3) := by decide +kernel
theorem dX6_copy_37 : decode cX6_copy 37 = .ok (.iload_n 3, 1) := by decide +kernel
theorem dX6_copy_38 : decode cX6_copy 38 = .ok (.aaload, 1) := by decide +kernel
theorem dX6_copy_39 : decode cX6_copy 39 = .ok (.invokevirtual 133, 3) := by decide +kernel
theorem dX6_copy_42 : decode cX6_copy 42 = .ok (.ifCond .eq 10, 3) := by decide +kernel
theorem dX6_copy_45 : decode cX6_copy 45 = .ok (.aload_n 0, 1) := by decide +kernel
theorem dX6_copy_46 : decode cX6_copy 46 = .ok (.ldc 137, 2) := by decide +kernel
theorem dX6_copy_48 : decode cX6_copy 48 = .ok (.invokevirtual 45, 3) := by decide +kernel
theorem dX6_copy_51 : decode cX6_copy 51 = .ok (.ireturn, 1) := by decide +kernel
theorem dX6_copy_52 : decode cX6_copy 52 = .ok (.aload_n 0, 1) := by decide +kernel
theorem dX6_copy_53 : decode cX6_copy 53 = .ok (.getfield 26, 3) := by decide +kernel
theorem dX6_copy_56 : decode cX6_copy 56 = .ok (.iload_n 1, 1) := by decide +kernel
theorem dX6_copy_57 : decode cX6_copy 57 = .ok (.aaload, 1) := by decide +kernel
theorem dX6_copy_58 : decode cX6_copy 58 = .ok (.getfield 143, 3) := by decide +kernel
theorem dX6_copy_61 : decode cX6_copy 61 = .ok (.aload_n 0, 1) := by decide +kernel
theorem dX6_copy_62 : decode cX6_copy 62 = .ok (.getfield 26, 3) := by decide +kernel
theorem dX6_copy_65 : decode cX6_copy 65 = .ok (.iload_n 3, 1) := by decide +kernel
theorem dX6_copy_66 : decode cX6_copy 66 = .ok (.aaload, 1) := by decide +kernel
theorem dX6_copy_67 : decode cX6_copy 67 = .ok (.getfield 143, 3) := by decide +kernel
theorem dX6_copy_70 : decode cX6_copy 70 = .ok (.if_icmp .eq 10, 3) := by decide +kernel
theorem dX6_copy_73 : decode cX6_copy 73 = .ok (.aload_n 0, 1) := by decide +kernel
theorem dX6_copy_74 : decode cX6_copy 74 = .ok (.ldc 74, 2) := by decide +kernel
theorem dX6_copy_76 : decode cX6_copy 76 = .ok (.invokevirtual 45, 3) := by decide +kernel
theorem dX6_copy_79 : decode cX6_copy 79 = .ok (.ireturn, 1) := by decide +kernel
theorem dX6_copy_80 : decode cX6_copy 80 = .ok (.aload_n 0, 1) := by decide +kernel
theorem dX6_copy_81 : decode cX6_copy 81 = .ok (.getfield 26, 3) := by decide +kernel
theorem dX6_copy_84 : decode cX6_copy 84 = .ok (.iload_n 1, 1) := by decide +kernel
theorem dX6_copy_85 : decode cX6_copy 85 = .ok (.aaload, 1) := by decide +kernel
theorem dX6_copy_86 : decode cX6_copy 86 = .ok (.iload_n 2, 1) := by decide +kernel
theorem dX6_copy_87 : decode cX6_copy 87 = .ok (.iload 5, 2) := by decide +kernel
theorem dX6_copy_89 : decode cX6_copy 89 = .ok (.invokevirtual 146, 3) := by decide +kernel
theorem dX6_copy_92 : decode cX6_copy 92 = .ok (.ifCond .eq 19, 3) := by decide +kernel
theorem dX6_copy_95 : decode cX6_copy 95 = .ok (.aload_n 0, 1) := by decide +kernel
theorem dX6_copy_96 : decode cX6_copy 96 = .ok (.getfield 26, 3) := by decide +kernel
theorem dX6_copy_99 : decode cX6_copy 99 = .ok (.iload_n 3, 1) := by decide +kernel
theorem dX6_copy_100 : decode cX6_copy 100 = .ok (.aaload, 1) := by decide +kernel
theorem dX6_copy_101 : decode cX6_copy 101 = .ok (.iload 4, 2) := by decide +kernel
theorem dX6_copy_103 : decode cX6_copy 103 = .ok (.iload 5, 2) := by decide +kernel
theorem dX6_copy_105 : decode cX6_copy 105 = .ok (.invokevirtual 146, 3) := by decide +kernel
theorem dX6_copy_108 : decode cX6_copy 108 = .ok (.ifCond .ne 10, 3) := by decide +kernel
theorem dX6_copy_111 : decode cX6_copy 111 = .ok (.aload_n 0, 1) := by decide +kernel
theorem dX6_copy_112 : decode cX6_copy 112 = .ok (.ldc 44, 2) := by decide +kernel
theorem dX6_copy_114 : decode cX6_copy 114 = .ok (.invokevirtual 45, 3) := by decide +kernel
theorem dX6_copy_117 : decode cX6_copy 117 = .ok (.ireturn, 1) := by decide +kernel
theorem dX6_copy_118 : decode cX6_copy 118 = .ok (.aload_n 0, 1) := by decide +kernel
theorem dX6_copy_119 : decode cX6_copy 119 = .ok (.getfield 26, 3) := by decide +kernel
theorem dX6_copy_122 : decode cX6_copy 122 = .ok (.iload_n 1, 1) := by decide +kernel
theorem dX6_copy_123 : decode cX6_copy 123 = .ok (.aaload, 1) := by decide +kernel
theorem dX6_copy_124 : decode cX6_copy 124 = .ok (.getfield 149, 3) := by decide +kernel
theorem dX6_copy_127 : decode cX6_copy 127 = .ok (.iload_n 2, 1) := by decide +kernel
theorem dX6_copy_128 : decode cX6_copy 128 = .ok (.aload_n 0, 1) := by decide +kernel
theorem dX6_copy_129 : decode cX6_copy 129 = .ok (.getfield 26, 3) := by decide +kernel
theorem dX6_copy_132 : decode cX6_copy 132 = .ok (.iload_n 3, 1) := by decide +kernel
theorem dX6_copy_133 : decode cX6_copy 133 = .ok (.aaload, 1) := by decide +kernel
theorem dX6_copy_134 : decode cX6_copy 134 = .ok (.getfield 149, 3) := by decide +kernel
theorem dX6_copy_137 : decode cX6_copy 137 = .ok (.iload 4, 2) := by decide +kernel
theorem dX6_copy_139 : decode cX6_copy 139 = .ok (.iload 5, 2) := by decide +kernel
theorem dX6_copy_141 : decode cX6_copy 141 = .ok (.invokestatic 152, 3) := by decide +kernel
theorem dX6_copy_144 : decode cX6_copy 144 = .ok (.iload 5, 2) := by decide +kernel
theorem dX6_copy_146 : decode cX6_copy 146 = .ok (.ireturn, 1) := by decide +kernel
theorem dX6_draws_0 : decode cX6_draws 0 = .ok (.aload_n 0, 1) := by decide +kernel
theorem dX6_draws_1 : decode cX6_draws 1 = .ok (.iload_n 1, 1) := by decide +kernel
theorem dX6_draws_2 : decode cX6_draws 2 = .ok (.invokevirtual 63, 3) := by decide +kernel
theorem dX6_draws_5 : decode cX6_draws 5 = .ok (.ifCond .eq 17, 3) := by decide +kernel
theorem dX6_draws_8 : decode cX6_draws 8 = .ok (.iload_n 2, 1) := by decide +kernel
theorem dX6_draws_9 : decode cX6_draws 9 = .ok (.invokestatic 158, 3) := by decide +kernel
theorem dX6_draws_12 : decode cX6_draws 12 = .ok (.ifCond .eq 10, 3) := by decide +kernel
theorem dX6_draws_15 : decode cX6_draws 15 = .ok (.iload_n 3, 1) := by decide +kernel
theorem dX6_draws_16 : decode cX6_draws 16 = .ok (.invokestatic 127, 3) := by decide +kernel
theorem dX6_draws_19 : decode cX6_draws 19 = .ok (.ifCond .ne 10, 3) := by decide +kernel
theorem dX6_draws_22 : decode cX6_draws 22 = .ok (.aload_n 0, 1) := by decide +kernel
theorem dX6_draws_23 : decode cX6_draws 23 = .ok (.ldc 44, 2) := by decide +kernel
theorem dX6_draws_25 : decode cX6_draws 25 = .ok (.invokevirtual 45, 3) := by decide +kernel
theorem dX6_draws_28 : decode cX6_draws 28 = .ok (.ireturn, 1) := by decide +kernel
theorem dX6_draws_29 : decode cX6_draws 29 = .ok (.aload_n 0, 1) := by decide +kernel
theorem dX6_draws_30 : decode cX6_draws 30 = .ok (.getfield 10, 3) := by decide +kernel
theorem dX6_draws_33 : decode cX6_draws 33 = .ok (.getfield 49, 3) := by decide +kernel
theorem dX6_draws_36 : decode cX6_draws 36 = .ok (.getfield 75, 3) := by decide +kernel
theorem dX6_draws_39 : decode cX6_draws 39 = .ok (.iload_n 1, 1) := by decide +kernel
theorem dX6_draws_40 : decode cX6_draws 40 = .ok (.iaload, 1) := by decide +kernel
theorem dX6_draws_41 : decode cX6_draws 41 = .ok (.iconst 5, 1) := by decide +kernel
theorem dX6_draws_42 : decode cX6_draws 42 = .ok (.if_icmp .ne 10, 3) := by decide +kernel
theorem dX6_draws_45 : decode cX6_draws 45 = .ok (.aload_n 0, 1) := by decide +kernel
theorem dX6_draws_46 : decode cX6_draws 46 = .ok (.ldc 74, 2) := by decide +kernel
theorem dX6_draws_48 : decode cX6_draws 48 = .ok (.invokevirtual 45, 3) := by decide +kernel
theorem dX6_draws_51 : decode cX6_draws 51 = .ok (.ireturn, 1) := by decide +kernel
theorem dX6_draws_52 : decode cX6_draws 52 = .ok (.aload_n 0, 1) := by decide +kernel
theorem dX6_draws_53 : decode cX6_draws 53 = .ok (.getfield 26, 3) := by decide +kernel
theorem dX6_draws_56 : decode cX6_draws 56 = .ok (.iload_n 3, 1) := by decide +kernel
theorem dX6_draws_57 : decode cX6_draws 57 = .ok (.aaload, 1) := by decide +kernel
theorem dX6_draws_58 : decode cX6_draws 58 = .ok (.astore 4, 2) := by decide +kernel
theorem dX6_draws_60 : decode cX6_draws 60 = .ok (.aload 4, 2) := by decide +kernel
theorem dX6_draws_62 : decode cX6_draws 62 = .ok (.invokevirtual 133, 3) := by decide +kernel
theorem dX6_draws_65 : decode cX6_draws 65 = .ok (.ifCond .eq 10, 3) := by decide +kernel
theorem dX6_draws_68 : decode cX6_draws 68 = .ok (.aload_n 0, 1) := by decide +kernel
theorem dX6_draws_69 : decode cX6_draws 69 = .ok (.ldc 137, 2) := by decide +kernel
theorem dX6_draws_71 : decode cX6_draws 71 = .ok (.invokevirtual 45, 3) := by decide +kernel
theorem dX6_draws_74 : decode cX6_draws 74 = .ok (.ireturn, 1) := by decide +kernel
theorem dX6_draws_75 : decode cX6_draws 75 = .ok (.aload 4, 2) := by decide +kernel
theorem dX6_draws_77 : decode cX6_draws 77 = .ok (.getfield 138, 3) := by decide +kernel
theorem dX6_draws_80 : decode cX6_draws 80 = .ok (.bipush 24, 2) := by decide +kernel
theorem dX6_draws_82 : decode cX6_draws 82 = .ok (.iload_n 2, 1) := by decide +kernel
theorem dX6_draws_83 : decode cX6_draws 83 = .ok (.isub, 1) := by decide +kernel
theorem dX6_draws_84 : decode cX6_draws 84 = .ok (.invokestatic 161, 3) := by decide +kernel
theorem dX6_draws_87 : decode cX6_draws 87 = .ok (.istore 5, 2) := by decide +kernel
theorem dX6_draws_89 : decode cX6_draws 89 = .ok (.aload 4, 2) := by decide +kernel
theorem dX6_draws_91 : decode cX6_draws 91 = .ok (.iload 5, 2) := by decide +kernel
theorem dX6_draws_93 : decode cX6_draws 93 = .ok (.invokevirtual 166, 3) := by decide +kernel
theorem dX6_draws_96 : decode cX6_draws 96 = .ok (.ifCond .ne 10, 3) := by decide +kernel
theorem dX6_draws_99 : decode cX6_draws 99 = .ok (.aload_n 0, 1) := by decide +kernel
theorem dX6_draws_100 : decode cX6_draws 100 = .ok (.ldc 169, 2) := by decide +kernel
theorem dX6_draws_102 : decode cX6_draws 102 = .ok (.invokevirtual 45, 3) := by decide +kernel
theorem dX6_draws_105 : decode cX6_draws 105 = .ok (.ireturn, 1) := by decide +kernel
theorem dX6_draws_106 : decode cX6_draws 106 = .ok (.aload 4, 2) := by decide +kernel
theorem dX6_draws_108 : decode cX6_draws 108 = .ok (.iload 5, 2) := by decide +kernel
theorem dX6_draws_110 : decode cX6_draws 110 = .ok (.invokevirtual 170, 3) := by decide +kernel
theorem dX6_draws_113 : decode cX6_draws 113 = .ok (.ifCond .ne 10, 3) := by decide +kernel
theorem dX6_draws_116 : decode cX6_draws 116 = .ok (.aload_n 0, 1) := by decide +kernel
theorem dX6_draws_117 : decode cX6_draws 117 = .ok (.ldc 44, 2) := by decide +kernel
theorem dX6_draws_119 : decode cX6_draws 119 = .ok (.invokevirtual 45, 3) := by decide +kernel
theorem dX6_draws_122 : decode cX6_draws 122 = .ok (.ireturn, 1) := by decide +kernel
theorem dX6_draws_123 : decode cX6_draws 123 = .ok (.iconst 0, 1) := by decide +kernel
theorem dX6_draws_124 : decode cX6_draws 124 = .ok (.istore 6, 2) := by decide +kernel
theorem dX6_draws_126 : decode cX6_draws 126 = .ok (.iload 6, 2) := by decide +kernel
theorem dX6_draws_128 : decode cX6_draws 128 = .ok (.iload 5, 2) := by decide +kernel
theorem dX6_draws_130 : decode cX6_draws 130 = .ok (.if_icmp .ge 28, 3) := by decide +kernel
theorem dX6_draws_133 : decode cX6_draws 133 = .ok (.aload_n 0, 1) := by decide +kernel
theorem dX6_draws_134 : decode cX6_draws 134 = .ok (.getfield 10, 3) := by decide +kernel
theorem dX6_draws_137 : decode cX6_draws 137 = .ok (.iload_n 1, 1) := by decide +kernel
theorem dX6_draws_138 : decode cX6_draws 138 = .ok (.iload_n 2, 1) := by decide +kernel
theorem dX6_draws_139 : decode cX6_draws 139 = .ok (.iload 6, 2) := by decide +kernel
theorem dX6_draws_141 : decode cX6_draws 141 = .ok (.iadd, 1) := by decide +kernel
theorem dX6_draws_142 : decode cX6_draws 142 = .ok (.aload 4, 2) := by decide +kernel
theorem dX6_draws_144 : decode cX6_draws 144 = .ok (.iload 6, 2) := by decide +kernel
theorem dX6_draws_146 : decode cX6_draws 146 = .ok (.invokevirtual 173, 3) := by decide +kernel
theorem dX6_draws_149 : decode cX6_draws 149 = .ok (.invokevirtual 176, 3) := by decide +kernel
theorem dX6_draws_152 : decode cX6_draws 152 = .ok (.iinc 6 1, 3) := by decide +kernel
theorem dX6_draws_155 : decode cX6_draws 155 = .ok (.goto (-29), 3) := by decide +kernel
theorem dX6_draws_158 : decode cX6_draws 158 = .ok (.iload 5, 2) := by decide +kernel
theorem dX6_draws_160 : decode cX6_draws 160 = .ok (.ireturn, 1) := by decide +kernel
theorem dX6_draw_0 : decode cX6_draw 0 = .ok (.aload_n 0, 1) := by decide +kernel
theorem dX6_draw_1 : decode cX6_draw 1 = .ok (.iload_n 1, 1) := by decide +kernel
theorem dX6_draw_2 : decode cX6_draw 2 = .ok (.invokevirtual 63, 3) := by decide +kernel
theorem dX6_draw_5 : decode cX6_draw 5 = .ok (.ifCond .eq 17, 3) := by decide +kernel
theorem dX6_draw_8 : decode cX6_draw 8 = .ok (.iload_n 2, 1) := by decide +kernel
theorem dX6_draw_9 : decode cX6_draw 9 = .ok (.invokestatic 158, 3) := by decide +kernel
theorem dX6_draw_12 : decode cX6_draw 12 = .ok (.ifCond .eq 10, 3) := by decide +kernel
theorem dX6_draw_15 : decode cX6_draw 15 = .ok (.iload_n 3, 1) := by decide +kernel
theorem dX6_draw_16 : decode cX6_draw 16 = .ok (.invokestatic 100, 3) := by decide +kernel
theorem dX6_draw_19 : decode cX6_draw 19 = .ok (.ifCond .ne 10, 3) := by decide +kernel
theorem dX6_draw_22 : decode cX6_draw 22 = .ok (.aload_n 0, 1) := by decide +kernel
theorem dX6_draw_23 : decode cX6_draw 23 = .ok (.ldc 44, 2) := by decide +kernel
theorem dX6_draw_25 : decode cX6_draw 25 = .ok (.invokevirtual 45, 3) := by decide +kernel
theorem dX6_draw_28 : decode cX6_draw 28 = .ok (.ireturn, 1) := by decide +kernel
theorem dX6_draw_29 : decode cX6_draw 29 = .ok (.aload_n 0, 1) := by decide +kernel
theorem dX6_draw_30 : decode cX6_draw 30 = .ok (.getfield 10, 3) := by decide +kernel
theorem dX6_draw_33 : decode cX6_draw 33 = .ok (.getfield 49, 3) := by decide +kernel
theorem dX6_draw_36 : decode cX6_draw 36 = .ok (.getfield 75, 3) := by decide +kernel
theorem dX6_draw_39 : decode cX6_draw 39 = .ok (.iload_n 1, 1) := by decide +kernel
theorem dX6_draw_40 : decode cX6_draw 40 = .ok (.iaload, 1) := by decide +kernel
theorem dX6_draw_41 : decode cX6_draw 41 = .ok (.iconst 5, 1) := by decide +kernel
theorem dX6_draw_42 : decode cX6_draw 42 = .ok (.if_icmp .ne 10, 3) := by decide +kernel
theorem dX6_draw_45 : decode cX6_draw 45 = .ok (.aload_n 0, 1) := by decide +kernel
theorem dX6_draw_46 : decode cX6_draw 46 = .ok (.ldc 74, 2) := by decide +kernel
theorem dX6_draw_48 : decode cX6_draw 48 = .ok (.invokevirtual 45, 3) := by decide +kernel
theorem dX6_draw_51 : decode cX6_draw 51 = .ok (.ireturn, 1) := by decide +kernel
theorem dX6_draw_52 : decode cX6_draw 52 = .ok (.aload_n 0, 1) := by decide +kernel
theorem dX6_draw_53 : decode cX6_draw 53 = .ok (.getfield 10, 3) := by decide +kernel
theorem dX6_draw_56 : decode cX6_draw 56 = .ok (.iload_n 1, 1) := by decide +kernel
theorem dX6_draw_57 : decode cX6_draw 57 = .ok (.iload_n 2, 1) := by decide +kernel
theorem dX6_draw_58 : decode cX6_draw 58 = .ok (.invokevirtual 180, 3) := by decide +kernel
theorem dX6_draw_61 : decode cX6_draw 61 = .ok (.istore 4, 2) := by decide +kernel
theorem dX6_draw_63 : decode cX6_draw 63 = .ok (.aload_n 0, 1) := by decide +kernel
theorem dX6_draw_64 : decode cX6_draw 64 = .ok (.getfield 10, 3) := by decide +kernel
theorem dX6_draw_67 : decode cX6_draw 67 = .ok (.iload_n 1, 1) := by decide +kernel
theorem dX6_draw_68 : decode cX6_draw 68 = .ok (.iload_n 2, 1) := by decide +kernel
theorem dX6_draw_69 : decode cX6_draw 69 = .ok (.iload_n 3, 1) := by decide +kernel
theorem dX6_draw_70 : decode cX6_draw 70 = .ok (.invokevirtual 176, 3) := by decide +kernel
theorem dX6_draw_73 : decode cX6_draw 73 = .ok (.iload 4, 2) := by decide +kernel
theorem dX6_draw_75 : decode cX6_draw 75 = .ok (.ireturn, 1) := by decide +kernel
theorem dX6_counts_0 : decode cX6_counts 0 = .ok (.aload_n 0, 1) := by decide +kernel
theorem dX6_counts_1 : decode cX6_counts 1 = .ok (.iload_n 1, 1) := by decide +kernel
theorem dX6_counts_2 : decode cX6_counts 2 = .ok (.invokevirtual 63, 3) := by decide +kernel
theorem dX6_counts_5 : decode cX6_counts 5 = .ok (.ifCond .eq 10, 3) := by decide +kernel
theorem dX6_counts_8 : decode cX6_counts 8 = .ok (.iload_n 2, 1) := by decide +kernel
theorem dX6_counts_9 : decode cX6_counts 9 = .ok (.invokestatic 158, 3) := by decide +kernel
theorem dX6_counts_12 : decode cX6_counts 12 = .ok (.ifCond .ne 10, 3) := by decide +kernel
theorem dX6_counts_15 : decode cX6_counts 15 = .ok (.aload_n 0, 1) := by decide +kernel
theorem dX6_counts_16 : decode cX6_counts 16 = .ok (.ldc 44, 2) := by decide +kernel
theorem dX6_counts_18 : decode cX6_counts 18 = .ok (.invokevirtual 45, 3) := by decide +kernel
theorem dX6_counts_21 : decode cX6_counts 21 = .ok (.ireturn, 1) := by decide +kernel
theorem dX6_counts_22 : decode cX6_counts 22 = .ok (.aload_n 0, 1) := by decide +kernel
theorem dX6_counts_23 : decode cX6_counts 23 = .ok (.getfield 10, 3) := by decide +kernel
theorem dX6_counts_26 : decode cX6_counts 26 = .ok (.iload_n 1, 1) := by decide +kernel
theorem dX6_counts_27 : decode cX6_counts 27 = .ok (.iload_n 2, 1) := by decide +kernel
theorem dX6_counts_28 : decode cX6_counts 28 = .ok (.invokevirtual 183, 3) := by decide +kernel
theorem dX6_counts_31 : decode cX6_counts 31 = .ok (.ireturn, 1) := by decide +kernel
theorem dX6_rain_0 : decode cX6_rain 0 = .ok (.iload_n 1, 1) := by decide +kernel
theorem dX6_rain_1 : decode cX6_rain 1 = .ok (.invokestatic 158, 3) := by decide +kernel
theorem dX6_rain_4 : decode cX6_rain 4 = .ok (.ifCond .eq 10, 3) := by decide +kernel
theorem dX6_rain_7 : decode cX6_rain 7 = .ok (.iload_n 2, 1) := by decide +kernel
theorem dX6_rain_8 : decode cX6_rain 8 = .ok (.invokestatic 100, 3) := by decide +kernel
theorem dX6_rain_11 : decode cX6_rain 11 = .ok (.ifCond .ne 10, 3) := by decide +kernel
theorem dX6_rain_14 : decode cX6_rain 14 = .ok (.aload_n 0, 1) := by decide +kernel
theorem dX6_rain_15 : decode cX6_rain 15 = .ok (.ldc 44, 2) := by decide +kernel
theorem dX6_rain_17 : decode cX6_rain 17 = .ok (.invokevirtual 45, 3) := by decide +kernel
theorem dX6_rain_20 : decode cX6_rain 20 = .ok (.ireturn, 1) := by decide +kernel
theorem dX6_rain_21 : decode cX6_rain 21 = .ok (.aload_n 0, 1) := by decide +kernel
theorem dX6_rain_22 : decode cX6_rain 22 = .ok (.getfield 10, 3) := by decide +kernel
theorem dX6_rain_25 : decode cX6_rain 25 = .ok (.getfield 186, 3) := by decide +kernel
theorem dX6_rain_28 : decode cX6_rain 28 = .ok (.iload_n 1, 1) := by decide +kernel
theorem dX6_rain_29 : decode cX6_rain 29 = .ok (.iaload, 1) := by decide +kernel
theorem dX6_rain_30 : decode cX6_rain 30 = .ok (.istore_n 3, 1) := by decide +kernel
theorem dX6_rain_31 : decode cX6_rain 31 = .ok (.aload_n 0, 1) := by decide +kernel
theorem dX6_rain_32 : decode cX6_rain 32 = .ok (.getfield 10, 3) := by decide +kernel
theorem dX6_rain_35 : decode cX6_rain 35 = .ok (.getfield 186, 3) := by decide +kernel
theorem dX6_rain_38 : decode cX6_rain 38 = .ok (.iload_n 1, 1) := by decide +kernel
theorem dX6_rain_39 : decode cX6_rain 39 = .ok (.iload_n 2, 1) := by decide +kernel
theorem dX6_rain_40 : decode cX6_rain 40 = .ok (.iastore, 1) := by decide +kernel
theorem dX6_rain_41 : decode cX6_rain 41 = .ok (.iload_n 3, 1) := by decide +kernel
theorem dX6_rain_42 : decode cX6_rain 42 = .ok (.ireturn, 1) := by decide +kernel
theorem dX6_dry_0 : decode cX6_dry 0 = .ok (.aload_n 0, 1) := by decide +kernel
theorem dX6_dry_1 : decode cX6_dry 1 = .ok (.getfield 10, 3) := by decide +kernel
theorem dX6_dry_4 : decode cX6_dry 4 = .ok (.getfield 189, 3) := by decide +kernel
theorem dX6_dry_7 : decode cX6_dry 7 = .ok (.invokestatic 192, 3) := by decide +kernel
theorem dX6_dry_10 : decode cX6_dry 10 = .ok (.aload_n 0, 1) := by decide +kernel
theorem dX6_dry_11 : decode cX6_dry 11 = .ok (.getfield 10, 3) := by decide +kernel
theorem dX6_dry_14 : decode cX6_dry 14 = .ok (.getfield 186, 3) := by decide +kernel
theorem dX6_dry_17 : decode cX6_dry 17 = .ok (.invokestatic 192, 3) := by decide +kernel
theorem dX6_dry_20 : decode cX6_dry 20 = .ok (.iadd, 1) := by decide +kernel
theorem dX6_dry_21 : decode cX6_dry 21 = .ok (.ireturn, 1) := by decide +kernel
theorem dX6_head_0 : decode cX6_head 0 = .ok (.aload_n 0, 1) := by decide +kernel
theorem dX6_head_1 : decode cX6_head 1 = .ok (.iload_n 1, 1) := by decide +kernel
theorem dX6_head_2 : decode cX6_head 2 = .ok (.invokevirtual 63, 3) := by decide +kernel
theorem dX6_head_5 : decode cX6_head 5 = .ok (.ifCond .eq 10, 3) := by decide +kernel
theorem dX6_head_8 : decode cX6_head 8 = .ok (.iload_n 2, 1) := by decide +kernel
theorem dX6_head_9 : decode cX6_head 9 = .ok (.invokestatic 158, 3) := by decide +kernel
theorem dX6_head_12 : decode cX6_head 12 = .ok (.ifCond .ne 10, 3) := by decide +kernel
theorem dX6_head_15 : decode cX6_head 15 = .ok (.aload_n 0, 1) := by decide +kernel
theorem dX6_head_16 : decode cX6_head 16 = .ok (.ldc 44, 2) := by decide +kernel
theorem dX6_head_18 : decode cX6_head 18 = .ok (.invokevirtual 45, 3) := by decide +kernel
theorem dX6_head_21 : decode cX6_head 21 = .ok (.ireturn, 1) := by decide +kernel
theorem dX6_head_22 : decode cX6_head 22 = .ok (.aload_n 0, 1) := by decide +kernel
theorem dX6_head_23 : decode cX6_head 23 = .ok (.getfield 10, 3) := by decide +kernel
theorem dX6_head_26 : decode cX6_head 26 = .ok (.iload_n 1, 1) := by decide +kernel
theorem dX6_head_27 : decode cX6_head 27 = .ok (.iload_n 2, 1) := by decide +kernel
theorem dX6_head_28 : decode cX6_head 28 = .ok (.invokevirtual 196, 3) := by decide +kernel
theorem dX6_head_31 : decode cX6_head 31 = .ok (.ireturn, 1) := by decide +kernel
theorem dX6_by_0 : decode cX6_by 0 = .ok (.aload_n 0, 1) := by decide +kernel
theorem dX6_by_1 : decode cX6_by 1 = .ok (.iload_n 1, 1) := by decide +kernel
theorem dX6_by_2 : decode cX6_by 2 = .ok (.invokevirtual 63, 3) := by decide +kernel
theorem dX6_by_5 : decode cX6_by 5 = .ok (.ifCond .eq 18, 3) := by decide +kernel
theorem dX6_by_8 : decode cX6_by 8 = .ok (.iload_n 2, 1) := by decide +kernel
theorem dX6_by_9 : decode cX6_by 9 = .ok (.invokestatic 158, 3) := by decide +kernel
theorem dX6_by_12 : decode cX6_by 12 = .ok (.ifCond .eq 11, 3) := by decide +kernel
theorem dX6_by_15 : decode cX6_by 15 = .ok (.aload_n 0, 1) := by decide +kernel
theorem dX6_by_16 : decode cX6_by 16 = .ok (.iload_n 3, 1) := by decide +kernel
theorem dX6_by_17 : decode cX6_by 17 = .ok (.invokevirtual 63, 3) := by decide +kernel
theorem dX6_by_20 : decode cX6_by 20 = .ok (.ifCond .ne 10, 3) := by decide +kernel
theorem dX6_by_23 : decode cX6_by 23 = .ok (.aload_n 0, 1) := by decide +kernel
theorem dX6_by_24 : decode cX6_by 24 = .ok (.ldc 44, 2) := by decide +kernel
theorem dX6_by_26 : decode cX6_by 26 = .ok (.invokevirtual 45, 3) := by decide +kernel
theorem dX6_by_29 : decode cX6_by 29 = .ok (.ireturn, 1) := by decide +kernel
theorem dX6_by_30 : decode cX6_by 30 = .ok (.aload_n 0, 1) := by decide +kernel
theorem dX6_by_31 : decode cX6_by 31 = .ok (.getfield 10, 3) := by decide +kernel
theorem dX6_by_34 : decode cX6_by 34 = .ok (.iload_n 1, 1) := by decide +kernel
theorem dX6_by_35 : decode cX6_by 35 = .ok (.iload_n 2, 1) := by decide +kernel
theorem dX6_by_36 : decode cX6_by 36 = .ok (.iload_n 3, 1) := by decide +kernel
theorem dX6_by_37 : decode cX6_by 37 = .ok (.iconst 0, 1) := by decide +kernel
theorem dX6_by_38 : decode cX6_by 38 = .ok (.invokevirtual 199, 3) := by decide +kernel
theorem dX6_by_41 : decode cX6_by 41 = .ok (.ireturn, 1) := by decide +kernel
theorem dX6_rained_0 : decode cX6_rained 0 = .ok (.aload_n 0, 1) := by decide +kernel
theorem dX6_rained_1 : decode cX6_rained 1 = .ok (.iload_n 1, 1) := by decide +kernel
theorem dX6_rained_2 : decode cX6_rained 2 = .ok (.invokevirtual 63, 3) := by decide +kernel
theorem dX6_rained_5 : decode cX6_rained 5 = .ok (.ifCond .eq 10, 3) := by decide +kernel
theorem dX6_rained_8 : decode cX6_rained 8 = .ok (.iload_n 2, 1) := by decide +kernel
theorem dX6_rained_9 : decode cX6_rained 9 = .ok (.invokestatic 158, 3) := by decide +kernel
theorem dX6_rained_12 : decode cX6_rained 12 = .ok (.ifCond .ne 10, 3) := by decide +kernel
theorem dX6_rained_15 : decode cX6_rained 15 = .ok (.aload_n 0, 1) := by decide +kernel
theorem dX6_rained_16 : decode cX6_rained 16 = .ok (.ldc 44, 2) := by decide +kernel
theorem dX6_rained_18 : decode cX6_rained 18 = .ok (.invokevirtual 45, 3) := by decide +kernel
theorem dX6_rained_21 : decode cX6_rained 21 = .ok (.ireturn, 1) := by decide +kernel
theorem dX6_rained_22 : decode cX6_rained 22 = .ok (.aload_n 0, 1) := by decide +kernel
theorem dX6_rained_23 : decode cX6_rained 23 = .ok (.getfield 10, 3) := by decide +kernel
theorem dX6_rained_26 : decode cX6_rained 26 = .ok (.iload_n 2, 1) := by decide +kernel
theorem dX6_rained_27 : decode cX6_rained 27 = .ok (.invokevirtual 202, 3) := by decide +kernel
theorem dX6_rained_30 : decode cX6_rained 30 = .ok (.ireturn, 1) := by decide +kernel
theorem dX6_most_0 : decode cX6_most 0 = .ok (.aload_n 0, 1) := by decide +kernel
theorem dX6_most_1 : decode cX6_most 1 = .ok (.iload_n 1, 1) := by decide +kernel
theorem dX6_most_2 : decode cX6_most 2 = .ok (.invokevirtual 63, 3) := by decide +kernel
theorem dX6_most_5 : decode cX6_most 5 = .ok (.ifCond .eq 10, 3) := by decide +kernel
theorem dX6_most_8 : decode cX6_most 8 = .ok (.iload_n 2, 1) := by decide +kernel
theorem dX6_most_9 : decode cX6_most 9 = .ok (.invokestatic 158, 3) := by decide +kernel
theorem dX6_most_12 : decode cX6_most 12 = .ok (.ifCond .ne 10, 3) := by decide +kernel
theorem dX6_most_15 : decode cX6_most 15 = .ok (.aload_n 0, 1) := by decide +kernel
theorem dX6_most_16 : decode cX6_most 16 = .ok (.ldc 44, 2) := by decide +kernel
theorem dX6_most_18 : decode cX6_most 18 = .ok (.invokevirtual 45, 3) := by decide +kernel
theorem dX6_most_21 : decode cX6_most 21 = .ok (.ireturn, 1) := by decide +kernel
theorem dX6_most_22 : decode cX6_most 22 = .ok (.iconst 0, 1) := by decide +kernel
theorem dX6_most_23 : decode cX6_most 23 = .ok (.istore_n 3, 1) := by decide +kernel
theorem dX6_most_24 : decode cX6_most 24 = .ok (.ldc 205, 2) := by decide +kernel
theorem dX6_most_26 : decode cX6_most 26 = .ok (.istore 4, 2) := by decide +kernel
theorem dX6_most_28 : decode cX6_most 28 = .ok (.iconst 0, 1) := by decide +kernel
theorem dX6_most_29 : decode cX6_most 29 = .ok (.istore 5, 2) := by decide +kernel
theorem dX6_most_31 : decode cX6_most 31 = .ok (.iload 5, 2) := by decide +kernel
theorem dX6_most_33 : decode cX6_most 33 = .ok (.aload_n 0, 1) := by decide +kernel
theorem dX6_most_34 : decode cX6_most 34 = .ok (.getfield 10, 3) := by decide +kernel
theorem dX6_most_37 : decode cX6_most 37 = .ok (.getfield 49, 3) := by decide +kernel
theorem dX6_most_40 : decode cX6_most 40 = .ok (.getfield 53, 3) := by decide +kernel
theorem dX6_most_43 : decode cX6_most 43 = .ok (.if_icmp .ge 36, 3) := by decide +kernel
theorem dX6_most_46 : decode cX6_most 46 = .ok (.aload_n 0, 1) := by decide +kernel
theorem dX6_most_47 : decode cX6_most 47 = .ok (.getfield 10, 3) := by decide +kernel
theorem dX6_most_50 : decode cX6_most 50 = .ok (.iload_n 1, 1) := by decide +kernel
theorem dX6_most_51 : decode cX6_most 51 = .ok (.iload_n 2, 1) := by decide +kernel
theorem dX6_most_52 : decode cX6_most 52 = .ok (.iload 5, 2) := by decide +kernel
theorem dX6_most_54 : decode cX6_most 54 = .ok (.iconst 0, 1) := by decide +kernel
theorem dX6_most_55 : decode cX6_most 55 = .ok (.invokevirtual 199, 3) := by decide +kernel
theorem dX6_most_58 : decode cX6_most 58 = .ok (.istore 6, 2) := by decide +kernel
theorem dX6_most_60 : decode cX6_most 60 = .ok (.iload 6, 2) := by decide +kernel
theorem dX6_most_62 : decode cX6_most 62 = .ok (.iload_n 3, 1) := by decide +kernel
theorem dX6_most_63 : decode cX6_most 63 = .ok (.if_icmp .le 10, 3) := by decide +kernel
theorem dX6_most_66 : decode cX6_most 66 = .ok (.iload 6, 2) := by decide +kernel
theorem dX6_most_68 : decode cX6_most 68 = .ok (.istore_n 3, 1) := by decide +kernel
theorem dX6_most_69 : decode cX6_most 69 = .ok (.iload 5, 2) := by decide +kernel
theorem dX6_most_71 : decode cX6_most 71 = .ok (.istore 4, 2) := by decide +kernel
theorem dX6_most_73 : decode cX6_most 73 = .ok (.iinc 5 1, 3) := by decide +kernel
theorem dX6_most_76 : decode cX6_most 76 = .ok (.goto (-45), 3) := by decide +kernel
theorem dX6_most_79 : decode cX6_most 79 = .ok (.iload 4, 2) := by decide +kernel
theorem dX6_most_81 : decode cX6_most 81 = .ok (.ldc 205, 2) := by decide +kernel
theorem dX6_most_83 : decode cX6_most 83 = .ok (.if_icmp .ne 12, 3) := by decide +kernel
theorem dX6_most_86 : decode cX6_most 86 = .ok (.aload_n 0, 1) := by decide +kernel
theorem dX6_most_87 : decode cX6_most 87 = .ok (.ldc 205, 2) := by decide +kernel
theorem dX6_most_89 : decode cX6_most 89 = .ok (.invokevirtual 45, 3) := by decide +kernel
theorem dX6_most_92 : decode cX6_most 92 = .ok (.goto 5, 3) := by decide +kernel
theorem dX6_most_95 : decode cX6_most 95 = .ok (.iload 4, 2) := by decide +kernel
theorem dX6_most_97 : decode cX6_most 97 = .ok (.ireturn, 1) := by decide +kernel
theorem dX6_when_0 : decode cX6_when 0 = .ok (.aload_n 0, 1) := by decide +kernel
theorem dX6_when_1 : decode cX6_when 1 = .ok (.iload_n 1, 1) := by decide +kernel
theorem dX6_when_2 : decode cX6_when 2 = .ok (.invokevirtual 63, 3) := by decide +kernel
theorem dX6_when_5 : decode cX6_when 5 = .ok (.ifCond .eq 10, 3) := by decide +kernel
theorem dX6_when_8 : decode cX6_when 8 = .ok (.iload_n 2, 1) := by decide +kernel
theorem dX6_when_9 : decode cX6_when 9 = .ok (.invokestatic 158, 3) := by decide +kernel
theorem dX6_when_12 : decode cX6_when 12 = .ok (.ifCond .ne 10, 3) := by decide +kernel
theorem dX6_when_15 : decode cX6_when 15 = .ok (.aload_n 0, 1) := by decide +kernel
theorem dX6_when_16 : decode cX6_when 16 = .ok (.ldc 44, 2) := by decide +kernel
theorem dX6_when_18 : decode cX6_when 18 = .ok (.invokevirtual 45, 3) := by decide +kernel
theorem dX6_when_21 : decode cX6_when 21 = .ok (.ireturn, 1) := by decide +kernel
theorem dX6_when_22 : decode cX6_when 22 = .ok (.iload_n 2, 1) := by decide +kernel
theorem dX6_when_23 : decode cX6_when 23 = .ok (.istore_n 3, 1) := by decide +kernel
theorem dX6_when_24 : decode cX6_when 24 = .ok (.iload_n 3, 1) := by decide +kernel
theorem dX6_when_25 : decode cX6_when 25 = .ok (.bipush 24, 2) := by decide +kernel
theorem dX6_when_27 : decode cX6_when 27 = .ok (.if_icmp .ge 23, 3) := by decide +kernel
theorem dX6_when_30 : decode cX6_when 30 = .ok (.aload_n 0, 1) := by decide +kernel
theorem dX6_when_31 : decode cX6_when 31 = .ok (.getfield 10, 3) := by decide +kernel
theorem dX6_when_34 : decode cX6_when 34 = .ok (.iload_n 1, 1) := by decide +kernel
theorem dX6_when_35 : decode cX6_when 35 = .ok (.iload_n 3, 1) := by decide +kernel
theorem dX6_when_36 : decode cX6_when 36 = .ok (.invokevirtual 206, 3) := by decide +kernel
theorem dX6_when_39 : decode cX6_when 39 = .ok (.ifCond .ge 5, 3) := by decide +kernel
theorem dX6_when_42 : decode cX6_when 42 = .ok (.iload_n 3, 1) := by decide +kernel
theorem dX6_when_43 : decode cX6_when 43 = .ok (.ireturn, 1) := by decide +kernel
theorem dX6_when_44 : decode cX6_when 44 = .ok (.iinc 3 1, 3) := by decide +kernel
theorem dX6_when_47 : decode cX6_when 47 = .ok (.goto (-23), 3) := by decide +kernel
theorem dX6_when_50 : decode cX6_when 50 = .ok (.aload_n 0, 1) := by decide +kernel
theorem dX6_when_51 : decode cX6_when 51 = .ok (.ldc 205, 2) := by decide +kernel
theorem dX6_when_53 : decode cX6_when 53 = .ok (.invokevirtual 45, 3) := by decide +kernel
theorem dX6_when_56 : decode cX6_when 56 = .ok (.ireturn, 1) := by decide +kernel
theorem dX6_near_0 : decode cX6_near 0 = .ok (.aload_n 0, 1) := by decide +kernel
theorem dX6_near_1 : decode cX6_near 1 = .ok (.iload_n 1, 1) := by decide +kernel
theorem dX6_near_2 : decode cX6_near 2 = .ok (.invokevirtual 63, 3) := by decide +kernel
theorem dX6_near_5 : decode cX6_near 5 = .ok (.ifCond .eq 10, 3) := by decide +kernel
theorem dX6_near_8 : decode cX6_near 8 = .ok (.iload_n 2, 1) := by decide +kernel
theorem dX6_near_9 : decode cX6_near 9 = .ok (.invokestatic 158, 3) := by decide +kernel
theorem dX6_near_12 : decode cX6_near 12 = .ok (.ifCond .ne 10, 3) := by decide +kernel
theorem dX6_near_15 : decode cX6_near 15 = .ok (.aload_n 0, 1) := by decide +kernel
theorem dX6_near_16 : decode cX6_near 16 = .ok (.ldc 44, 2) := by decide +kernel
theorem dX6_near_18 : decode cX6_near 18 = .ok (.invokevirtual 45, 3) := by decide +kernel
theorem dX6_near_21 : decode cX6_near 21 = .ok (.ireturn, 1) := by decide +kernel
theorem dX6_near_22 : decode cX6_near 22 = .ok (.aload_n 0, 1) := by decide +kernel
theorem dX6_near_23 : decode cX6_near 23 = .ok (.getfield 10, 3) := by decide +kernel
theorem dX6_near_26 : decode cX6_near 26 = .ok (.iload_n 1, 1) := by decide +kernel
theorem dX6_near_27 : decode cX6_near 27 = .ok (.iload_n 2, 1) := by decide +kernel
theorem dX6_near_28 : decode cX6_near 28 = .ok (.invokevirtual 206, 3) := by decide +kernel
theorem dX6_near_31 : decode cX6_near 31 = .ok (.istore_n 3, 1) := by decide +kernel
theorem dX6_near_32 : decode cX6_near 32 = .ok (.iload_n 2, 1) := by decide +kernel
theorem dX6_near_33 : decode cX6_near 33 = .ok (.iconst 1, 1) := by decide +kernel
theorem dX6_near_34 : decode cX6_near 34 = .ok (.iadd, 1) := by decide +kernel
theorem dX6_near_35 : decode cX6_near 35 = .ok (.istore 4, 2) := by decide +kernel
theorem dX6_near_37 : decode cX6_near 37 = .ok (.iload 4, 2) := by decide +kernel
theorem dX6_near_39 : decode cX6_near 39 = .ok (.bipush 24, 2) := by decide +kernel
theorem dX6_near_41 : decode cX6_near 41 = .ok (.if_icmp .ge 24, 3) := by decide +kernel
theorem dX6_near_44 : decode cX6_near 44 = .ok (.iload_n 3, 1) := by decide +kernel
theorem dX6_near_45 : decode cX6_near 45 = .ok (.aload_n 0, 1) := by decide +kernel
theorem dX6_near_46 : decode cX6_near 46 = .ok (.getfield 10, 3) := by decide +kernel
theorem dX6_near_49 : decode cX6_near 49 = .ok (.iload_n 1, 1) := by decide +kernel
theorem dX6_near_50 : decode cX6_near 50 = .ok (.iload 4, 2) := by decide +kernel
theorem dX6_near_52 : decode cX6_near 52 = .ok (.invokevirtual 206, 3) := by decide +kernel
theorem dX6_near_55 : decode cX6_near 55 = .ok (.invokestatic 161, 3) := by decide +kernel
theorem dX6_near_58 : decode cX6_near 58 = .ok (.istore_n 3, 1) := by decide +kernel
theorem dX6_near_59 : decode cX6_near 59 = .ok (.iinc 4 1, 3) := by decide +kernel
theorem dX6_near_62 : decode cX6_near 62 = .ok (.goto (-25), 3) := by decide +kernel
theorem dX6_near_65 : decode cX6_near 65 = .ok (.iload_n 3, 1) := by decide +kernel
theorem dX6_near_66 : decode cX6_near 66 = .ok (.ireturn, 1) := by decide +kernel
theorem dX6_low_0 : decode cX6_low 0 = .ok (.iload_n 1, 1) := by decide +kernel
theorem dX6_low_1 : decode cX6_low 1 = .ok (.invokestatic 158, 3) := by decide +kernel
theorem dX6_low_4 : decode cX6_low 4 = .ok (.ifCond .ne 10, 3) := by decide +kernel
theorem dX6_low_7 : decode cX6_low 7 = .ok (.aload_n 0, 1) := by decide +kernel
theorem dX6_low_8 : decode cX6_low 8 = .ok (.ldc 44, 2) := by decide +kernel
theorem dX6_low_10 : decode cX6_low 10 = .ok (.invokevirtual 45, 3) := by decide +kernel
theorem dX6_low_13 : decode cX6_low 13 = .ok (.ireturn, 1) := by decide +kernel
theorem dX6_low_14 : decode cX6_low 14 = .ok (.iconst 0, 1) := by decide +kernel
theorem dX6_low_15 : decode cX6_low 15 = .ok (.istore_n 2, 1) := by decide +kernel
theorem dX6_low_16 : decode cX6_low 16 = .ok (.iconst 0, 1) := by decide +kernel
theorem dX6_low_17 : decode cX6_low 17 = .ok (.istore_n 3, 1) := by decide +kernel
theorem dX6_low_18 : decode cX6_low 18 = .ok (.iload_n 3, 1) := by decide +kernel
theorem dX6_low_19 : decode cX6_low 19 = .ok (.aload_n 0, 1) := by decide +kernel
theorem dX6_low_20 : decode cX6_low 20 = .ok (.getfield 10, 3) := by decide +kernel
theorem dX6_low_23 : decode cX6_low 23 = .ok (.getfield 49, 3) := by decide +kernel
theorem dX6_low_26 : decode cX6_low 26 = .ok (.getfield 53, 3) := by decide +kernel
theorem dX6_low_29 : decode cX6_low 29 = .ok (.if_icmp .ge 24, 3) := by decide +kernel
theorem dX6_low_32 : decode cX6_low 32 = .ok (.aload_n 0, 1) := by decide +kernel
theorem dX6_low_33 : decode cX6_low 33 = .ok (.getfield 10, 3) := by decide +kernel
theorem dX6_low_36 : decode cX6_low 36 = .ok (.iload_n 3, 1) := by decide +kernel
theorem dX6_low_37 : decode cX6_low 37 = .ok (.iload_n 1, 1) := by decide +kernel
theorem dX6_low_38 : decode cX6_low 38 = .ok (.invokevirtual 206, 3) := by decide +kernel
theorem dX6_low_41 : decode cX6_low 41 = .ok (.ifCond .ge 6, 3) := by decide +kernel
theorem dX6_low_44 : decode cX6_low 44 = .ok (.iinc 2 1, 3) := by decide +kernel
theorem dX6_low_47 : decode cX6_low 47 = .ok (.iinc 3 1, 3) := by decide +kernel
theorem dX6_low_50 : decode cX6_low 50 = .ok (.goto (-32), 3) := by decide +kernel
theorem dX6_low_53 : decode cX6_low 53 = .ok (.iload_n 2, 1) := by decide +kernel
theorem dX6_low_54 : decode cX6_low 54 = .ok (.ireturn, 1) := by decide +kernel
theorem dX6_without_0 : decode cX6_without 0 = .ok (.aload_n 0, 1) := by decide +kernel
theorem dX6_without_1 : decode cX6_without 1 = .ok (.iload_n 1, 1) := by decide +kernel
theorem dX6_without_2 : decode cX6_without 2 = .ok (.invokevirtual 63, 3) := by decide +kernel
theorem dX6_without_5 : decode cX6_without 5 = .ok (.ifCond .eq 26, 3) := by decide +kernel
theorem dX6_without_8 : decode cX6_without 8 = .ok (.iload_n 2, 1) := by decide +kernel
theorem dX6_without_9 : decode cX6_without 9 = .ok (.invokestatic 158, 3) := by decide +kernel
theorem dX6_without_12 : decode cX6_without 12 = .ok (.ifCond .eq 19, 3) := by decide +kernel
theorem dX6_without_15 : decode cX6_without 15 = .ok (.aload_n 0, 1) := by decide +kernel
theorem dX6_without_16 : decode cX6_without 16 = .ok (.iload_n 3, 1) := by decide +kernel
theorem dX6_without_17 : decode cX6_without 17 = .ok (.invokevirtual 63, 3) := by decide +kernel
theorem dX6_without_20 : decode cX6_without 20 = .ok (.ifCond .eq 11, 3) := by decide +kernel
theorem dX6_without_23 : decode cX6_without 23 = .ok (.iload 4, 2) := by decide +kernel
theorem dX6_without_25 : decode cX6_without 25 = .ok (.invokestatic 158, 3) := by decide +kernel
theorem dX6_without_28 : decode cX6_without 28 = .ok (.ifCond .ne 10, 3) := by decide +kernel
theorem dX6_without_31 : decode cX6_without 31 = .ok (.aload_n 0, 1) := by decide +kernel
theorem dX6_without_32 : decode cX6_without 32 = .ok (.ldc 44, 2) := by decide +kernel
theorem dX6_without_34 : decode cX6_without 34 = .ok (.invokevirtual 45, 3) := by decide +kernel
theorem dX6_without_37 : decode cX6_without 37 = .ok (.ireturn, 1) := by decide +kernel
theorem dX6_without_38 : decode cX6_without 38 = .ok (.aload_n 0, 1) := by decide +kernel
theorem dX6_without_39 : decode cX6_without 39 = .ok (.getfield 10, 3) := by decide +kernel
theorem dX6_without_42 : decode cX6_without 42 = .ok (.iload_n 1, 1) := by decide +kernel
theorem dX6_without_43 : decode cX6_without 43 = .ok (.iload_n 2, 1) := by decide +kernel
theorem dX6_without_44 : decode cX6_without 44 = .ok (.iload_n 3, 1) := by decide +kernel
theorem dX6_without_45 : decode cX6_without 45 = .ok (.iload 4, 2) := by decide +kernel
theorem dX6_without_47 : decode cX6_without 47 = .ok (.invokevirtual 199, 3) := by decide +kernel
theorem dX6_without_50 : decode cX6_without 50 = .ok (.ireturn, 1) := by decide +kernel
theorem dX6_free_0 : decode cX6_free 0 = .ok (.aload_n 0, 1) := by decide +kernel
theorem dX6_free_1 : decode cX6_free 1 = .ok (.iload_n 1, 1) := by decide +kernel
theorem dX6_free_2 : decode cX6_free 2 = .ok (.invokevirtual 63, 3) := by decide +kernel
theorem dX6_free_5 : decode cX6_free 5 = .ok (.ifCond .eq 10, 3) := by decide +kernel
theorem dX6_free_8 : decode cX6_free 8 = .ok (.iload_n 2, 1) := by decide +kernel
theorem dX6_free_9 : decode cX6_free 9 = .ok (.invokestatic 158, 3) := by decide +kernel
theorem dX6_free_12 : decode cX6_free 12 = .ok (.ifCond .ne 10, 3) := by decide +kernel
theorem dX6_free_15 : decode cX6_free 15 = .ok (.aload_n 0, 1) := by decide +kernel
theorem dX6_free_16 : decode cX6_free 16 = .ok (.ldc 44, 2) := by decide +kernel
theorem dX6_free_18 : decode cX6_free 18 = .ok (.invokevirtual 45, 3) := by decide +kernel
theorem dX6_free_21 : decode cX6_free 21 = .ok (.ireturn, 1) := by decide +kernel
theorem dX6_free_22 : decode cX6_free 22 = .ok (.aload_n 0, 1) := by decide +kernel
theorem dX6_free_23 : decode cX6_free 23 = .ok (.getfield 10, 3) := by decide +kernel
theorem dX6_free_26 : decode cX6_free 26 = .ok (.iload_n 2, 1) := by decide +kernel
theorem dX6_free_27 : decode cX6_free 27 = .ok (.invokevirtual 209, 3) := by decide +kernel
theorem dX6_free_30 : decode cX6_free 30 = .ok (.aload_n 0, 1) := by decide +kernel
theorem dX6_free_31 : decode cX6_free 31 = .ok (.getfield 10, 3) := by decide +kernel
theorem dX6_free_34 : decode cX6_free 34 = .ok (.iload_n 1, 1) := by decide +kernel
theorem dX6_free_35 : decode cX6_free 35 = .ok (.iload_n 2, 1) := by decide +kernel
theorem dX6_free_36 : decode cX6_free 36 = .ok (.invokevirtual 213, 3) := by decide +kernel
theorem dX6_free_39 : decode cX6_free 39 = .ok (.ireturn, 1) := by decide +kernel
theorem dX6_licence_0 : decode cX6_licence 0 = .ok (.aload_n 0, 1) := by decide +kernel
theorem dX6_licence_1 : decode cX6_licence 1 = .ok (.iload_n 1, 1) := by decide +kernel
theorem dX6_licence_2 : decode cX6_licence 2 = .ok (.invokevirtual 63, 3) := by decide +kernel
theorem dX6_licence_5 : decode cX6_licence 5 = .ok (.ifCond .eq 21, 3) := by decide +kernel
theorem dX6_licence_8 : decode cX6_licence 8 = .ok (.iload_n 2, 1) := by decide +kernel
theorem dX6_licence_9 : decode cX6_licence 9 = .ok (.iconst 0, 1) := by decide +kernel
theorem dX6_licence_10 : decode cX6_licence 10 = .ok (.sipush 9999, 3) := by decide +kernel
theorem dX6_licence_13 : decode cX6_licence 13 = .ok (.invokestatic 103, 3) := by decide +kernel
theorem dX6_licence_16 : decode cX6_licence 16 = .ok (.ifCond .eq 10, 3) := by decide +kernel
theorem dX6_licence_19 : decode cX6_licence 19 = .ok (.iload_n 3, 1) := by decide +kernel
theorem dX6_licence_20 : decode cX6_licence 20 = .ok (.invokestatic 100, 3) := by decide +kernel
theorem dX6_licence_23 : decode cX6_licence 23 = .ok (.ifCond .ne 10, 3) := by decide +kernel
theorem dX6_licence_26 : decode cX6_licence 26 = .ok (.aload_n 0, 1) := by decide +kernel
theorem dX6_licence_27 : decode cX6_licence 27 = .ok (.ldc 44, 2) := by decide +kernel
theorem dX6_licence_29 : decode cX6_licence 29 = .ok (.invokevirtual 45, 3) := by decide +kernel
theorem dX6_licence_32 : decode cX6_licence 32 = .ok (.ireturn, 1) := by decide +kernel
theorem dX6_licence_33 : decode cX6_licence 33 = .ok (.aload_n 0, 1) := by decide +kernel
theorem dX6_licence_34 : decode cX6_licence 34 = .ok (.getfield 10, 3) := by decide +kernel
theorem dX6_licence_37 : decode cX6_licence 37 = .ok (.getfield 49, 3) := by decide +kernel
theorem dX6_licence_40 : decode cX6_licence 40 = .ok (.iload_n 1, 1) := by decide +kernel
theorem dX6_licence_41 : decode cX6_licence 41 = .ok (.invokevirtual 216, 3) := by decide +kernel
theorem dX6_licence_44 : decode cX6_licence 44 = .ok (.ifCond .ne 10, 3) := by decide +kernel
theorem dX6_licence_47 : decode cX6_licence 47 = .ok (.aload_n 0, 1) := by decide +kernel
theorem dX6_licence_48 : decode cX6_licence 48 = .ok (.ldc 74, 2) := by decide +kernel
theorem dX6_licence_50 : decode cX6_licence 50 = .ok (.invokevirtual 45, 3) := by decide +kernel
theorem dX6_licence_53 : decode cX6_licence 53 = .ok (.ireturn, 1) := by decide +kernel
theorem dX6_licence_54 : decode cX6_licence 54 = .ok (.aload_n 0, 1) := by decide +kernel
theorem dX6_licence_55 : decode cX6_licence 55 = .ok (.getfield 10, 3) := by decide +kernel
theorem dX6_licence_58 : decode cX6_licence 58 = .ok (.getfield 219, 3) := by decide +kernel
theorem dX6_licence_61 : decode cX6_licence 61 = .ok (.getfield 223, 3) := by decide +kernel
theorem dX6_licence_64 : decode cX6_licence 64 = .ok (.bipush 10, 2) := by decide +kernel
theorem dX6_licence_66 : decode cX6_licence 66 = .ok (.if_icmp .lt 10, 3) := by decide +kernel
theorem dX6_licence_69 : decode cX6_licence 69 = .ok (.aload_n 0, 1) := by decide +kernel
theorem dX6_licence_70 : decode cX6_licence 70 = .ok (.ldc 58, 2) := by decide +kernel
theorem dX6_licence_72 : decode cX6_licence 72 = .ok (.invokevirtual 45, 3) := by decide +kernel
theorem dX6_licence_75 : decode cX6_licence 75 = .ok (.ireturn, 1) := by decide +kernel
theorem dX6_licence_76 : decode cX6_licence 76 = .ok (.aload_n 0, 1) := by decide +kernel
theorem dX6_licence_77 : decode cX6_licence 77 = .ok (.getfield 10, 3) := by decide +kernel
theorem dX6_licence_80 : decode cX6_licence 80 = .ok (.getfield 219, 3) := by decide +kernel
theorem dX6_licence_83 : decode cX6_licence 83 = .ok (.iload_n 1, 1) := by decide +kernel
theorem dX6_licence_84 : decode cX6_licence 84 = .ok (.iload_n 2, 1) := by decide +kernel
theorem dX6_licence_85 : decode cX6_licence 85 = .ok (.iload_n 3, 1) := by decide +kernel
theorem dX6_licence_86 : decode cX6_licence 86 = .ok (.invokevirtual 226, 3) := by decide +kernel
theorem dX6_licence_89 : decode cX6_licence 89 = .ok (.ireturn, 1) := by decide +kernel
theorem dX6_serve_0 : decode cX6_serve 0 = .ok (.iload_n 1, 1) := by decide +kernel
theorem dX6_serve_1 : decode cX6_serve 1 = .ok (.invokestatic 158, 3) := by decide +kernel
theorem dX6_serve_4 : decode cX6_serve 4 = .ok (.ifCond .ne 10, 3) := by decide +kernel
theorem dX6_serve_7 : decode cX6_serve 7 = .ok (.aload_n 0, 1) := by decide +kernel
theorem dX6_serve_8 : decode cX6_serve 8 = .ok (.ldc 44, 2) := by decide +kernel
theorem dX6_serve_10 : decode cX6_serve 10 = .ok (.invokevirtual 45, 3) := by decide +kernel
theorem dX6_serve_13 : decode cX6_serve 13 = .ok (.ireturn, 1) := by decide +kernel
theorem dX6_serve_14 : decode cX6_serve 14 = .ok (.aload_n 0, 1) := by decide +kernel
theorem dX6_serve_15 : decode cX6_serve 15 = .ok (.getfield 10, 3) := by decide +kernel
theorem dX6_serve_18 : decode cX6_serve 18 = .ok (.iload_n 1, 1) := by decide +kernel
theorem dX6_serve_19 : decode cX6_serve 19 = .ok (.invokevirtual 229, 3) := by decide +kernel
theorem dX6_serve_22 : decode cX6_serve 22 = .ok (.aload_n 0, 1) := by decide +kernel
theorem dX6_serve_23 : decode cX6_serve 23 = .ok (.getfield 10, 3) := by decide +kernel
theorem dX6_serve_26 : decode cX6_serve 26 = .ok (.iload_n 1, 1) := by decide +kernel
theorem dX6_serve_27 : decode cX6_serve 27 = .ok (.invokevirtual 209, 3) := by decide +kernel
theorem dX6_serve_30 : decode cX6_serve 30 = .ok (.iconst 0, 1) := by decide +kernel
theorem dX6_serve_31 : decode cX6_serve 31 = .ok (.istore_n 2, 1) := by decide +kernel
theorem dX6_serve_32 : decode cX6_serve 32 = .ok (.iconst 0, 1) := by decide +kernel
theorem dX6_serve_33 : decode cX6_serve 33 = .ok (.istore_n 3, 1) := by decide +kernel
theorem dX6_serve_34 : decode cX6_serve 34 = .ok (.iload_n 3, 1) := by decide +kernel
theorem dX6_serve_35 : decode cX6_serve 35 = .ok (.aload_n 0, 1) := by decide +kernel
theorem dX6_serve_36 : decode cX6_serve 36 = .ok (.getfield 10, 3) := by decide +kernel
theorem dX6_serve_39 : decode cX6_serve 39 = .ok (.getfield 219, 3) := by decide +kernel
theorem dX6_serve_42 : decode cX6_serve 42 = .ok (.getfield 223, 3) := by decide +kernel
theorem dX6_serve_45 : decode cX6_serve 45 = .ok (.if_icmp .ge 64, 3) := by decide +kernel
theorem dX6_serve_48 : decode cX6_serve 48 = .ok (.aload_n 0, 1) := by decide +kernel
theorem dX6_serve_49 : decode cX6_serve 49 = .ok (.getfield 10, 3) := by decide +kernel
theorem dX6_serve_52 : decode cX6_serve 52 = .ok (.getfield 219, 3) := by decide +kernel
theorem dX6_serve_55 : decode cX6_serve 55 = .ok (.invokevirtual 232, 3) := by decide +kernel
theorem dX6_serve_58 : decode cX6_serve 58 = .ok (.istore 4, 2) := by decide +kernel
theorem dX6_serve_60 : decode cX6_serve 60 = .ok (.iload 4, 2) := by decide +kernel
theorem dX6_serve_62 : decode cX6_serve 62 = .ok (.ifCond .lt 41, 3) := by decide +kernel
theorem dX6_serve_65 : decode cX6_serve 65 = .ok (.aload_n 0, 1) := by decide +kernel
theorem dX6_serve_66 : decode cX6_serve 66 = .ok (.getfield 10, 3) := by decide +kernel
theorem dX6_serve_69 : decode cX6_serve 69 = .ok (.aload_n 0, 1) := by decide +kernel
theorem dX6_serve_70 : decode cX6_serve 70 = .ok (.getfield 10, 3) := by decide +kernel
theorem dX6_serve_73 : decode cX6_serve 73 = .ok (.getfield 219, 3) := by decide +kernel
theorem dX6_serve_76 : decode cX6_serve 76 = .ok (.getfield 236, 3) := by decide +kernel
theorem dX6_serve_79 : decode cX6_serve 79 = .ok (.iload 4, 2) := by decide +kernel
theorem dX6_serve_81 : decode cX6_serve 81 = .ok (.iaload, 1) := by decide +kernel
theorem dX6_serve_82 : decode cX6_serve 82 = .ok (.iload_n 1, 1) := by decide +kernel
theorem dX6_serve_83 : decode cX6_serve 83 = .ok (.invokevirtual 213, 3) := by decide +kernel
theorem dX6_serve_86 : decode cX6_serve 86 = .ok (.istore 5, 2) := by decide +kernel
theorem dX6_serve_88 : decode cX6_serve 88 = .ok (.iload_n 2, 1) := by decide +kernel
theorem dX6_serve_89 : decode cX6_serve 89 = .ok (.aload_n 0, 1) := by decide +kernel
theorem dX6_serve_90 : decode cX6_serve 90 = .ok (.getfield 10, 3) := by decide +kernel
theorem dX6_serve_93 : decode cX6_serve 93 = .ok (.iload 4, 2) := by decide +kernel
theorem dX6_serve_95 : decode cX6_serve 95 = .ok (.iload_n 1, 1) := by decide +kernel
theorem dX6_serve_96 : decode cX6_serve 96 = .ok (.iload 5, 2) := by decide +kernel
theorem dX6_serve_98 : decode cX6_serve 98 = .ok (.invokevirtual 238, 3) := by decide +kernel
theorem dX6_serve_101 : decode cX6_serve 101 = .ok (.iadd, 1) := by decide +kernel
theorem dX6_serve_102 : decode cX6_serve 102 = .ok (.istore_n 2, 1) := by decide +kernel
theorem dX6_serve_103 : decode cX6_serve 103 = .ok (.iinc 3 1, 3) := by decide +kernel
theorem dX6_serve_106 : decode cX6_serve 106 = .ok (.goto (-72), 3) := by decide +kernel
theorem dX6_serve_109 : decode cX6_serve 109 = .ok (.iload_n 2, 1) := by decide +kernel
theorem dX6_serve_110 : decode cX6_serve 110 = .ok (.ireturn, 1) := by decide +kernel
theorem dX6_served_0 : decode cX6_served 0 = .ok (.iload_n 1, 1) := by decide +kernel
theorem dX6_served_1 : decode cX6_served 1 = .ok (.iconst 0, 1) := by decide +kernel
theorem dX6_served_2 : decode cX6_served 2 = .ok (.aload_n 0, 1) := by decide +kernel
theorem dX6_served_3 : decode cX6_served 3 = .ok (.getfield 10, 3) := by decide +kernel
theorem dX6_served_6 : decode cX6_served 6 = .ok (.getfield 219, 3) := by decide +kernel
theorem dX6_served_9 : decode cX6_served 9 = .ok (.getfield 223, 3) := by decide +kernel
theorem dX6_served_12 : decode cX6_served 12 = .ok (.iconst 1, 1) := by decide +kernel
theorem dX6_served_13 : decode cX6_served 13 = .ok (.isub, 1) := by decide +kernel
theorem dX6_served_14 : decode cX6_served 14 = .ok (.invokestatic 103, 3) := by decide +kernel
theorem dX6_served_17 : decode cX6_served 17 = .ok (.ifCond .ne 10, 3) := by decide +kernel
theorem dX6_served_20 : decode cX6_served 20 = .ok (.aload_n 0, 1) := by decide +kernel
theorem dX6_served_21 : decode cX6_served 21 = .ok (.ldc 44, 2) := by decide +kernel
theorem dX6_served_23 : decode cX6_served 23 = .ok (.invokevirtual 45, 3) := by decide +kernel
theorem dX6_served_26 : decode cX6_served 26 = .ok (.ireturn, 1) := by decide +kernel
theorem dX6_served_27 : decode cX6_served 27 = .ok (.aload_n 0, 1) := by decide +kernel
theorem dX6_served_28 : decode cX6_served 28 = .ok (.getfield 10, 3) := by decide +kernel
theorem dX6_served_31 : decode cX6_served 31 = .ok (.getfield 219, 3) := by decide +kernel
theorem dX6_served_34 : decode cX6_served 34 = .ok (.getfield 241, 3) := by decide +kernel
theorem dX6_served_37 : decode cX6_served 37 = .ok (.iload_n 1, 1) := by decide +kernel
theorem dX6_served_38 : decode cX6_served 38 = .ok (.iaload, 1) := by decide +kernel
theorem dX6_served_39 : decode cX6_served 39 = .ok (.istore_n 3, 1) := by decide +kernel
theorem dX6_served_40 : decode cX6_served 40 = .ok (.iload_n 3, 1) := by decide +kernel
theorem dX6_served_41 : decode cX6_served 41 = .ok (.iconst (-1), 1) := by decide +kernel
theorem dX6_served_42 : decode cX6_served 42 = .ok (.if_icmp .ne 10, 3) := by decide +kernel
theorem dX6_served_45 : decode cX6_served 45 = .ok (.aload_n 0, 1) := by decide +kernel
theorem dX6_served_46 : decode cX6_served 46 = .ok (.ldc 205, 2) := by decide +kernel
theorem dX6_served_48 : decode cX6_served 48 = .ok (.invokevirtual 45, 3) := by decide +kernel
theorem dX6_served_51 : decode cX6_served 51 = .ok (.ireturn, 1) := by decide +kernel
theorem dX6_served_52 : decode cX6_served 52 = .ok (.iload_n 2, 1) := by decide +kernel
theorem dX6_served_53 : decode cX6_served 53 = .ok (.ifCond .eq 20, 3) := by decide +kernel
theorem dX6_served_56 : decode cX6_served 56 = .ok (.aload_n 0, 1) := by decide +kernel
theorem dX6_served_57 : decode cX6_served 57 = .ok (.getfield 10, 3) := by decide +kernel
theorem dX6_served_60 : decode cX6_served 60 = .ok (.getfield 219, 3) := by decide +kernel
theorem dX6_served_63 : decode cX6_served 63 = .ok (.getfield 244, 3) := by decide +kernel
theorem dX6_served_66 : decode cX6_served 66 = .ok (.iload_n 1, 1) := by decide +kernel
theorem dX6_served_67 : decode cX6_served 67 = .ok (.iaload, 1) := by decide +kernel
theorem dX6_served_68 : decode cX6_served 68 = .ok (.iload_n 3, 1) := by decide +kernel
theorem dX6_served_69 : decode cX6_served 69 = .ok (.isub, 1) := by decide +kernel
theorem dX6_served_70 : decode cX6_served 70 = .ok (.goto 4, 3) := by decide +kernel
theorem dX6_served_73 : decode cX6_served 73 = .ok (.iload_n 3, 1) := by decide +kernel
theorem dX6_served_74 : decode cX6_served 74 = .ok (.ireturn, 1) := by decide +kernel
theorem dX6_hold_0 : decode cX6_hold 0 = .ok (.aload_n 0, 1) := by decide +kernel
theorem dX6_hold_1 : decode cX6_hold 1 = .ok (.iload_n 1, 1) := by decide +kernel
theorem dX6_hold_2 : decode cX6_hold 2 = .ok (.invokevirtual 63, 3) := by decide +kernel
theorem dX6_hold_5 : decode cX6_hold 5 = .ok (.ifCond .eq 17, 3) := by decide +kernel
theorem dX6_hold_8 : decode cX6_hold 8 = .ok (.iload_n 2, 1) := by decide +kernel
theorem dX6_hold_9 : decode cX6_hold 9 = .ok (.invokestatic 158, 3) := by decide +kernel
theorem dX6_hold_12 : decode cX6_hold 12 = .ok (.ifCond .eq 10, 3) := by decide +kernel
theorem dX6_hold_15 : decode cX6_hold 15 = .ok (.iload_n 3, 1) := by decide +kernel
theorem dX6_hold_16 : decode cX6_hold 16 = .ok (.invokestatic 41, 3) := by decide +kernel
theorem dX6_hold_19 : decode cX6_hold 19 = .ok (.ifCond .ne 10, 3) := by decide +kernel
theorem dX6_hold_22 : decode cX6_hold 22 = .ok (.aload_n 0, 1) := by decide +kernel
theorem dX6_hold_23 : decode cX6_hold 23 = .ok (.ldc 44, 2) := by decide +kernel
theorem dX6_hold_25 : decode cX6_hold 25 = .ok (.invokevirtual 45, 3) := by decide +kernel
theorem dX6_hold_28 : decode cX6_hold 28 = .ok (.ireturn, 1) := by decide +kernel
theorem dX6_hold_29 : decode cX6_hold 29 = .ok (.aload_n 0, 1) := by decide +kernel
theorem dX6_hold_30 : decode cX6_hold 30 = .ok (.getfield 10, 3) := by decide +kernel
theorem dX6_hold_33 : decode cX6_hold 33 = .ok (.getfield 49, 3) := by decide +kernel
theorem dX6_hold_36 : decode cX6_hold 36 = .ok (.getfield 75, 3) := by decide +kernel
theorem dX6_hold_39 : decode cX6_hold 39 = .ok (.iload_n 1, 1) := by decide +kernel
theorem dX6_hold_40 : decode cX6_hold 40 = .ok (.iaload, 1) := by decide +kernel
theorem dX6_hold_41 : decode cX6_hold 41 = .ok (.iconst 4, 1) := by decide +kernel
theorem dX6_hold_42 : decode cX6_hold 42 = .ok (.if_icmp .eq 10, 3) := by decide +kernel
theorem dX6_hold_45 : decode cX6_hold 45 = .ok (.aload_n 0, 1) := by decide +kernel
theorem dX6_hold_46 : decode cX6_hold 46 = .ok (.ldc 74, 2) := by decide +kernel
theorem dX6_hold_48 : decode cX6_hold 48 = .ok (.invokevirtual 45, 3) := by decide +kernel
theorem dX6_hold_51 : decode cX6_hold 51 = .ok (.ireturn, 1) := by decide +kernel
theorem dX6_hold_52 : decode cX6_hold 52 = .ok (.aload_n 0, 1) := by decide +kernel
theorem dX6_hold_53 : decode cX6_hold 53 = .ok (.getfield 10, 3) := by decide +kernel
theorem dX6_hold_56 : decode cX6_hold 56 = .ok (.iload_n 1, 1) := by decide +kernel
theorem dX6_hold_57 : decode cX6_hold 57 = .ok (.iload_n 2, 1) := by decide +kernel
theorem dX6_hold_58 : decode cX6_hold 58 = .ok (.iload_n 3, 1) := by decide +kernel
theorem dX6_hold_59 : decode cX6_hold 59 = .ok (.invokevirtual 247, 3) := by decide +kernel
theorem dX6_hold_62 : decode cX6_hold 62 = .ok (.istore 4, 2) := by decide +kernel
theorem dX6_hold_64 : decode cX6_hold 64 = .ok (.iload 4, 2) := by decide +kernel
theorem dX6_hold_66 : decode cX6_hold 66 = .ok (.sipush 1000, 3) := by decide +kernel
theorem dX6_hold_69 : decode cX6_hold 69 = .ok (.if_icmp .le 10, 3) := by decide +kernel
theorem dX6_hold_72 : decode cX6_hold 72 = .ok (.aload_n 0, 1) := by decide +kernel
theorem dX6_hold_73 : decode cX6_hold 73 = .ok (.ldc 205, 2) := by decide +kernel
theorem dX6_hold_75 : decode cX6_hold 75 = .ok (.invokevirtual 45, 3) := by decide +kernel
theorem dX6_hold_78 : decode cX6_hold 78 = .ok (.ireturn, 1) := by decide +kernel
theorem dX6_hold_79 : decode cX6_hold 79 = .ok (.aload_n 0, 1) := by decide +kernel
theorem dX6_hold_80 : decode cX6_hold 80 = .ok (.getfield 10, 3) := by decide +kernel
theorem dX6_hold_83 : decode cX6_hold 83 = .ok (.iload_n 1, 1) := by decide +kernel
theorem dX6_hold_84 : decode cX6_hold 84 = .ok (.iload_n 2, 1) := by decide +kernel
theorem dX6_hold_85 : decode cX6_hold 85 = .ok (.iload 4, 2) := by decide +kernel
theorem dX6_hold_87 : decode cX6_hold 87 = .ok (.invokevirtual 176, 3) := by decide +kernel
theorem dX6_hold_90 : decode cX6_hold 90 = .ok (.iload 4, 2) := by decide +kernel
theorem dX6_hold_92 : decode cX6_hold 92 = .ok (.ireturn, 1) := by decide +kernel
theorem dX6_move_0 : decode cX6_move 0 = .ok (.aload_n 0, 1) := by decide +kernel
theorem dX6_move_1 : decode cX6_move 1 = .ok (.iload_n 1, 1) := by decide +kernel
theorem dX6_move_2 : decode cX6_move 2 = .ok (.invokevirtual 63, 3) := by decide +kernel
theorem dX6_move_5 : decode cX6_move 5 = .ok (.ifCond .eq 23, 3) := by decide +kernel
theorem dX6_move_8 : decode cX6_move 8 = .ok (.aload_n 0, 1) := by decide +kernel
theorem dX6_move_9 : decode cX6_move 9 = .ok (.iload_n 3, 1) := by decide +kernel
theorem dX6_move_10 : decode cX6_move 10 = .ok (.invokevirtual 63, 3) := by decide +kernel
theorem dX6_move_13 : decode cX6_move 13 = .ok (.ifCond .eq 15, 3) := by decide +kernel
theorem dX6_move_16 : decode cX6_move 16 = .ok (.iload_n 1, 1) := by decide +kernel
theorem dX6_move_17 : decode cX6_move 17 = .ok (.iload_n 3, 1) := by decide +kernel
theorem dX6_move_18 : decode cX6_move 18 = .ok (.if_icmp .eq 10, 3) := by decide +kernel
theorem dX6_move_21 : decode cX6_move 21 = .ok (.iload_n 2, 1) := by decide +kernel
theorem dX6_move_22 : decode cX6_move 22 = .ok (.invokestatic 158, 3) := by decide +kernel
theorem dX6_move_25 : decode cX6_move 25 = .ok (.ifCond .ne 10, 3) := by decide +kernel
theorem dX6_move_28 : decode cX6_move 28 = .ok (.aload_n 0, 1) := by decide +kernel
theorem dX6_move_29 : decode cX6_move 29 = .ok (.ldc 44, 2) := by decide +kernel
theorem dX6_move_31 : decode cX6_move 31 = .ok (.invokevirtual 45, 3) := by decide +kernel
theorem dX6_move_34 : decode cX6_move 34 = .ok (.ireturn, 1) := by decide +kernel
theorem dX6_move_35 : decode cX6_move 35 = .ok (.aload_n 0, 1) := by decide +kernel
theorem dX6_move_36 : decode cX6_move 36 = .ok (.getfield 10, 3) := by decide +kernel
theorem dX6_move_39 : decode cX6_move 39 = .ok (.getfield 49, 3) := by decide +kernel
theorem dX6_move_42 : decode cX6_move 42 = .ok (.iload_n 1, 1) := by decide +kernel
theorem dX6_move_43 : decode cX6_move 43 = .ok (.invokevirtual 216, 3) := by decide +kernel
theorem dX6_move_46 : decode cX6_move 46 = .ok (.ifCond .eq 17, 3) := by decide +kernel
theorem dX6_move_49 : decode cX6_move 49 = .ok (.aload_n 0, 1) := by decide +kernel
theorem dX6_move_50 : decode cX6_move 50 = .ok (.getfield 10, 3) := by decide +kernel
theorem dX6_move_53 : decode cX6_move 53 = .ok (.getfield 49, 3) := by decide +kernel
theorem dX6_move_56 : decode cX6_move 56 = .ok (.iload_n 3, 1) := by decide +kernel
theorem dX6_move_57 : decode cX6_move 57 = .ok (.invokevirtual 216, 3) := by decide +kernel
theorem dX6_move_60 : decode cX6_move 60 = .ok (.ifCond .ne 10, 3) := by decide +kernel
theorem dX6_move_63 : decode cX6_move 63 = .ok (.aload_n 0, 1) := by decide +kernel
theorem dX6_move_64 : decode cX6_move 64 = .ok (.ldc 74, 2) := by decide +kernel
theorem dX6_move_66 : decode cX6_move 66 = .ok (.invokevirtual 45, 3) := by decide +kernel
theorem dX6_move_69 : decode cX6_move 69 = .ok (.ireturn, 1) := by decide +kernel
theorem dX6_move_70 : decode cX6_move 70 = .ok (.aload_n 0, 1) := by decide +kernel
theorem dX6_move_71 : decode cX6_move 71 = .ok (.getfield 10, 3) := by decide +kernel
theorem dX6_move_74 : decode cX6_move 74 = .ok (.iload_n 1, 1) := by decide +kernel
theorem dX6_move_75 : decode cX6_move 75 = .ok (.iload_n 2, 1) := by decide +kernel
theorem dX6_move_76 : decode cX6_move 76 = .ok (.iload_n 3, 1) := by decide +kernel
theorem dX6_move_77 : decode cX6_move 77 = .ok (.invokevirtual 250, 3) := by decide +kernel
theorem dX6_move_80 : decode cX6_move 80 = .ok (.istore 4, 2) := by decide +kernel
theorem dX6_move_82 : decode cX6_move 82 = .ok (.aload_n 0, 1) := by decide +kernel
theorem dX6_move_83 : decode cX6_move 83 = .ok (.getfield 10, 3) := by decide +kernel
theorem dX6_move_86 : decode cX6_move 86 = .ok (.iload_n 1, 1) := by decide +kernel
theorem dX6_move_87 : decode cX6_move 87 = .ok (.iload_n 2, 1) := by decide +kernel
theorem dX6_move_88 : decode cX6_move 88 = .ok (.iload 4, 2) := by decide +kernel
theorem dX6_move_90 : decode cX6_move 90 = .ok (.invokevirtual 176, 3) := by decide +kernel
theorem dX6_move_93 : decode cX6_move 93 = .ok (.aload_n 0, 1) := by decide +kernel
theorem dX6_move_94 : decode cX6_move 94 = .ok (.getfield 10, 3) := by decide +kernel
theorem dX6_move_97 : decode cX6_move 97 = .ok (.iload_n 3, 1) := by decide +kernel
theorem dX6_move_98 : decode cX6_move 98 = .ok (.iload_n 2, 1) := by decide +kernel
theorem dX6_move_99 : decode cX6_move 99 = .ok (.iconst 0, 1) := by decide +kernel
theorem dX6_move_100 : decode cX6_move 100 = .ok (.invokevirtual 176, 3) := by decide +kernel
theorem dX6_move_103 : decode cX6_move 103 = .ok (.iload 4, 2) := by decide +kernel
theorem dX6_move_105 : decode cX6_move 105 = .ok (.ireturn, 1) := by decide +kernel
theorem dX6_read_0 : decode cX6_read 0 = .ok (.aload_n 0, 1) := by decide +kernel
theorem dX6_read_1 : decode cX6_read 1 = .ok (.iload_n 1, 1) := by decide +kernel
theorem dX6_read_2 : decode cX6_read 2 = .ok (.invokevirtual 63, 3) := by decide +kernel
theorem dX6_read_5 : decode cX6_read 5 = .ok (.ifCond .eq 21, 3) := by decide +kernel
theorem dX6_read_8 : decode cX6_read 8 = .ok (.iload_n 2, 1) := by decide +kernel
theorem dX6_read_9 : decode cX6_read 9 = .ok (.invokestatic 158, 3) := by decide +kernel
theorem dX6_read_12 : decode cX6_read 12 = .ok (.ifCond .eq 14, 3) := by decide +kernel
theorem dX6_read_15 : decode cX6_read 15 = .ok (.iload_n 3, 1) := by decide +kernel
theorem dX6_read_16 : decode cX6_read 16 = .ok (.ldc 253, 2) := by decide +kernel
theorem dX6_read_18 : decode cX6_read 18 = .ok (.ldc 254, 2) := by decide +kernel
theorem dX6_read_20 : decode cX6_read 20 = .ok (.invokestatic 103, 3) := by decide +kernel
theorem dX6_read_23 : decode cX6_read 23 = .ok (.ifCond .ne 10, 3) := by decide +kernel
theorem dX6_read_26 : decode cX6_read 26 = .ok (.aload_n 0, 1) := by decide +kernel
theorem dX6_read_27 : decode cX6_read 27 = .ok (.ldc 44, 2) := by decide +kernel
theorem dX6_read_29 : decode cX6_read 29 = .ok (.invokevirtual 45, 3) := by decide +kernel
theorem dX6_read_32 : decode cX6_read 32 = .ok (.ireturn, 1) := by decide +kernel
theorem dX6_read_33 : decode cX6_read 33 = .ok (.aload_n 0, 1) := by decide +kernel
theorem dX6_read_34 : decode cX6_read 34 = .ok (.getfield 10, 3) := by decide +kernel
theorem dX6_read_37 : decode cX6_read 37 = .ok (.getfield 255, 3) := by decide +kernel
theorem dX6_read_40 : decode cX6_read 40 = .ok (.iload_n 1, 1) := by decide +kernel
theorem dX6_read_41 : decode cX6_read 41 = .ok (.iload_n 2, 1) := by decide +kernel
theorem dX6_read_42 : decode cX6_read 42 = .ok (.invokevirtual 259, 3) := by decide +kernel
theorem dX6_read_45 : decode cX6_read 45 = .ok (.ifCond .ne 25, 3) := by decide +kernel
theorem dX6_read_48 : decode cX6_read 48 = .ok (.aload_n 0, 1) := by decide +kernel
theorem dX6_read_49 : decode cX6_read 49 = .ok (.getfield 10, 3) := by decide +kernel
theorem dX6_read_52 : decode cX6_read 52 = .ok (.getfield 255, 3) := by decide +kernel
theorem dX6_read_55 : decode cX6_read 55 = .ok (.getfield 264, 3) := by decide +kernel
theorem dX6_read_58 : decode cX6_read 58 = .ok (.bipush 40, 2) := by decide +kernel
theorem dX6_read_60 : decode cX6_read 60 = .ok (.if_icmp .lt 10, 3) := by decide +kernel
theorem dX6_read_63 : decode cX6_read 63 = .ok (.aload_n 0, 1) := by decide +kernel
theorem dX6_read_64 : decode cX6_read 64 = .ok (.ldc 58, 2) := by decide +kernel
theorem dX6_read_66 : decode cX6_read 66 = .ok (.invokevirtual 45, 3) := by decide +kernel
theorem dX6_read_69 : decode cX6_read 69 = .ok (.ireturn, 1) := by decide +kernel
theorem dX6_read_70 : decode cX6_read 70 = .ok (.aload_n 0, 1) := by decide +kernel
theorem dX6_read_71 : decode cX6_read 71 = .ok (.getfield 10, 3) := by decide +kernel
theorem dX6_read_74 : decode cX6_read 74 = .ok (.getfield 255, 3) := by decide +kernel
theorem dX6_read_77 : decode cX6_read 77 = .ok (.iload_n 1, 1) := by decide +kernel
theorem dX6_read_78 : decode cX6_read 78 = .ok (.iload_n 2, 1) := by decide +kernel
theorem dX6_read_79 : decode cX6_read 79 = .ok (.iload_n 3, 1) := by decide +kernel
theorem dX6_read_80 : decode cX6_read 80 = .ok (.invokevirtual 265, 3) := by decide +kernel
theorem dX6_read_83 : decode cX6_read 83 = .ok (.aload_n 0, 1) := by decide +kernel
theorem dX6_read_84 : decode cX6_read 84 = .ok (.getfield 10, 3) := by decide +kernel
theorem dX6_read_87 : decode cX6_read 87 = .ok (.getfield 255, 3) := by decide +kernel
theorem dX6_read_90 : decode cX6_read 90 = .ok (.getfield 264, 3) := by decide +kernel
theorem dX6_read_93 : decode cX6_read 93 = .ok (.ireturn, 1) := by decide +kernel
theorem dX6_differ_0 : decode cX6_differ 0 = .ok (.aload_n 0, 1) := by decide +kernel
theorem dX6_differ_1 : decode cX6_differ 1 = .ok (.iload_n 1, 1) := by decide +kernel
theorem dX6_differ_2 : decode cX6_differ 2 = .ok (.invokevirtual 63, 3) := by decide +kernel
theorem dX6_differ_5 : decode cX6_differ 5 = .ok (.ifCond .eq 10, 3) := by decide +kernel
theorem dX6_differ_8 : decode cX6_differ 8 = .ok (.iload_n 2, 1) := by decide +kernel
theorem dX6_differ_9 : decode cX6_differ 9 = .ok (.invokestatic 158, 3) := by decide +kernel
theorem dX6_differ_12 : decode cX6_differ 12 = .ok (.ifCond .ne 10, 3) := by decide +kernel
theorem dX6_differ_15 : decode cX6_differ 15 = .ok (.aload_n 0, 1) := by decide +kernel
theorem dX6_differ_16 : decode cX6_differ 16 = .ok (.ldc 44, 2) := by decide +kernel
theorem dX6_differ_18 : decode cX6_differ 18 = .ok (.invokevirtual 45, 3) := by decide +kernel
theorem dX6_differ_21 : decode cX6_differ 21 = .ok (.ireturn, 1) := by decide +kernel
theorem dX6_differ_22 : decode cX6_differ 22 = .ok (.aload_n 0, 1) := by decide +kernel
theorem dX6_differ_23 : decode cX6_differ 23 = .ok (.getfield 10, 3) := by decide +kernel
theorem dX6_differ_26 : decode cX6_differ 26 = .ok (.getfield 255, 3) := by decide +kernel
theorem dX6_differ_29 : decode cX6_differ 29 = .ok (.iload_n 1, 1) := by decide +kernel
theorem dX6_differ_30 : decode cX6_differ 30 = .ok (.iload_n 2, 1) := by decide +kernel
theorem dX6_differ_31 : decode cX6_differ 31 = .ok (.invokevirtual 259, 3) := by decide +kernel
theorem dX6_differ_34 : decode cX6_differ 34 = .ok (.ifCond .eq 15, 3) := by decide +kernel
theorem dX6_differ_37 : decode cX6_differ 37 = .ok (.aload_n 0, 1) := by decide +kernel
theorem dX6_differ_38 : decode cX6_differ 38 = .ok (.getfield 10, 3) := by decide +kernel
theorem dX6_differ_41 : decode cX6_differ 41 = .ok (.iload_n 1, 1) := by decide +kernel
theorem dX6_differ_42 : decode cX6_differ 42 = .ok (.iload_n 2, 1) := by decide +kernel
theorem dX6_differ_43 : decode cX6_differ 43 = .ok (.invokevirtual 267, 3) := by decide +kernel
theorem dX6_differ_46 : decode cX6_differ 46 = .ok (.goto 9, 3) := by decide +kernel
theorem dX6_differ_49 : decode cX6_differ 49 = .ok (.aload_n 0, 1) := by decide +kernel
theorem dX6_differ_50 : decode cX6_differ 50 = .ok (.ldc 205, 2) := by decide +kernel
theorem dX6_differ_52 : decode cX6_differ 52 = .ok (.invokevirtual 45, 3) := by decide +kernel
theorem dX6_differ_55 : decode cX6_differ 55 = .ok (.ireturn, 1) := by decide +kernel
theorem dX6_fit_0 : decode cX6_fit 0 = .ok (.iload_n 1, 1) := by decide +kernel
theorem dX6_fit_1 : decode cX6_fit 1 = .ok (.invokestatic 94, 3) := by decide +kernel
theorem dX6_fit_4 : decode cX6_fit 4 = .ok (.ifCond .eq 10, 3) := by decide +kernel
theorem dX6_fit_7 : decode cX6_fit 7 = .ok (.iload_n 2, 1) := by decide +kernel
theorem dX6_fit_8 : decode cX6_fit 8 = .ok (.invokestatic 97, 3) := by decide +kernel
theorem dX6_fit_11 : decode cX6_fit 11 = .ok (.ifCond .ne 10, 3) := by decide +kernel
theorem dX6_fit_14 : decode cX6_fit 14 = .ok (.aload_n 0, 1) := by decide +kernel
theorem dX6_fit_15 : decode cX6_fit 15 = .ok (.ldc 44, 2) := by decide +kernel
theorem dX6_fit_17 : decode cX6_fit 17 = .ok (.invokevirtual 45, 3) := by decide +kernel
theorem dX6_fit_20 : decode cX6_fit 20 = .ok (.ireturn, 1) := by decide +kernel
theorem dX6_fit_21 : decode cX6_fit 21 = .ok (.aload_n 0, 1) := by decide +kernel
theorem dX6_fit_22 : decode cX6_fit 22 = .ok (.getfield 10, 3) := by decide +kernel
theorem dX6_fit_25 : decode cX6_fit 25 = .ok (.getfield 255, 3) := by decide +kernel
theorem dX6_fit_28 : decode cX6_fit 28 = .ok (.getfield 264, 3) := by decide +kernel
theorem dX6_fit_31 : decode cX6_fit 31 = .ok (.ifCond .ne 10, 3) := by decide +kernel
theorem dX6_fit_34 : decode cX6_fit 34 = .ok (.aload_n 0, 1) := by decide +kernel
theorem dX6_fit_35 : decode cX6_fit 35 = .ok (.ldc 205, 2) := by decide +kernel
theorem dX6_fit_37 : decode cX6_fit 37 = .ok (.invokevirtual 45, 3) := by decide +kernel
theorem dX6_fit_40 : decode cX6_fit 40 = .ok (.ireturn, 1) := by decide +kernel
theorem dX6_fit_41 : decode cX6_fit 41 = .ok (.aload_n 0, 1) := by decide +kernel
theorem dX6_fit_42 : decode cX6_fit 42 = .ok (.getfield 10, 3) := by decide +kernel
theorem dX6_fit_45 : decode cX6_fit 45 = .ok (.getfield 107, 3) := by decide +kernel
theorem dX6_fit_48 : decode cX6_fit 48 = .ok (.iload_n 1, 1) := by decide +kernel
theorem dX6_fit_49 : decode cX6_fit 49 = .ok (.iload_n 2, 1) := by decide +kernel
theorem dX6_fit_50 : decode cX6_fit 50 = .ok (.invokevirtual 270, 3) := by decide +kernel
theorem dX6_fit_53 : decode cX6_fit 53 = .ok (.bipush 50, 2) := by decide +kernel
theorem dX6_fit_55 : decode cX6_fit 55 = .ok (.istore_n 3, 1) := by decide +kernel
theorem dX6_fit_56 : decode cX6_fit 56 = .ok (.ldc2_w 275, 3) := by decide +kernel
end
section
theorem dX6_fit_59 : decode cX6_fit 59 = .ok (.lstore 4, 2) := by decide +kernel
theorem dX6_fit_61 : decode cX6_fit 61 = .ok (.bipush 50, 2) := by decide +kernel
theorem dX6_fit_63 : decode cX6_fit 63 = .ok (.istore 6, 2) := by decide +kernel
theorem dX6_fit_65 : decode cX6_fit 65 = .ok (.iload 6, 2) := by decide +kernel
theorem dX6_fit_67 : decode cX6_fit 67 = .ok (.sipush 150, 3) := by decide +kernel
theorem dX6_fit_70 : decode cX6_fit 70 = .ok (.if_icmp .gt 47, 3) := by decide +kernel
theorem dX6_fit_73 : decode cX6_fit 73 = .ok (.aload_n 0, 1) := by decide +kernel
theorem dX6_fit_74 : decode cX6_fit 74 = .ok (.getfield 10, 3) := by decide +kernel
theorem dX6_fit_77 : decode cX6_fit 77 = .ok (.getfield 107, 3) := by decide +kernel
theorem dX6_fit_80 : decode cX6_fit 80 = .ok (.iload_n 1, 1) := by decide +kernel
theorem dX6_fit_81 : decode cX6_fit 81 = .ok (.iload_n 2, 1) := by decide +kernel
theorem dX6_fit_82 : decode cX6_fit 82 = .ok (.iload 6, 2) := by decide +kernel
theorem dX6_fit_84 : decode cX6_fit 84 = .ok (.invokevirtual 277, 3) := by decide +kernel
theorem dX6_fit_87 : decode cX6_fit 87 = .ok (.aload_n 0, 1) := by decide +kernel
theorem dX6_fit_88 : decode cX6_fit 88 = .ok (.getfield 10, 3) := by decide +kernel
theorem dX6_fit_91 : decode cX6_fit 91 = .ok (.invokevirtual 280, 3) := by decide +kernel
theorem dX6_fit_94 : decode cX6_fit 94 = .ok (.lstore 7, 2) := by decide +kernel
theorem dX6_fit_96 : decode cX6_fit 96 = .ok (.lload 7, 2) := by decide +kernel
theorem dX6_fit_98 : decode cX6_fit 98 = .ok (.lload 4, 2) := by decide +kernel
theorem dX6_fit_100 : decode cX6_fit 100 = .ok (.lcmp, 1) := by decide +kernel
theorem dX6_fit_101 : decode cX6_fit 101 = .ok (.ifCond .ge 10, 3) := by decide +kernel
theorem dX6_fit_104 : decode cX6_fit 104 = .ok (.lload 7, 2) := by decide +kernel
theorem dX6_fit_106 : decode cX6_fit 106 = .ok (.lstore 4, 2) := by decide +kernel
theorem dX6_fit_108 : decode cX6_fit 108 = .ok (.iload 6, 2) := by decide +kernel
theorem dX6_fit_110 : decode cX6_fit 110 = .ok (.istore_n 3, 1) := by decide +kernel
theorem dX6_fit_111 : decode cX6_fit 111 = .ok (.iinc 6 10, 3) := by decide +kernel
theorem dX6_fit_114 : decode cX6_fit 114 = .ok (.goto (-49), 3) := by decide +kernel
theorem dX6_fit_117 : decode cX6_fit 117 = .ok (.aload_n 0, 1) := by decide +kernel
theorem dX6_fit_118 : decode cX6_fit 118 = .ok (.getfield 10, 3) := by decide +kernel
theorem dX6_fit_121 : decode cX6_fit 121 = .ok (.getfield 107, 3) := by decide +kernel
theorem dX6_fit_124 : decode cX6_fit 124 = .ok (.iload_n 1, 1) := by decide +kernel
theorem dX6_fit_125 : decode cX6_fit 125 = .ok (.iload_n 2, 1) := by decide +kernel
theorem dX6_fit_126 : decode cX6_fit 126 = .ok (.iload_n 3, 1) := by decide +kernel
theorem dX6_fit_127 : decode cX6_fit 127 = .ok (.invokevirtual 277, 3) := by decide +kernel
theorem dX6_fit_130 : decode cX6_fit 130 = .ok (.iload_n 3, 1) := by decide +kernel
theorem dX6_fit_131 : decode cX6_fit 131 = .ok (.ireturn, 1) := by decide +kernel
theorem dX6_squares_0 : decode cX6_squares 0 = .ok (.aload_n 0, 1) := by decide +kernel
theorem dX6_squares_1 : decode cX6_squares 1 = .ok (.getfield 10, 3) := by decide +kernel
theorem dX6_squares_4 : decode cX6_squares 4 = .ok (.invokevirtual 280, 3) := by decide +kernel
theorem dX6_squares_7 : decode cX6_squares 7 = .ok (.lreturn, 1) := by decide +kernel
theorem dX6_keep_0 : decode cX6_keep 0 = .ok (.aload_n 0, 1) := by decide +kernel
theorem dX6_keep_1 : decode cX6_keep 1 = .ok (.getfield 16, 3) := by decide +kernel
theorem dX6_keep_4 : decode cX6_keep 4 = .ok (.aload_n 0, 1) := by decide +kernel
theorem dX6_keep_5 : decode cX6_keep 5 = .ok (.getfield 10, 3) := by decide +kernel
theorem dX6_keep_8 : decode cX6_keep 8 = .ok (.invokevirtual 284, 3) := by decide +kernel
theorem dX6_keep_11 : decode cX6_keep 11 = .ok (.aload_n 0, 1) := by decide +kernel
theorem dX6_keep_12 : decode cX6_keep 12 = .ok (.iconst 1, 1) := by decide +kernel
theorem dX6_keep_13 : decode cX6_keep 13 = .ok (.putfield 19, 3) := by decide +kernel
theorem dX6_keep_16 : decode cX6_keep 16 = .ok (.aload_n 0, 1) := by decide +kernel
theorem dX6_keep_17 : decode cX6_keep 17 = .ok (.getfield 10, 3) := by decide +kernel
theorem dX6_keep_20 : decode cX6_keep 20 = .ok (.getfield 49, 3) := by decide +kernel
theorem dX6_keep_23 : decode cX6_keep 23 = .ok (.getfield 53, 3) := by decide +kernel
theorem dX6_keep_26 : decode cX6_keep 26 = .ok (.ireturn, 1) := by decide +kernel
theorem dX6_back_0 : decode cX6_back 0 = .ok (.aload_n 0, 1) := by decide +kernel
theorem dX6_back_1 : decode cX6_back 1 = .ok (.getfield 19, 3) := by decide +kernel
theorem dX6_back_4 : decode cX6_back 4 = .ok (.ifCond .ne 10, 3) := by decide +kernel
theorem dX6_back_7 : decode cX6_back 7 = .ok (.aload_n 0, 1) := by decide +kernel
theorem dX6_back_8 : decode cX6_back 8 = .ok (.ldc 205, 2) := by decide +kernel
theorem dX6_back_10 : decode cX6_back 10 = .ok (.invokevirtual 45, 3) := by decide +kernel
theorem dX6_back_13 : decode cX6_back 13 = .ok (.ireturn, 1) := by decide +kernel
theorem dX6_back_14 : decode cX6_back 14 = .ok (.aload_n 0, 1) := by decide +kernel
theorem dX6_back_15 : decode cX6_back 15 = .ok (.getfield 10, 3) := by decide +kernel
theorem dX6_back_18 : decode cX6_back 18 = .ok (.aload_n 0, 1) := by decide +kernel
theorem dX6_back_19 : decode cX6_back 19 = .ok (.getfield 16, 3) := by decide +kernel
theorem dX6_back_22 : decode cX6_back 22 = .ok (.invokevirtual 284, 3) := by decide +kernel
theorem dX6_back_25 : decode cX6_back 25 = .ok (.aload_n 0, 1) := by decide +kernel
theorem dX6_back_26 : decode cX6_back 26 = .ok (.getfield 10, 3) := by decide +kernel
theorem dX6_back_29 : decode cX6_back 29 = .ok (.getfield 49, 3) := by decide +kernel
theorem dX6_back_32 : decode cX6_back 32 = .ok (.getfield 53, 3) := by decide +kernel
theorem dX6_back_35 : decode cX6_back 35 = .ok (.ireturn, 1) := by decide +kernel
theorem dX6_told_0 : decode cX6_told 0 = .ok (.iload_n 1, 1) := by decide +kernel
theorem dX6_told_1 : decode cX6_told 1 = .ok (.tableswitch 69 0 3 #[31, 42, 53, 64], 31) := by decide +kernel
theorem dX6_told_32 : decode cX6_told 32 = .ok (.aload_n 0, 1) := by decide +kernel
theorem dX6_told_33 : decode cX6_told 33 = .ok (.getfield 10, 3) := by decide +kernel
theorem dX6_told_36 : decode cX6_told 36 = .ok (.getfield 49, 3) := by decide +kernel
theorem dX6_told_39 : decode cX6_told 39 = .ok (.getfield 53, 3) := by decide +kernel
theorem dX6_told_42 : decode cX6_told 42 = .ok (.ireturn, 1) := by decide +kernel
theorem dX6_told_43 : decode cX6_told 43 = .ok (.aload_n 0, 1) := by decide +kernel
theorem dX6_told_44 : decode cX6_told 44 = .ok (.getfield 10, 3) := by decide +kernel
theorem dX6_told_47 : decode cX6_told 47 = .ok (.getfield 219, 3) := by decide +kernel
theorem dX6_told_50 : decode cX6_told 50 = .ok (.getfield 223, 3) := by decide +kernel
theorem dX6_told_53 : decode cX6_told 53 = .ok (.ireturn, 1) := by decide +kernel
theorem dX6_told_54 : decode cX6_told 54 = .ok (.aload_n 0, 1) := by decide +kernel
theorem dX6_told_55 : decode cX6_told 55 = .ok (.getfield 10, 3) := by decide +kernel
theorem dX6_told_58 : decode cX6_told 58 = .ok (.getfield 255, 3) := by decide +kernel
theorem dX6_told_61 : decode cX6_told 61 = .ok (.getfield 264, 3) := by decide +kernel
theorem dX6_told_64 : decode cX6_told 64 = .ok (.ireturn, 1) := by decide +kernel
theorem dX6_told_65 : decode cX6_told 65 = .ok (.aload_n 0, 1) := by decide +kernel
theorem dX6_told_66 : decode cX6_told 66 = .ok (.getfield 30, 3) := by decide +kernel
theorem dX6_told_69 : decode cX6_told 69 = .ok (.ireturn, 1) := by decide +kernel
theorem dX6_told_70 : decode cX6_told 70 = .ok (.aload_n 0, 1) := by decide +kernel
theorem dX6_told_71 : decode cX6_told 71 = .ok (.ldc 44, 2) := by decide +kernel
theorem dX6_told_73 : decode cX6_told 73 = .ok (.invokevirtual 45, 3) := by decide +kernel
theorem dX6_told_76 : decode cX6_told 76 = .ok (.ireturn, 1) := by decide +kernel
theorem dX6_finding_0 : decode cX6_finding 0 = .ok (.aload_n 0, 1) := by decide +kernel
theorem dX6_finding_1 : decode cX6_finding 1 = .ok (.dup, 1) := by decide +kernel
theorem dX6_finding_2 : decode cX6_finding 2 = .ok (.getfield 30, 3) := by decide +kernel
theorem dX6_finding_5 : decode cX6_finding 5 = .ok (.iconst 1, 1) := by decide +kernel
theorem dX6_finding_6 : decode cX6_finding 6 = .ok (.iadd, 1) := by decide +kernel
theorem dX6_finding_7 : decode cX6_finding 7 = .ok (.putfield 30, 3) := by decide +kernel
theorem dX6_finding_10 : decode cX6_finding 10 = .ok (.iload_n 1, 1) := by decide +kernel
theorem dX6_finding_11 : decode cX6_finding 11 = .ok (.ireturn, 1) := by decide +kernel
theorem dX6_isWell_0 : decode cX6_isWell 0 = .ok (.iload_n 1, 1) := by decide +kernel
theorem dX6_isWell_1 : decode cX6_isWell 1 = .ok (.iconst 0, 1) := by decide +kernel
theorem dX6_isWell_2 : decode cX6_isWell 2 = .ok (.aload_n 0, 1) := by decide +kernel
theorem dX6_isWell_3 : decode cX6_isWell 3 = .ok (.getfield 10, 3) := by decide +kernel
theorem dX6_isWell_6 : decode cX6_isWell 6 = .ok (.getfield 49, 3) := by decide +kernel
theorem dX6_isWell_9 : decode cX6_isWell 9 = .ok (.getfield 53, 3) := by decide +kernel
theorem dX6_isWell_12 : decode cX6_isWell 12 = .ok (.iconst 1, 1) := by decide +kernel
theorem dX6_isWell_13 : decode cX6_isWell 13 = .ok (.isub, 1) := by decide +kernel
theorem dX6_isWell_14 : decode cX6_isWell 14 = .ok (.invokestatic 103, 3) := by decide +kernel
theorem dX6_isWell_17 : decode cX6_isWell 17 = .ok (.ireturn, 1) := by decide +kernel
theorem dX6_isMonth_0 : decode cX6_isMonth 0 = .ok (.iload_n 0, 1) := by decide +kernel
theorem dX6_isMonth_1 : decode cX6_isMonth 1 = .ok (.iconst 0, 1) := by decide +kernel
theorem dX6_isMonth_2 : decode cX6_isMonth 2 = .ok (.bipush 23, 2) := by decide +kernel
theorem dX6_isMonth_4 : decode cX6_isMonth 4 = .ok (.invokestatic 103, 3) := by decide +kernel
theorem dX6_isMonth_7 : decode cX6_isMonth 7 = .ok (.ireturn, 1) := by decide +kernel
theorem dX6_isKind_0 : decode cX6_isKind 0 = .ok (.iload_n 0, 1) := by decide +kernel
theorem dX6_isKind_1 : decode cX6_isKind 1 = .ok (.iconst 0, 1) := by decide +kernel
theorem dX6_isKind_2 : decode cX6_isKind 2 = .ok (.iconst 5, 1) := by decide +kernel
theorem dX6_isKind_3 : decode cX6_isKind 3 = .ok (.invokestatic 103, 3) := by decide +kernel
theorem dX6_isKind_6 : decode cX6_isKind 6 = .ok (.ireturn, 1) := by decide +kernel
theorem dX6_isPlace_0 : decode cX6_isPlace 0 = .ok (.iload_n 0, 1) := by decide +kernel
theorem dX6_isPlace_1 : decode cX6_isPlace 1 = .ok (.iconst 0, 1) := by decide +kernel
theorem dX6_isPlace_2 : decode cX6_isPlace 2 = .ok (.bipush 30, 2) := by decide +kernel
theorem dX6_isPlace_4 : decode cX6_isPlace 4 = .ok (.invokestatic 103, 3) := by decide +kernel
theorem dX6_isPlace_7 : decode cX6_isPlace 7 = .ok (.ireturn, 1) := by decide +kernel
theorem dX6_isHeadBound_0 : decode cX6_isHeadBound 0 = .ok (.iload_n 0, 1) := by decide +kernel
theorem dX6_isHeadBound_1 : decode cX6_isHeadBound 1 = .ok (.ldc_w 288, 3) := by decide +kernel
theorem dX6_isHeadBound_4 : decode cX6_isHeadBound 4 = .ok (.ldc_w 289, 3) := by decide +kernel
theorem dX6_isHeadBound_7 : decode cX6_isHeadBound 7 = .ok (.invokestatic 103, 3) := by decide +kernel
theorem dX6_isHeadBound_10 : decode cX6_isHeadBound 10 = .ok (.ireturn, 1) := by decide +kernel
theorem dX6_isAmount_0 : decode cX6_isAmount 0 = .ok (.iload_n 0, 1) := by decide +kernel
theorem dX6_isAmount_1 : decode cX6_isAmount 1 = .ok (.iconst 0, 1) := by decide +kernel
theorem dX6_isAmount_2 : decode cX6_isAmount 2 = .ok (.sipush 1000, 3) := by decide +kernel
theorem dX6_isAmount_5 : decode cX6_isAmount 5 = .ok (.invokestatic 103, 3) := by decide +kernel
theorem dX6_isAmount_8 : decode cX6_isAmount 8 = .ok (.ireturn, 1) := by decide +kernel
theorem dX6_isLayer_0 : decode cX6_isLayer 0 = .ok (.iload_n 0, 1) := by decide +kernel
theorem dX6_isLayer_1 : decode cX6_isLayer 1 = .ok (.iconst 0, 1) := by decide +kernel
theorem dX6_isLayer_2 : decode cX6_isLayer 2 = .ok (.iconst 1, 1) := by decide +kernel
theorem dX6_isLayer_3 : decode cX6_isLayer 3 = .ok (.invokestatic 103, 3) := by decide +kernel
theorem dX6_isLayer_6 : decode cX6_isLayer 6 = .ok (.ireturn, 1) := by decide +kernel
theorem dX6_isAge_0 : decode cX6_isAge 0 = .ok (.iload_n 0, 1) := by decide +kernel
theorem dX6_isAge_1 : decode cX6_isAge 1 = .ok (.iconst 0, 1) := by decide +kernel
theorem dX6_isAge_2 : decode cX6_isAge 2 = .ok (.bipush 11, 2) := by decide +kernel
theorem dX6_isAge_4 : decode cX6_isAge 4 = .ok (.invokestatic 103, 3) := by decide +kernel
theorem dX6_isAge_7 : decode cX6_isAge 7 = .ok (.ireturn, 1) := by decide +kernel
theorem dX6_isSheet_0 : decode cX6_isSheet 0 = .ok (.iload_n 0, 1) := by decide +kernel
theorem dX6_isSheet_1 : decode cX6_isSheet 1 = .ok (.iconst 0, 1) := by decide +kernel
theorem dX6_isSheet_2 : decode cX6_isSheet 2 = .ok (.iconst 3, 1) := by decide +kernel
theorem dX6_isSheet_3 : decode cX6_isSheet 3 = .ok (.invokestatic 103, 3) := by decide +kernel
theorem dX6_isSheet_6 : decode cX6_isSheet 6 = .ok (.ireturn, 1) := by decide +kernel
theorem dX6_within_0 : decode cX6_within 0 = .ok (.iload_n 0, 1) := by decide +kernel
theorem dX6_within_1 : decode cX6_within 1 = .ok (.iload_n 1, 1) := by decide +kernel
theorem dX6_within_2 : decode cX6_within 2 = .ok (.if_icmp .lt 12, 3) := by decide +kernel
theorem dX6_within_5 : decode cX6_within 5 = .ok (.iload_n 0, 1) := by decide +kernel
theorem dX6_within_6 : decode cX6_within 6 = .ok (.iload_n 2, 1) := by decide +kernel
theorem dX6_within_7 : decode cX6_within 7 = .ok (.if_icmp .gt 7, 3) := by decide +kernel
theorem dX6_within_10 : decode cX6_within 10 = .ok (.iconst 1, 1) := by decide +kernel
theorem dX6_within_11 : decode cX6_within 11 = .ok (.goto 4, 3) := by decide +kernel
theorem dX6_within_14 : decode cX6_within 14 = .ok (.iconst 0, 1) := by decide +kernel
theorem dX6_within_15 : decode cX6_within 15 = .ok (.ireturn, 1) := by decide +kernel
theorem dX6_clear_0 : decode cX6_clear 0 = .ok (.iconst 0, 1) := by decide +kernel
theorem dX6_clear_1 : decode cX6_clear 1 = .ok (.istore_n 1, 1) := by decide +kernel
theorem dX6_clear_2 : decode cX6_clear 2 = .ok (.iconst 0, 1) := by decide +kernel
theorem dX6_clear_3 : decode cX6_clear 3 = .ok (.istore_n 2, 1) := by decide +kernel
theorem dX6_clear_4 : decode cX6_clear 4 = .ok (.iload_n 2, 1) := by decide +kernel
theorem dX6_clear_5 : decode cX6_clear 5 = .ok (.aload_n 0, 1) := by decide +kernel
theorem dX6_clear_6 : decode cX6_clear 6 = .ok (.arraylength, 1) := by decide +kernel
theorem dX6_clear_7 : decode cX6_clear 7 = .ok (.if_icmp .ge 22, 3) := by decide +kernel
theorem dX6_clear_10 : decode cX6_clear 10 = .ok (.aload_n 0, 1) := by decide +kernel
theorem dX6_clear_11 : decode cX6_clear 11 = .ok (.iload_n 2, 1) := by decide +kernel
theorem dX6_clear_12 : decode cX6_clear 12 = .ok (.iaload, 1) := by decide +kernel
theorem dX6_clear_13 : decode cX6_clear 13 = .ok (.ifCond .eq 10, 3) := by decide +kernel
theorem dX6_clear_16 : decode cX6_clear 16 = .ok (.aload_n 0, 1) := by decide +kernel
theorem dX6_clear_17 : decode cX6_clear 17 = .ok (.iload_n 2, 1) := by decide +kernel
theorem dX6_clear_18 : decode cX6_clear 18 = .ok (.iconst 0, 1) := by decide +kernel
theorem dX6_clear_19 : decode cX6_clear 19 = .ok (.iastore, 1) := by decide +kernel
theorem dX6_clear_20 : decode cX6_clear 20 = .ok (.iinc 1 1, 3) := by decide +kernel
theorem dX6_clear_23 : decode cX6_clear 23 = .ok (.iinc 2 1, 3) := by decide +kernel
theorem dX6_clear_26 : decode cX6_clear 26 = .ok (.goto (-22), 3) := by decide +kernel
theorem dX6_clear_29 : decode cX6_clear 29 = .ok (.iload_n 1, 1) := by decide +kernel
theorem dX6_clear_30 : decode cX6_clear 30 = .ok (.ireturn, 1) := by decide +kernel
theorem dX6_copyRow_0 : decode cX6_copyRow 0 = .ok (.aload_n 0, 1) := by decide +kernel
theorem dX6_copyRow_1 : decode cX6_copyRow 1 = .ok (.iconst 0, 1) := by decide +kernel
theorem dX6_copyRow_2 : decode cX6_copyRow 2 = .ok (.aload_n 1, 1) := by decide +kernel
theorem dX6_copyRow_3 : decode cX6_copyRow 3 = .ok (.iconst 0, 1) := by decide +kernel
theorem dX6_copyRow_4 : decode cX6_copyRow 4 = .ok (.aload_n 0, 1) := by decide +kernel
theorem dX6_copyRow_5 : decode cX6_copyRow 5 = .ok (.arraylength, 1) := by decide +kernel
theorem dX6_copyRow_6 : decode cX6_copyRow 6 = .ok (.aload_n 1, 1) := by decide +kernel
theorem dX6_copyRow_7 : decode cX6_copyRow 7 = .ok (.arraylength, 1) := by decide +kernel
theorem dX6_copyRow_8 : decode cX6_copyRow 8 = .ok (.invokestatic 161, 3) := by decide +kernel
theorem dX6_copyRow_11 : decode cX6_copyRow 11 = .ok (.invokestatic 152, 3) := by decide +kernel
theorem dX6_copyRow_14 : decode cX6_copyRow 14 = .ok (.return_, 1) := by decide +kernel
theorem dX7_init_0 : decode cX7_init 0 = .ok (.aload_n 0, 1) := by decide +kernel
theorem dX7_init_1 : decode cX7_init 1 = .ok (.invokespecial 1, 3) := by decide +kernel
theorem dX7_init_4 : decode cX7_init 4 = .ok (.aload_n 0, 1) := by decide +kernel
theorem dX7_init_5 : decode cX7_init 5 = .ok (.sipush 1090, 3) := by decide +kernel
theorem dX7_init_8 : decode cX7_init 8 = .ok (.newarray .int, 2) := by decide +kernel
theorem dX7_init_10 : decode cX7_init 10 = .ok (.putfield 7, 3) := by decide +kernel
theorem dX7_init_13 : decode cX7_init 13 = .ok (.aload_n 0, 1) := by decide +kernel
theorem dX7_init_14 : decode cX7_init 14 = .ok (.sipush 1090, 3) := by decide +kernel
theorem dX7_init_17 : decode cX7_init 17 = .ok (.newarray .int, 2) := by decide +kernel
theorem dX7_init_19 : decode cX7_init 19 = .ok (.putfield 13, 3) := by decide +kernel
theorem dX7_init_22 : decode cX7_init 22 = .ok (.aload_n 0, 1) := by decide +kernel
theorem dX7_init_23 : decode cX7_init 23 = .ok (.iconst 4, 1) := by decide +kernel
theorem dX7_init_24 : decode cX7_init 24 = .ok (.newarray .int, 2) := by decide +kernel
theorem dX7_init_26 : decode cX7_init 26 = .ok (.putfield 16, 3) := by decide +kernel
theorem dX7_init_29 : decode cX7_init 29 = .ok (.aload_n 0, 1) := by decide +kernel
theorem dX7_init_30 : decode cX7_init 30 = .ok (.iconst 4, 1) := by decide +kernel
theorem dX7_init_31 : decode cX7_init 31 = .ok (.newarray .int, 2) := by decide +kernel
theorem dX7_init_33 : decode cX7_init 33 = .ok (.putfield 19, 3) := by decide +kernel
theorem dX7_init_36 : decode cX7_init 36 = .ok (.aload_n 0, 1) := by decide +kernel
theorem dX7_init_37 : decode cX7_init 37 = .ok (.bipush 96, 2) := by decide +kernel
theorem dX7_init_39 : decode cX7_init 39 = .ok (.newarray .int, 2) := by decide +kernel
theorem dX7_init_41 : decode cX7_init 41 = .ok (.putfield 22, 3) := by decide +kernel
theorem dX7_init_44 : decode cX7_init 44 = .ok (.aload_n 0, 1) := by decide +kernel
theorem dX7_init_45 : decode cX7_init 45 = .ok (.bipush 24, 2) := by decide +kernel
theorem dX7_init_47 : decode cX7_init 47 = .ok (.newarray .int, 2) := by decide +kernel
theorem dX7_init_49 : decode cX7_init 49 = .ok (.putfield 25, 3) := by decide +kernel
theorem dX7_init_52 : decode cX7_init 52 = .ok (.aload_n 0, 1) := by decide +kernel
theorem dX7_init_53 : decode cX7_init 53 = .ok (.sipush 240, 3) := by decide +kernel
theorem dX7_init_56 : decode cX7_init 56 = .ok (.newarray .int, 2) := by decide +kernel
theorem dX7_init_58 : decode cX7_init 58 = .ok (.putfield 28, 3) := by decide +kernel
theorem dX7_init_61 : decode cX7_init 61 = .ok (.aload_n 0, 1) := by decide +kernel
theorem dX7_init_62 : decode cX7_init 62 = .ok (.sipush 240, 3) := by decide +kernel
theorem dX7_init_65 : decode cX7_init 65 = .ok (.newarray .int, 2) := by decide +kernel
theorem dX7_init_67 : decode cX7_init 67 = .ok (.putfield 31, 3) := by decide +kernel
theorem dX7_init_70 : decode cX7_init 70 = .ok (.aload_n 0, 1) := by decide +kernel
theorem dX7_init_71 : decode cX7_init 71 = .ok (.bipush 10, 2) := by decide +kernel
theorem dX7_init_73 : decode cX7_init 73 = .ok (.newarray .int, 2) := by decide +kernel
theorem dX7_init_75 : decode cX7_init 75 = .ok (.putfield 34, 3) := by decide +kernel
theorem dX7_init_78 : decode cX7_init 78 = .ok (.aload_n 0, 1) := by decide +kernel
theorem dX7_init_79 : decode cX7_init 79 = .ok (.bipush 10, 2) := by decide +kernel
theorem dX7_init_81 : decode cX7_init 81 = .ok (.newarray .int, 2) := by decide +kernel
theorem dX7_init_83 : decode cX7_init 83 = .ok (.putfield 37, 3) := by decide +kernel
theorem dX7_init_86 : decode cX7_init 86 = .ok (.iconst 0, 1) := by decide +kernel
theorem dX7_init_87 : decode cX7_init 87 = .ok (.istore_n 1, 1) := by decide +kernel
theorem dX7_init_88 : decode cX7_init 88 = .ok (.iload_n 1, 1) := by decide +kernel
theorem dX7_init_89 : decode cX7_init 89 = .ok (.bipush 10, 2) := by decide +kernel
theorem dX7_init_91 : decode cX7_init 91 = .ok (.if_icmp .ge 48, 3) := by decide +kernel
theorem dX7_init_94 : decode cX7_init 94 = .ok (.aload_n 0, 1) := by decide +kernel
theorem dX7_init_95 : decode cX7_init 95 = .ok (.getfield 7, 3) := by decide +kernel
theorem dX7_init_98 : decode cX7_init 98 = .ok (.sipush 290, 3) := by decide +kernel
theorem dX7_init_101 : decode cX7_init 101 = .ok (.bipush 12, 2) := by decide +kernel
theorem dX7_init_103 : decode cX7_init 103 = .ok (.iload_n 1, 1) := by decide +kernel
theorem dX7_init_104 : decode cX7_init 104 = .ok (.imul, 1) := by decide +kernel
theorem dX7_init_105 : decode cX7_init 105 = .ok (.iadd, 1) := by decide +kernel
theorem dX7_init_106 : decode cX7_init 106 = .ok (.bipush 100, 2) := by decide +kernel
theorem dX7_init_108 : decode cX7_init 108 = .ok (.bipush 10, 2) := by decide +kernel
theorem dX7_init_110 : decode cX7_init 110 = .ok (.iload_n 1, 1) := by decide +kernel
theorem dX7_init_111 : decode cX7_init 111 = .ok (.imul, 1) := by decide +kernel
theorem dX7_init_112 : decode cX7_init 112 = .ok (.isub, 1) := by decide +kernel
theorem dX7_init_113 : decode cX7_init 113 = .ok (.iastore, 1) := by decide +kernel
theorem dX7_init_114 : decode cX7_init 114 = .ok (.aload_n 0, 1) := by decide +kernel
theorem dX7_init_115 : decode cX7_init 115 = .ok (.getfield 7, 3) := by decide +kernel
theorem dX7_init_118 : decode cX7_init 118 = .ok (.sipush 410, 3) := by decide +kernel
theorem dX7_init_121 : decode cX7_init 121 = .ok (.bipush 12, 2) := by decide +kernel
theorem dX7_init_123 : decode cX7_init 123 = .ok (.iload_n 1, 1) := by decide +kernel
theorem dX7_init_124 : decode cX7_init 124 = .ok (.imul, 1) := by decide +kernel
theorem dX7_init_125 : decode cX7_init 125 = .ok (.iadd, 1) := by decide +kernel
theorem dX7_init_126 : decode cX7_init 126 = .ok (.bipush 50, 2) := by decide +kernel
theorem dX7_init_128 : decode cX7_init 128 = .ok (.iconst 5, 1) := by decide +kernel
theorem dX7_init_129 : decode cX7_init 129 = .ok (.iload_n 1, 1) := by decide +kernel
theorem dX7_init_130 : decode cX7_init 130 = .ok (.imul, 1) := by decide +kernel
theorem dX7_init_131 : decode cX7_init 131 = .ok (.isub, 1) := by decide +kernel
theorem dX7_init_132 : decode cX7_init 132 = .ok (.iastore, 1) := by decide +kernel
theorem dX7_init_133 : decode cX7_init 133 = .ok (.iinc 1 1, 3) := by decide +kernel
theorem dX7_init_136 : decode cX7_init 136 = .ok (.goto (-48), 3) := by decide +kernel
theorem dX7_init_139 : decode cX7_init 139 = .ok (.aload_n 0, 1) := by decide +kernel
theorem dX7_init_140 : decode cX7_init 140 = .ok (.getfield 7, 3) := by decide +kernel
theorem dX7_init_143 : decode cX7_init 143 = .ok (.sipush 530, 3) := by decide +kernel
theorem dX7_init_146 : decode cX7_init 146 = .ok (.bipush 10, 2) := by decide +kernel
theorem dX7_init_148 : decode cX7_init 148 = .ok (.iastore, 1) := by decide +kernel
theorem dX7_init_149 : decode cX7_init 149 = .ok (.aload_n 0, 1) := by decide +kernel
theorem dX7_init_150 : decode cX7_init 150 = .ok (.getfield 7, 3) := by decide +kernel
theorem dX7_init_153 : decode cX7_init 153 = .ok (.sipush 1089, 3) := by decide +kernel
theorem dX7_init_156 : decode cX7_init 156 = .ok (.iconst 0, 1) := by decide +kernel
theorem dX7_init_157 : decode cX7_init 157 = .ok (.iastore, 1) := by decide +kernel
theorem dX7_init_158 : decode cX7_init 158 = .ok (.return_, 1) := by decide +kernel
theorem dX7_in_0 : decode cX7_in 0 = .ok (.iload_n 0, 1) := by decide +kernel
theorem dX7_in_1 : decode cX7_in 1 = .ok (.iload_n 1, 1) := by decide +kernel
theorem dX7_in_2 : decode cX7_in 2 = .ok (.if_icmp .lt 12, 3) := by decide +kernel
theorem dX7_in_5 : decode cX7_in 5 = .ok (.iload_n 0, 1) := by decide +kernel
theorem dX7_in_6 : decode cX7_in 6 = .ok (.iload_n 2, 1) := by decide +kernel
theorem dX7_in_7 : decode cX7_in 7 = .ok (.if_icmp .gt 7, 3) := by decide +kernel
theorem dX7_in_10 : decode cX7_in 10 = .ok (.iconst 1, 1) := by decide +kernel
theorem dX7_in_11 : decode cX7_in 11 = .ok (.goto 4, 3) := by decide +kernel
theorem dX7_in_14 : decode cX7_in 14 = .ok (.iconst 0, 1) := by decide +kernel
theorem dX7_in_15 : decode cX7_in 15 = .ok (.ireturn, 1) := by decide +kernel
theorem dX7_found_0 : decode cX7_found 0 = .ok (.aload_n 0, 1) := by decide +kernel
theorem dX7_found_1 : decode cX7_found 1 = .ok (.dup, 1) := by decide +kernel
theorem dX7_found_2 : decode cX7_found 2 = .ok (.getfield 40, 3) := by decide +kernel
theorem dX7_found_5 : decode cX7_found 5 = .ok (.iconst 1, 1) := by decide +kernel
theorem dX7_found_6 : decode cX7_found 6 = .ok (.iadd, 1) := by decide +kernel
theorem dX7_found_7 : decode cX7_found 7 = .ok (.putfield 40, 3) := by decide +kernel
theorem dX7_found_10 : decode cX7_found 10 = .ok (.iload_n 1, 1) := by decide +kernel
theorem dX7_found_11 : decode cX7_found 11 = .ok (.ireturn, 1) := by decide +kernel
theorem dX7_wells_0 : decode cX7_wells 0 = .ok (.aload_n 0, 1) := by decide +kernel
theorem dX7_wells_1 : decode cX7_wells 1 = .ok (.getfield 7, 3) := by decide +kernel
theorem dX7_wells_4 : decode cX7_wells 4 = .ok (.sipush 1086, 3) := by decide +kernel
theorem dX7_wells_7 : decode cX7_wells 7 = .ok (.iaload, 1) := by decide +kernel
theorem dX7_wells_8 : decode cX7_wells 8 = .ok (.ireturn, 1) := by decide +kernel
theorem dX7_isWell_0 : decode cX7_isWell 0 = .ok (.iload_n 1, 1) := by decide +kernel
theorem dX7_isWell_1 : decode cX7_isWell 1 = .ok (.iconst 0, 1) := by decide +kernel
theorem dX7_isWell_2 : decode cX7_isWell 2 = .ok (.aload_n 0, 1) := by decide +kernel
theorem dX7_isWell_3 : decode cX7_isWell 3 = .ok (.invokevirtual 44, 3) := by decide +kernel
theorem dX7_isWell_6 : decode cX7_isWell 6 = .ok (.iconst 1, 1) := by decide +kernel
theorem dX7_isWell_7 : decode cX7_isWell 7 = .ok (.isub, 1) := by decide +kernel
theorem dX7_isWell_8 : decode cX7_isWell 8 = .ok (.invokestatic 48, 3) := by decide +kernel
theorem dX7_isWell_11 : decode cX7_isWell 11 = .ok (.ireturn, 1) := by decide +kernel
theorem dX7_isMonth_0 : decode cX7_isMonth 0 = .ok (.iload_n 0, 1) := by decide +kernel
theorem dX7_isMonth_1 : decode cX7_isMonth 1 = .ok (.iconst 0, 1) := by decide +kernel
theorem dX7_isMonth_2 : decode cX7_isMonth 2 = .ok (.bipush 23, 2) := by decide +kernel
theorem dX7_isMonth_4 : decode cX7_isMonth 4 = .ok (.invokestatic 48, 3) := by decide +kernel
theorem dX7_isMonth_7 : decode cX7_isMonth 7 = .ok (.ireturn, 1) := by decide +kernel
theorem dX7_isHead_0 : decode cX7_isHead 0 = .ok (.iload_n 0, 1) := by decide +kernel
theorem dX7_isHead_1 : decode cX7_isHead 1 = .ok (.ldc 52, 2) := by decide +kernel
theorem dX7_isHead_3 : decode cX7_isHead 3 = .ok (.ldc 53, 2) := by decide +kernel
theorem dX7_isHead_5 : decode cX7_isHead 5 = .ok (.invokestatic 48, 3) := by decide +kernel
theorem dX7_isHead_8 : decode cX7_isHead 8 = .ok (.ireturn, 1) := by decide +kernel
theorem dX7_told0_0 : decode cX7_told0 0 = .ok (.aload_n 0, 1) := by decide +kernel
theorem dX7_told0_1 : decode cX7_told0 1 = .ok (.getfield 7, 3) := by decide +kernel
theorem dX7_told0_4 : decode cX7_told0 4 = .ok (.iconst 0, 1) := by decide +kernel
theorem dX7_told0_5 : decode cX7_told0 5 = .ok (.iconst 5, 1) := by decide +kernel
theorem dX7_told0_6 : decode cX7_told0 6 = .ok (.iload_n 1, 1) := by decide +kernel
theorem dX7_told0_7 : decode cX7_told0 7 = .ok (.imul, 1) := by decide +kernel
theorem dX7_told0_8 : decode cX7_told0 8 = .ok (.iadd, 1) := by decide +kernel
theorem dX7_told0_9 : decode cX7_told0 9 = .ok (.iload_n 2, 1) := by decide +kernel
theorem dX7_told0_10 : decode cX7_told0 10 = .ok (.iadd, 1) := by decide +kernel
theorem dX7_told0_11 : decode cX7_told0 11 = .ok (.iaload, 1) := by decide +kernel
theorem dX7_told0_12 : decode cX7_told0 12 = .ok (.ireturn, 1) := by decide +kernel
theorem dX7_kindOf_0 : decode cX7_kindOf 0 = .ok (.aload_n 0, 1) := by decide +kernel
theorem dX7_kindOf_1 : decode cX7_kindOf 1 = .ok (.iload_n 1, 1) := by decide +kernel
theorem dX7_kindOf_2 : decode cX7_kindOf 2 = .ok (.iconst 0, 1) := by decide +kernel
theorem dX7_kindOf_3 : decode cX7_kindOf 3 = .ok (.invokevirtual 54, 3) := by decide +kernel
theorem dX7_kindOf_6 : decode cX7_kindOf 6 = .ok (.ireturn, 1) := by decide +kernel
theorem dX7_well_0 : decode cX7_well 0 = .ok (.iload_n 1, 1) := by decide +kernel
theorem dX7_well_1 : decode cX7_well 1 = .ok (.iconst 0, 1) := by decide +kernel
theorem dX7_well_2 : decode cX7_well 2 = .ok (.iconst 5, 1) := by decide +kernel
theorem dX7_well_3 : decode cX7_well 3 = .ok (.invokestatic 48, 3) := by decide +kernel
theorem dX7_well_6 : decode cX7_well 6 = .ok (.ifCond .eq 31, 3) := by decide +kernel
theorem dX7_well_9 : decode cX7_well 9 = .ok (.iload_n 2, 1) := by decide +kernel
theorem dX7_well_10 : decode cX7_well 10 = .ok (.iconst 0, 1) := by decide +kernel
theorem dX7_well_11 : decode cX7_well 11 = .ok (.bipush 30, 2) := by decide +kernel
theorem dX7_well_13 : decode cX7_well 13 = .ok (.invokestatic 48, 3) := by decide +kernel
theorem dX7_well_16 : decode cX7_well 16 = .ok (.ifCond .eq 21, 3) := by decide +kernel
theorem dX7_well_19 : decode cX7_well 19 = .ok (.iload_n 3, 1) := by decide +kernel
theorem dX7_well_20 : decode cX7_well 20 = .ok (.iconst 0, 1) := by decide +kernel
theorem dX7_well_21 : decode cX7_well 21 = .ok (.bipush 30, 2) := by decide +kernel
theorem dX7_well_23 : decode cX7_well 23 = .ok (.invokestatic 48, 3) := by decide +kernel
theorem dX7_well_26 : decode cX7_well 26 = .ok (.ifCond .eq 11, 3) := by decide +kernel
theorem dX7_well_29 : decode cX7_well 29 = .ok (.iload 4, 2) := by decide +kernel
theorem dX7_well_31 : decode cX7_well 31 = .ok (.invokestatic 58, 3) := by decide +kernel
theorem dX7_well_34 : decode cX7_well 34 = .ok (.ifCond .ne 10, 3) := by decide +kernel
theorem dX7_well_37 : decode cX7_well 37 = .ok (.aload_n 0, 1) := by decide +kernel
theorem dX7_well_38 : decode cX7_well 38 = .ok (.ldc 62, 2) := by decide +kernel
theorem dX7_well_40 : decode cX7_well 40 = .ok (.invokevirtual 63, 3) := by decide +kernel
theorem dX7_well_43 : decode cX7_well 43 = .ok (.ireturn, 1) := by decide +kernel
theorem dX7_well_44 : decode cX7_well 44 = .ok (.aload_n 0, 1) := by decide +kernel
theorem dX7_well_45 : decode cX7_well 45 = .ok (.invokevirtual 44, 3) := by decide +kernel
theorem dX7_well_48 : decode cX7_well 48 = .ok (.istore 5, 2) := by decide +kernel
theorem dX7_well_50 : decode cX7_well 50 = .ok (.iload 5, 2) := by decide +kernel
theorem dX7_well_52 : decode cX7_well 52 = .ok (.bipush 10, 2) := by decide +kernel
theorem dX7_well_54 : decode cX7_well 54 = .ok (.if_icmp .ne 10, 3) := by decide +kernel
theorem dX7_well_57 : decode cX7_well 57 = .ok (.aload_n 0, 1) := by decide +kernel
theorem dX7_well_58 : decode cX7_well 58 = .ok (.ldc 67, 2) := by decide +kernel
theorem dX7_well_60 : decode cX7_well 60 = .ok (.invokevirtual 63, 3) := by decide +kernel
theorem dX7_well_63 : decode cX7_well 63 = .ok (.ireturn, 1) := by decide +kernel
theorem dX7_well_64 : decode cX7_well 64 = .ok (.aload_n 0, 1) := by decide +kernel
theorem dX7_well_65 : decode cX7_well 65 = .ok (.getfield 7, 3) := by decide +kernel
theorem dX7_well_68 : decode cX7_well 68 = .ok (.iconst 0, 1) := by decide +kernel
theorem dX7_well_69 : decode cX7_well 69 = .ok (.iconst 5, 1) := by decide +kernel
theorem dX7_well_70 : decode cX7_well 70 = .ok (.iload 5, 2) := by decide +kernel
theorem dX7_well_72 : decode cX7_well 72 = .ok (.imul, 1) := by decide +kernel
theorem dX7_well_73 : decode cX7_well 73 = .ok (.iadd, 1) := by decide +kernel
theorem dX7_well_74 : decode cX7_well 74 = .ok (.iload_n 1, 1) := by decide +kernel
theorem dX7_well_75 : decode cX7_well 75 = .ok (.iastore, 1) := by decide +kernel
theorem dX7_well_76 : decode cX7_well 76 = .ok (.aload_n 0, 1) := by decide +kernel
theorem dX7_well_77 : decode cX7_well 77 = .ok (.getfield 7, 3) := by decide +kernel
theorem dX7_well_80 : decode cX7_well 80 = .ok (.iconst 0, 1) := by decide +kernel
theorem dX7_well_81 : decode cX7_well 81 = .ok (.iconst 5, 1) := by decide +kernel
theorem dX7_well_82 : decode cX7_well 82 = .ok (.iload 5, 2) := by decide +kernel
theorem dX7_well_84 : decode cX7_well 84 = .ok (.imul, 1) := by decide +kernel
theorem dX7_well_85 : decode cX7_well 85 = .ok (.iadd, 1) := by decide +kernel
theorem dX7_well_86 : decode cX7_well 86 = .ok (.iconst 1, 1) := by decide +kernel
theorem dX7_well_87 : decode cX7_well 87 = .ok (.iadd, 1) := by decide +kernel
theorem dX7_well_88 : decode cX7_well 88 = .ok (.iload_n 2, 1) := by decide +kernel
theorem dX7_well_89 : decode cX7_well 89 = .ok (.iastore, 1) := by decide +kernel
theorem dX7_well_90 : decode cX7_well 90 = .ok (.aload_n 0, 1) := by decide +kernel
theorem dX7_well_91 : decode cX7_well 91 = .ok (.getfield 7, 3) := by decide +kernel
theorem dX7_well_94 : decode cX7_well 94 = .ok (.iconst 0, 1) := by decide +kernel
theorem dX7_well_95 : decode cX7_well 95 = .ok (.iconst 5, 1) := by decide +kernel
theorem dX7_well_96 : decode cX7_well 96 = .ok (.iload 5, 2) := by decide +kernel
theorem dX7_well_98 : decode cX7_well 98 = .ok (.imul, 1) := by decide +kernel
theorem dX7_well_99 : decode cX7_well 99 = .ok (.iadd, 1) := by decide +kernel
theorem dX7_well_100 : decode cX7_well 100 = .ok (.iconst 2, 1) := by decide +kernel
theorem dX7_well_101 : decode cX7_well 101 = .ok (.iadd, 1) := by decide +kernel
theorem dX7_well_102 : decode cX7_well 102 = .ok (.iload_n 3, 1) := by decide +kernel
theorem dX7_well_103 : decode cX7_well 103 = .ok (.iastore, 1) := by decide +kernel
theorem dX7_well_104 : decode cX7_well 104 = .ok (.aload_n 0, 1) := by decide +kernel
theorem dX7_well_105 : decode cX7_well 105 = .ok (.getfield 7, 3) := by decide +kernel
theorem dX7_well_108 : decode cX7_well 108 = .ok (.iconst 0, 1) := by decide +kernel
theorem dX7_well_109 : decode cX7_well 109 = .ok (.iconst 5, 1) := by decide +kernel
theorem dX7_well_110 : decode cX7_well 110 = .ok (.iload 5, 2) := by decide +kernel
theorem dX7_well_112 : decode cX7_well 112 = .ok (.imul, 1) := by decide +kernel
theorem dX7_well_113 : decode cX7_well 113 = .ok (.iadd, 1) := by decide +kernel
theorem dX7_well_114 : decode cX7_well 114 = .ok (.iconst 3, 1) := by decide +kernel
theorem dX7_well_115 : decode cX7_well 115 = .ok (.iadd, 1) := by decide +kernel
theorem dX7_well_116 : decode cX7_well 116 = .ok (.iload 4, 2) := by decide +kernel
theorem dX7_well_118 : decode cX7_well 118 = .ok (.iastore, 1) := by decide +kernel
theorem dX7_well_119 : decode cX7_well 119 = .ok (.aload_n 0, 1) := by decide +kernel
theorem dX7_well_120 : decode cX7_well 120 = .ok (.getfield 7, 3) := by decide +kernel
theorem dX7_well_123 : decode cX7_well 123 = .ok (.iconst 0, 1) := by decide +kernel
theorem dX7_well_124 : decode cX7_well 124 = .ok (.iconst 5, 1) := by decide +kernel
theorem dX7_well_125 : decode cX7_well 125 = .ok (.iload 5, 2) := by decide +kernel
theorem dX7_well_127 : decode cX7_well 127 = .ok (.imul, 1) := by decide +kernel
theorem dX7_well_128 : decode cX7_well 128 = .ok (.iadd, 1) := by decide +kernel
theorem dX7_well_129 : decode cX7_well 129 = .ok (.iconst 4, 1) := by decide +kernel
theorem dX7_well_130 : decode cX7_well 130 = .ok (.iadd, 1) := by decide +kernel
theorem dX7_well_131 : decode cX7_well 131 = .ok (.ldc 52, 2) := by decide +kernel
theorem dX7_well_133 : decode cX7_well 133 = .ok (.iastore, 1) := by decide +kernel
theorem dX7_well_134 : decode cX7_well 134 = .ok (.aload_n 0, 1) := by decide +kernel
theorem dX7_well_135 : decode cX7_well 135 = .ok (.getfield 7, 3) := by decide +kernel
theorem dX7_well_138 : decode cX7_well 138 = .ok (.sipush 1086, 3) := by decide +kernel
theorem dX7_well_141 : decode cX7_well 141 = .ok (.dup2, 1) := by decide +kernel
theorem dX7_well_142 : decode cX7_well 142 = .ok (.iaload, 1) := by decide +kernel
theorem dX7_well_143 : decode cX7_well 143 = .ok (.iconst 1, 1) := by decide +kernel
theorem dX7_well_144 : decode cX7_well 144 = .ok (.iadd, 1) := by decide +kernel
theorem dX7_well_145 : decode cX7_well 145 = .ok (.iastore, 1) := by decide +kernel
theorem dX7_well_146 : decode cX7_well 146 = .ok (.iload 5, 2) := by decide +kernel
theorem dX7_well_148 : decode cX7_well 148 = .ok (.ireturn, 1) := by decide +kernel
theorem dX7_limit_0 : decode cX7_limit 0 = .ok (.aload_n 0, 1) := by decide +kernel
theorem dX7_limit_1 : decode cX7_limit 1 = .ok (.iload_n 1, 1) := by decide +kernel
theorem dX7_limit_2 : decode cX7_limit 2 = .ok (.invokevirtual 68, 3) := by decide +kernel
theorem dX7_limit_5 : decode cX7_limit 5 = .ok (.ifCond .eq 10, 3) := by decide +kernel
theorem dX7_limit_8 : decode cX7_limit 8 = .ok (.iload_n 2, 1) := by decide +kernel
theorem dX7_limit_9 : decode cX7_limit 9 = .ok (.invokestatic 58, 3) := by decide +kernel
theorem dX7_limit_12 : decode cX7_limit 12 = .ok (.ifCond .ne 10, 3) := by decide +kernel
theorem dX7_limit_15 : decode cX7_limit 15 = .ok (.aload_n 0, 1) := by decide +kernel
theorem dX7_limit_16 : decode cX7_limit 16 = .ok (.ldc 62, 2) := by decide +kernel
theorem dX7_limit_18 : decode cX7_limit 18 = .ok (.invokevirtual 63, 3) := by decide +kernel
theorem dX7_limit_21 : decode cX7_limit 21 = .ok (.ireturn, 1) := by decide +kernel
theorem dX7_limit_22 : decode cX7_limit 22 = .ok (.aload_n 0, 1) := by decide +kernel
theorem dX7_limit_23 : decode cX7_limit 23 = .ok (.iload_n 1, 1) := by decide +kernel
theorem dX7_limit_24 : decode cX7_limit 24 = .ok (.iconst 4, 1) := by decide +kernel
theorem dX7_limit_25 : decode cX7_limit 25 = .ok (.invokevirtual 54, 3) := by decide +kernel
theorem dX7_limit_28 : decode cX7_limit 28 = .ok (.istore_n 3, 1) := by decide +kernel
theorem dX7_limit_29 : decode cX7_limit 29 = .ok (.aload_n 0, 1) := by decide +kernel
theorem dX7_limit_30 : decode cX7_limit 30 = .ok (.getfield 7, 3) := by decide +kernel
theorem dX7_limit_33 : decode cX7_limit 33 = .ok (.iconst 0, 1) := by decide +kernel
theorem dX7_limit_34 : decode cX7_limit 34 = .ok (.iconst 5, 1) := by decide +kernel
theorem dX7_limit_35 : decode cX7_limit 35 = .ok (.iload_n 1, 1) := by decide +kernel
theorem dX7_limit_36 : decode cX7_limit 36 = .ok (.imul, 1) := by decide +kernel
theorem dX7_limit_37 : decode cX7_limit 37 = .ok (.iadd, 1) := by decide +kernel
theorem dX7_limit_38 : decode cX7_limit 38 = .ok (.iconst 4, 1) := by decide +kernel
theorem dX7_limit_39 : decode cX7_limit 39 = .ok (.iadd, 1) := by decide +kernel
theorem dX7_limit_40 : decode cX7_limit 40 = .ok (.iload_n 2, 1) := by decide +kernel
theorem dX7_limit_41 : decode cX7_limit 41 = .ok (.iastore, 1) := by decide +kernel
theorem dX7_limit_42 : decode cX7_limit 42 = .ok (.iload_n 3, 1) := by decide +kernel
theorem dX7_limit_43 : decode cX7_limit 43 = .ok (.ireturn, 1) := by decide +kernel
theorem dX7_as_0 : decode cX7_as 0 = .ok (.aload_n 0, 1) := by decide +kernel
theorem dX7_as_1 : decode cX7_as 1 = .ok (.iload_n 1, 1) := by decide +kernel
theorem dX7_as_2 : decode cX7_as 2 = .ok (.invokevirtual 68, 3) := by decide +kernel
theorem dX7_as_5 : decode cX7_as 5 = .ok (.ifCond .eq 12, 3) := by decide +kernel
theorem dX7_as_8 : decode cX7_as 8 = .ok (.iload_n 2, 1) := by decide +kernel
theorem dX7_as_9 : decode cX7_as 9 = .ok (.iconst 0, 1) := by decide +kernel
theorem dX7_as_10 : decode cX7_as 10 = .ok (.iconst 5, 1) := by decide +kernel
theorem dX7_as_11 : decode cX7_as 11 = .ok (.invokestatic 48, 3) := by decide +kernel
theorem dX7_as_14 : decode cX7_as 14 = .ok (.ifCond .ne 10, 3) := by decide +kernel
theorem dX7_as_17 : decode cX7_as 17 = .ok (.aload_n 0, 1) := by decide +kernel
theorem dX7_as_18 : decode cX7_as 18 = .ok (.ldc 62, 2) := by decide +kernel
theorem dX7_as_20 : decode cX7_as 20 = .ok (.invokevirtual 63, 3) := by decide +kernel
theorem dX7_as_23 : decode cX7_as 23 = .ok (.ireturn, 1) := by decide +kernel
theorem dX7_as_24 : decode cX7_as 24 = .ok (.aload_n 0, 1) := by decide +kernel
theorem dX7_as_25 : decode cX7_as 25 = .ok (.iload_n 1, 1) := by decide +kernel
theorem dX7_as_26 : decode cX7_as 26 = .ok (.invokevirtual 71, 3) := by decide +kernel
theorem dX7_as_29 : decode cX7_as 29 = .ok (.istore_n 3, 1) := by decide +kernel
theorem dX7_as_30 : decode cX7_as 30 = .ok (.iload_n 2, 1) := by decide +kernel
theorem dX7_as_31 : decode cX7_as 31 = .ok (.ifCond .eq 18, 3) := by decide +kernel
theorem dX7_as_34 : decode cX7_as 34 = .ok (.iload_n 2, 1) := by decide +kernel
theorem dX7_as_35 : decode cX7_as 35 = .ok (.iload_n 3, 1) := by decide +kernel
theorem dX7_as_36 : decode cX7_as 36 = .ok (.if_icmp .eq 13, 3) := by decide +kernel
theorem dX7_as_39 : decode cX7_as 39 = .ok (.iload_n 3, 1) := by decide +kernel
theorem dX7_as_40 : decode cX7_as 40 = .ok (.iconst 4, 1) := by decide +kernel
theorem dX7_as_41 : decode cX7_as 41 = .ok (.if_icmp .ne 12, 3) := by decide +kernel
theorem dX7_as_44 : decode cX7_as 44 = .ok (.iload_n 2, 1) := by decide +kernel
theorem dX7_as_45 : decode cX7_as 45 = .ok (.iconst 3, 1) := by decide +kernel
theorem dX7_as_46 : decode cX7_as 46 = .ok (.if_icmp .ne 7, 3) := by decide +kernel
theorem dX7_as_49 : decode cX7_as 49 = .ok (.iconst 1, 1) := by decide +kernel
theorem dX7_as_50 : decode cX7_as 50 = .ok (.goto 4, 3) := by decide +kernel
theorem dX7_as_53 : decode cX7_as 53 = .ok (.iconst 0, 1) := by decide +kernel
theorem dX7_as_54 : decode cX7_as 54 = .ok (.istore 4, 2) := by decide +kernel
theorem dX7_as_56 : decode cX7_as 56 = .ok (.iload 4, 2) := by decide +kernel
theorem dX7_as_58 : decode cX7_as 58 = .ok (.ifCond .eq 7, 3) := by decide +kernel
theorem dX7_as_61 : decode cX7_as 61 = .ok (.iload_n 1, 1) := by decide +kernel
theorem dX7_as_62 : decode cX7_as 62 = .ok (.goto 9, 3) := by decide +kernel
theorem dX7_as_65 : decode cX7_as 65 = .ok (.aload_n 0, 1) := by decide +kernel
theorem dX7_as_66 : decode cX7_as 66 = .ok (.ldc 74, 2) := by decide +kernel
theorem dX7_as_68 : decode cX7_as 68 = .ok (.invokevirtual 63, 3) := by decide +kernel
theorem dX7_as_71 : decode cX7_as 71 = .ok (.ireturn, 1) := by decide +kernel
theorem dX7_drawOf_0 : decode cX7_drawOf 0 = .ok (.aload_n 0, 1) := by decide +kernel
theorem dX7_drawOf_1 : decode cX7_drawOf 1 = .ok (.getfield 7, 3) := by decide +kernel
theorem dX7_drawOf_4 : decode cX7_drawOf 4 = .ok (.bipush 50, 2) := by decide +kernel
theorem dX7_drawOf_6 : decode cX7_drawOf 6 = .ok (.bipush 24, 2) := by decide +kernel
theorem dX7_drawOf_8 : decode cX7_drawOf 8 = .ok (.iload_n 1, 1) := by decide +kernel
theorem dX7_drawOf_9 : decode cX7_drawOf 9 = .ok (.imul, 1) := by decide +kernel
theorem dX7_drawOf_10 : decode cX7_drawOf 10 = .ok (.iadd, 1) := by decide +kernel
theorem dX7_drawOf_11 : decode cX7_drawOf 11 = .ok (.iload_n 2, 1) := by decide +kernel
theorem dX7_drawOf_12 : decode cX7_drawOf 12 = .ok (.iadd, 1) := by decide +kernel
theorem dX7_drawOf_13 : decode cX7_drawOf 13 = .ok (.iaload, 1) := by decide +kernel
theorem dX7_drawOf_14 : decode cX7_drawOf 14 = .ok (.ireturn, 1) := by decide +kernel
theorem dX7_of_0 : decode cX7_of 0 = .ok (.aload_n 0, 1) := by decide +kernel
theorem dX7_of_1 : decode cX7_of 1 = .ok (.iload_n 1, 1) := by decide +kernel
theorem dX7_of_2 : decode cX7_of 2 = .ok (.invokevirtual 68, 3) := by decide +kernel
theorem dX7_of_5 : decode cX7_of 5 = .ok (.ifCond .eq 12, 3) := by decide +kernel
theorem dX7_of_8 : decode cX7_of 8 = .ok (.iload_n 2, 1) := by decide +kernel
theorem dX7_of_9 : decode cX7_of 9 = .ok (.iconst 0, 1) := by decide +kernel
theorem dX7_of_10 : decode cX7_of 10 = .ok (.iconst 5, 1) := by decide +kernel
theorem dX7_of_11 : decode cX7_of 11 = .ok (.invokestatic 48, 3) := by decide +kernel
theorem dX7_of_14 : decode cX7_of 14 = .ok (.ifCond .ne 10, 3) := by decide +kernel
theorem dX7_of_17 : decode cX7_of 17 = .ok (.aload_n 0, 1) := by decide +kernel
theorem dX7_of_18 : decode cX7_of 18 = .ok (.ldc 62, 2) := by decide +kernel
theorem dX7_of_20 : decode cX7_of 20 = .ok (.invokevirtual 63, 3) := by decide +kernel
theorem dX7_of_23 : decode cX7_of 23 = .ok (.ireturn, 1) := by decide +kernel
theorem dX7_of_24 : decode cX7_of 24 = .ok (.iload_n 2, 1) := by decide +kernel
theorem dX7_of_25 : decode cX7_of 25 = .ok (.iconst 5, 1) := by decide +kernel
theorem dX7_of_26 : decode cX7_of 26 = .ok (.if_icmp .ge 10, 3) := by decide +kernel
theorem dX7_of_29 : decode cX7_of 29 = .ok (.aload_n 0, 1) := by decide +kernel
theorem dX7_of_30 : decode cX7_of 30 = .ok (.iload_n 1, 1) := by decide +kernel
theorem dX7_of_31 : decode cX7_of 31 = .ok (.iload_n 2, 1) := by decide +kernel
theorem dX7_of_32 : decode cX7_of 32 = .ok (.invokevirtual 54, 3) := by decide +kernel
theorem dX7_of_35 : decode cX7_of 35 = .ok (.ireturn, 1) := by decide +kernel
theorem dX7_of_36 : decode cX7_of 36 = .ok (.iconst 0, 1) := by decide +kernel
theorem dX7_of_37 : decode cX7_of 37 = .ok (.istore_n 3, 1) := by decide +kernel
theorem dX7_of_38 : decode cX7_of 38 = .ok (.iconst 0, 1) := by decide +kernel
theorem dX7_of_39 : decode cX7_of 39 = .ok (.istore 4, 2) := by decide +kernel
theorem dX7_of_41 : decode cX7_of 41 = .ok (.iload 4, 2) := by decide +kernel
theorem dX7_of_43 : decode cX7_of 43 = .ok (.bipush 24, 2) := by decide +kernel
theorem dX7_of_45 : decode cX7_of 45 = .ok (.if_icmp .ge 19, 3) := by decide +kernel
theorem dX7_of_48 : decode cX7_of 48 = .ok (.iload_n 3, 1) := by decide +kernel
theorem dX7_of_49 : decode cX7_of 49 = .ok (.aload_n 0, 1) := by decide +kernel
theorem dX7_of_50 : decode cX7_of 50 = .ok (.iload_n 1, 1) := by decide +kernel
theorem dX7_of_51 : decode cX7_of 51 = .ok (.iload 4, 2) := by decide +kernel
theorem dX7_of_53 : decode cX7_of 53 = .ok (.invokevirtual 75, 3) := by decide +kernel
theorem dX7_of_56 : decode cX7_of 56 = .ok (.iadd, 1) := by decide +kernel
theorem dX7_of_57 : decode cX7_of 57 = .ok (.istore_n 3, 1) := by decide +kernel
theorem dX7_of_58 : decode cX7_of 58 = .ok (.iinc 4 1, 3) := by decide +kernel
theorem dX7_of_61 : decode cX7_of 61 = .ok (.goto (-20), 3) := by decide +kernel
theorem dX7_of_64 : decode cX7_of 64 = .ok (.iload_n 3, 1) := by decide +kernel
theorem dX7_of_65 : decode cX7_of 65 = .ok (.ireturn, 1) := by decide +kernel
theorem dX7_apart_0 : decode cX7_apart 0 = .ok (.aload_n 0, 1) := by decide +kernel
theorem dX7_apart_1 : decode cX7_apart 1 = .ok (.iload_n 1, 1) := by decide +kernel
theorem dX7_apart_2 : decode cX7_apart 2 = .ok (.iconst 1, 1) := by decide +kernel
theorem dX7_apart_3 : decode cX7_apart 3 = .ok (.invokevirtual 54, 3) := by decide +kernel
theorem dX7_apart_6 : decode cX7_apart 6 = .ok (.aload_n 0, 1) := by decide +kernel
theorem dX7_apart_7 : decode cX7_apart 7 = .ok (.iload_n 2, 1) := by decide +kernel
theorem dX7_apart_8 : decode cX7_apart 8 = .ok (.iconst 1, 1) := by decide +kernel
theorem dX7_apart_9 : decode cX7_apart 9 = .ok (.invokevirtual 54, 3) := by decide +kernel
theorem dX7_apart_12 : decode cX7_apart 12 = .ok (.isub, 1) := by decide +kernel
theorem dX7_apart_13 : decode cX7_apart 13 = .ok (.istore_n 3, 1) := by decide +kernel
theorem dX7_apart_14 : decode cX7_apart 14 = .ok (.aload_n 0, 1) := by decide +kernel
theorem dX7_apart_15 : decode cX7_apart 15 = .ok (.iload_n 1, 1) := by decide +kernel
theorem dX7_apart_16 : decode cX7_apart 16 = .ok (.iconst 2, 1) := by decide +kernel
theorem dX7_apart_17 : decode cX7_apart 17 = .ok (.invokevirtual 54, 3) := by decide +kernel
theorem dX7_apart_20 : decode cX7_apart 20 = .ok (.aload_n 0, 1) := by decide +kernel
theorem dX7_apart_21 : decode cX7_apart 21 = .ok (.iload_n 2, 1) := by decide +kernel
theorem dX7_apart_22 : decode cX7_apart 22 = .ok (.iconst 2, 1) := by decide +kernel
theorem dX7_apart_23 : decode cX7_apart 23 = .ok (.invokevirtual 54, 3) := by decide +kernel
theorem dX7_apart_26 : decode cX7_apart 26 = .ok (.isub, 1) := by decide +kernel
theorem dX7_apart_27 : decode cX7_apart 27 = .ok (.istore 4, 2) := by decide +kernel
theorem dX7_apart_29 : decode cX7_apart 29 = .ok (.iload_n 3, 1) := by decide +kernel
theorem dX7_apart_30 : decode cX7_apart 30 = .ok (.ifCond .ge 8, 3) := by decide +kernel
theorem dX7_apart_33 : decode cX7_apart 33 = .ok (.iload_n 3, 1) := by decide +kernel
theorem dX7_apart_34 : decode cX7_apart 34 = .ok (.ineg, 1) := by decide +kernel
theorem dX7_apart_35 : decode cX7_apart 35 = .ok (.goto 4, 3) := by decide +kernel
theorem dX7_apart_38 : decode cX7_apart 38 = .ok (.iload_n 3, 1) := by decide +kernel
theorem dX7_apart_39 : decode cX7_apart 39 = .ok (.istore_n 3, 1) := by decide +kernel
theorem dX7_apart_40 : decode cX7_apart 40 = .ok (.iload 4, 2) := by decide +kernel
theorem dX7_apart_42 : decode cX7_apart 42 = .ok (.ifCond .ge 9, 3) := by decide +kernel
theorem dX7_apart_45 : decode cX7_apart 45 = .ok (.iload 4, 2) := by decide +kernel
theorem dX7_apart_47 : decode cX7_apart 47 = .ok (.ineg, 1) := by decide +kernel
theorem dX7_apart_48 : decode cX7_apart 48 = .ok (.goto 5, 3) := by decide +kernel
theorem dX7_apart_51 : decode cX7_apart 51 = .ok (.iload 4, 2) := by decide +kernel
theorem dX7_apart_53 : decode cX7_apart 53 = .ok (.istore 4, 2) := by decide +kernel
theorem dX7_apart_55 : decode cX7_apart 55 = .ok (.iload_n 3, 1) := by decide +kernel
theorem dX7_apart_56 : decode cX7_apart 56 = .ok (.iload 4, 2) := by decide +kernel
theorem dX7_apart_58 : decode cX7_apart 58 = .ok (.if_icmp .le 7, 3) := by decide +kernel
theorem dX7_apart_61 : decode cX7_apart 61 = .ok (.iload_n 3, 1) := by decide +kernel
theorem dX7_apart_62 : decode cX7_apart 62 = .ok (.goto 5, 3) := by decide +kernel
theorem dX7_apart_65 : decode cX7_apart 65 = .ok (.iload 4, 2) := by decide +kernel
theorem dX7_apart_67 : decode cX7_apart 67 = .ok (.istore 5, 2) := by decide +kernel
theorem dX7_apart_69 : decode cX7_apart 69 = .ok (.iload 5, 2) := by decide +kernel
theorem dX7_apart_71 : decode cX7_apart 71 = .ok (.bipush 9, 2) := by decide +kernel
theorem dX7_apart_73 : decode cX7_apart 73 = .ok (.if_icmp .le 8, 3) := by decide +kernel
theorem dX7_apart_76 : decode cX7_apart 76 = .ok (.bipush 9, 2) := by decide +kernel
theorem dX7_apart_78 : decode cX7_apart 78 = .ok (.goto 5, 3) := by decide +kernel
theorem dX7_apart_81 : decode cX7_apart 81 = .ok (.iload 5, 2) := by decide +kernel
theorem dX7_apart_83 : decode cX7_apart 83 = .ok (.ireturn, 1) := by decide +kernel
theorem dX7_distance_0 : decode cX7_distance 0 = .ok (.aload_n 0, 1) := by decide +kernel
theorem dX7_distance_1 : decode cX7_distance 1 = .ok (.iload_n 1, 1) := by decide +kernel
theorem dX7_distance_2 : decode cX7_distance 2 = .ok (.invokevirtual 68, 3) := by decide +kernel
theorem dX7_distance_5 : decode cX7_distance 5 = .ok (.ifCond .eq 20, 3) := by decide +kernel
theorem dX7_distance_8 : decode cX7_distance 8 = .ok (.aload_n 0, 1) := by decide +kernel
theorem dX7_distance_9 : decode cX7_distance 9 = .ok (.iload_n 2, 1) := by decide +kernel
theorem dX7_distance_10 : decode cX7_distance 10 = .ok (.invokevirtual 68, 3) := by decide +kernel
theorem dX7_distance_13 : decode cX7_distance 13 = .ok (.ifCond .eq 12, 3) := by decide +kernel
theorem dX7_distance_16 : decode cX7_distance 16 = .ok (.aload_n 0, 1) := by decide +kernel
theorem dX7_distance_17 : decode cX7_distance 17 = .ok (.iload_n 1, 1) := by decide +kernel
theorem dX7_distance_18 : decode cX7_distance 18 = .ok (.iload_n 2, 1) := by decide +kernel
theorem dX7_distance_19 : decode cX7_distance 19 = .ok (.invokevirtual 78, 3) := by decide +kernel
theorem dX7_distance_22 : decode cX7_distance 22 = .ok (.goto 9, 3) := by decide +kernel
theorem dX7_distance_25 : decode cX7_distance 25 = .ok (.aload_n 0, 1) := by decide +kernel
theorem dX7_distance_26 : decode cX7_distance 26 = .ok (.ldc 62, 2) := by decide +kernel
theorem dX7_distance_28 : decode cX7_distance 28 = .ok (.invokevirtual 63, 3) := by decide +kernel
theorem dX7_distance_31 : decode cX7_distance 31 = .ok (.ireturn, 1) := by decide +kernel
theorem dX7_cell_0 : decode cX7_cell 0 = .ok (.sipush 290, 3) := by decide +kernel
theorem dX7_cell_3 : decode cX7_cell 3 = .ok (.bipush 120, 2) := by decide +kernel
theorem dX7_cell_5 : decode cX7_cell 5 = .ok (.iload_n 0, 1) := by decide +kernel
theorem dX7_cell_6 : decode cX7_cell 6 = .ok (.imul, 1) := by decide +kernel
theorem dX7_cell_7 : decode cX7_cell 7 = .ok (.iadd, 1) := by decide +kernel
theorem dX7_cell_8 : decode cX7_cell 8 = .ok (.bipush 12, 2) := by decide +kernel
theorem dX7_cell_10 : decode cX7_cell 10 = .ok (.iload_n 1, 1) := by decide +kernel
theorem dX7_cell_11 : decode cX7_cell 11 = .ok (.imul, 1) := by decide +kernel
theorem dX7_cell_12 : decode cX7_cell 12 = .ok (.iadd, 1) := by decide +kernel
theorem dX7_cell_13 : decode cX7_cell 13 = .ok (.iload_n 2, 1) := by decide +kernel
theorem dX7_cell_14 : decode cX7_cell 14 = .ok (.iadd, 1) := by decide +kernel
theorem dX7_cell_15 : decode cX7_cell 15 = .ok (.ireturn, 1) := by decide +kernel
theorem dX7_table_0 : decode cX7_table 0 = .ok (.iload_n 1, 1) := by decide +kernel
theorem dX7_table_1 : decode cX7_table 1 = .ok (.iconst 0, 1) := by decide +kernel
theorem dX7_table_2 : decode cX7_table 2 = .ok (.iconst 1, 1) := by decide +kernel
theorem dX7_table_3 : decode cX7_table 3 = .ok (.invokestatic 48, 3) := by decide +kernel
theorem dX7_table_6 : decode cX7_table 6 = .ok (.ifCond .eq 35, 3) := by decide +kernel
theorem dX7_table_9 : decode cX7_table 9 = .ok (.iload_n 2, 1) := by decide +kernel
theorem dX7_table_10 : decode cX7_table 10 = .ok (.iconst 0, 1) := by decide +kernel
theorem dX7_table_11 : decode cX7_table 11 = .ok (.bipush 9, 2) := by decide +kernel
theorem dX7_table_13 : decode cX7_table 13 = .ok (.invokestatic 48, 3) := by decide +kernel
theorem dX7_table_16 : decode cX7_table 16 = .ok (.ifCond .eq 25, 3) := by decide +kernel
theorem dX7_table_19 : decode cX7_table 19 = .ok (.iload_n 3, 1) := by decide +kernel
theorem dX7_table_20 : decode cX7_table 20 = .ok (.iconst 0, 1) := by decide +kernel
theorem dX7_table_21 : decode cX7_table 21 = .ok (.bipush 11, 2) := by decide +kernel
theorem dX7_table_23 : decode cX7_table 23 = .ok (.invokestatic 48, 3) := by decide +kernel
theorem dX7_table_26 : decode cX7_table 26 = .ok (.ifCond .eq 15, 3) := by decide +kernel
theorem dX7_table_29 : decode cX7_table 29 = .ok (.iload 4, 2) := by decide +kernel
theorem dX7_table_31 : decode cX7_table 31 = .ok (.iconst 0, 1) := by decide +kernel
theorem dX7_table_32 : decode cX7_table 32 = .ok (.sipush 1000, 3) := by decide +kernel
theorem dX7_table_35 : decode cX7_table 35 = .ok (.invokestatic 48, 3) := by decide +kernel
theorem dX7_table_38 : decode cX7_table 38 = .ok (.ifCond .ne 10, 3) := by decide +kernel
theorem dX7_table_41 : decode cX7_table 41 = .ok (.aload_n 0, 1) := by decide +kernel
theorem dX7_table_42 : decode cX7_table 42 = .ok (.ldc 62, 2) := by decide +kernel
theorem dX7_table_44 : decode cX7_table 44 = .ok (.invokevirtual 63, 3) := by decide +kernel
theorem dX7_table_47 : decode cX7_table 47 = .ok (.ireturn, 1) := by decide +kernel
theorem dX7_table_48 : decode cX7_table 48 = .ok (.iload_n 2, 1) := by decide +kernel
theorem dX7_table_49 : decode cX7_table 49 = .ok (.ifCond .le 21, 3) := by decide +kernel
theorem dX7_table_52 : decode cX7_table 52 = .ok (.iload 4, 2) := by decide +kernel
theorem dX7_table_54 : decode cX7_table 54 = .ok (.aload_n 0, 1) := by decide +kernel
theorem dX7_table_55 : decode cX7_table 55 = .ok (.getfield 7, 3) := by decide +kernel
theorem dX7_table_58 : decode cX7_table 58 = .ok (.iload_n 1, 1) := by decide +kernel
theorem dX7_table_59 : decode cX7_table 59 = .ok (.iload_n 2, 1) := by decide +kernel
theorem dX7_table_60 : decode cX7_table 60 = .ok (.iconst 1, 1) := by decide +kernel
theorem dX7_table_61 : decode cX7_table 61 = .ok (.isub, 1) := by decide +kernel
theorem dX7_table_62 : decode cX7_table 62 = .ok (.iload_n 3, 1) := by decide +kernel
theorem dX7_table_63 : decode cX7_table 63 = .ok (.invokestatic 81, 3) := by decide +kernel
theorem dX7_table_66 : decode cX7_table 66 = .ok (.iaload, 1) := by decide +kernel
theorem dX7_table_67 : decode cX7_table 67 = .ok (.if_icmp .gt 27, 3) := by decide +kernel
theorem dX7_table_70 : decode cX7_table 70 = .ok (.iload_n 2, 1) := by decide +kernel
theorem dX7_table_71 : decode cX7_table 71 = .ok (.bipush 9, 2) := by decide +kernel
theorem dX7_table_73 : decode cX7_table 73 = .ok (.if_icmp .ge 28, 3) := by decide +kernel
theorem dX7_table_76 : decode cX7_table 76 = .ok (.iload 4, 2) := by decide +kernel
theorem dX7_table_78 : decode cX7_table 78 = .ok (.aload_n 0, 1) := by decide +kernel
theorem dX7_table_79 : decode cX7_table 79 = .ok (.getfield 7, 3) := by decide +kernel
theorem dX7_table_82 : decode cX7_table 82 = .ok (.iload_n 1, 1) := by decide +kernel
theorem dX7_table_83 : decode cX7_table 83 = .ok (.iload_n 2, 1) := by decide +kernel
theorem dX7_table_84 : decode cX7_table 84 = .ok (.iconst 1, 1) := by decide +kernel
theorem dX7_table_85 : decode cX7_table 85 = .ok (.iadd, 1) := by decide +kernel
theorem dX7_table_86 : decode cX7_table 86 = .ok (.iload_n 3, 1) := by decide +kernel
theorem dX7_table_87 : decode cX7_table 87 = .ok (.invokestatic 81, 3) := by decide +kernel
theorem dX7_table_90 : decode cX7_table 90 = .ok (.iaload, 1) := by decide +kernel
theorem dX7_table_91 : decode cX7_table 91 = .ok (.if_icmp .ge 10, 3) := by decide +kernel
theorem dX7_table_94 : decode cX7_table 94 = .ok (.aload_n 0, 1) := by decide +kernel
theorem dX7_table_95 : decode cX7_table 95 = .ok (.ldc 85, 2) := by decide +kernel
theorem dX7_table_97 : decode cX7_table 97 = .ok (.invokevirtual 63, 3) := by decide +kernel
theorem dX7_table_100 : decode cX7_table 100 = .ok (.ireturn, 1) := by decide +kernel
theorem dX7_table_101 : decode cX7_table 101 = .ok (.aload_n 0, 1) := by decide +kernel
theorem dX7_table_102 : decode cX7_table 102 = .ok (.getfield 7, 3) := by decide +kernel
theorem dX7_table_105 : decode cX7_table 105 = .ok (.iload_n 1, 1) := by decide +kernel
theorem dX7_table_106 : decode cX7_table 106 = .ok (.iload_n 2, 1) := by decide +kernel
theorem dX7_table_107 : decode cX7_table 107 = .ok (.iload_n 3, 1) := by decide +kernel
theorem dX7_table_108 : decode cX7_table 108 = .ok (.invokestatic 81, 3) := by decide +kernel
theorem dX7_table_111 : decode cX7_table 111 = .ok (.iaload, 1) := by decide +kernel
theorem dX7_table_112 : decode cX7_table 112 = .ok (.istore 5, 2) := by decide +kernel
theorem dX7_table_114 : decode cX7_table 114 = .ok (.aload_n 0, 1) := by decide +kernel
theorem dX7_table_115 : decode cX7_table 115 = .ok (.getfield 7, 3) := by decide +kernel
theorem dX7_table_118 : decode cX7_table 118 = .ok (.iload_n 1, 1) := by decide +kernel
theorem dX7_table_119 : decode cX7_table 119 = .ok (.iload_n 2, 1) := by decide +kernel
theorem dX7_table_120 : decode cX7_table 120 = .ok (.iload_n 3, 1) := by decide +kernel
theorem dX7_table_121 : decode cX7_table 121 = .ok (.invokestatic 81, 3) := by decide +kernel
theorem dX7_table_124 : decode cX7_table 124 = .ok (.iload 4, 2) := by decide +kernel
theorem dX7_table_126 : decode cX7_table 126 = .ok (.iastore, 1) := by decide +kernel
theorem dX7_table_127 : decode cX7_table 127 = .ok (.iload 5, 2) := by decide +kernel
theorem dX7_table_129 : decode cX7_table 129 = .ok (.ireturn, 1) := by decide +kernel
theorem dX7_rainTable_0 : decode cX7_rainTable 0 = .ok (.iload_n 1, 1) := by decide +kernel
theorem dX7_rainTable_1 : decode cX7_rainTable 1 = .ok (.iconst 0, 1) := by decide +kernel
theorem dX7_rainTable_2 : decode cX7_rainTable 2 = .ok (.bipush 11, 2) := by decide +kernel
theorem dX7_rainTable_4 : decode cX7_rainTable 4 = .ok (.invokestatic 48, 3) := by decide +kernel
theorem dX7_rainTable_7 : decode cX7_rainTable 7 = .ok (.ifCond .eq 14, 3) := by decide +kernel
theorem dX7_rainTable_10 : decode cX7_rainTable 10 = .ok (.iload_n 2, 1) := by decide +kernel
theorem dX7_rainTable_11 : decode cX7_rainTable 11 = .ok (.iconst 0, 1) := by decide +kernel
theorem dX7_rainTable_12 : decode cX7_rainTable 12 = .ok (.sipush 1000, 3) := by decide +kernel
theorem dX7_rainTable_15 : decode cX7_rainTable 15 = .ok (.invokestatic 48, 3) := by decide +kernel
theorem dX7_rainTable_18 : decode cX7_rainTable 18 = .ok (.ifCond .ne 10, 3) := by decide +kernel
theorem dX7_rainTable_21 : decode cX7_rainTable 21 = .ok (.aload_n 0, 1) := by decide +kernel
theorem dX7_rainTable_22 : decode cX7_rainTable 22 = .ok (.ldc 62, 2) := by decide +kernel
theorem dX7_rainTable_24 : decode cX7_rainTable 24 = .ok (.invokevirtual 63, 3) := by decide +kernel
theorem dX7_rainTable_27 : decode cX7_rainTable 27 = .ok (.ireturn, 1) := by decide +kernel
theorem dX7_rainTable_28 : decode cX7_rainTable 28 = .ok (.aload_n 0, 1) := by decide +kernel
theorem dX7_rainTable_29 : decode cX7_rainTable 29 = .ok (.getfield 7, 3) := by decide +kernel
theorem dX7_rainTable_32 : decode cX7_rainTable 32 = .ok (.sipush 530, 3) := by decide +kernel
theorem dX7_rainTable_35 : decode cX7_rainTable 35 = .ok (.iload_n 1, 1) := by decide +kernel
theorem dX7_rainTable_36 : decode cX7_rainTable 36 = .ok (.iadd, 1) := by decide +kernel
theorem dX7_rainTable_37 : decode cX7_rainTable 37 = .ok (.iaload, 1) := by decide +kernel
theorem dX7_rainTable_38 : decode cX7_rainTable 38 = .ok (.istore_n 3, 1) := by decide +kernel
theorem dX7_rainTable_39 : decode cX7_rainTable 39 = .ok (.aload_n 0, 1) := by decide +kernel
theorem dX7_rainTable_40 : decode cX7_rainTable 40 = .ok (.getfield 7, 3) := by decide +kernel
theorem dX7_rainTable_43 : decode cX7_rainTable 43 = .ok (.sipush 530, 3) := by decide +kernel
theorem dX7_rainTable_46 : decode cX7_rainTable 46 = .ok (.iload_n 1, 1) := by decide +kernel
theorem dX7_rainTable_47 : decode cX7_rainTable 47 = .ok (.iadd, 1) := by decide +kernel
theorem dX7_rainTable_48 : decode cX7_rainTable 48 = .ok (.iload_n 2, 1) := by decide +kernel
theorem dX7_rainTable_49 : decode cX7_rainTable 49 = .ok (.iastore, 1) := by decide +kernel
theorem dX7_rainTable_50 : decode cX7_rainTable 50 = .ok (.iload_n 3, 1) := by decide +kernel
theorem dX7_rainTable_51 : decode cX7_rainTable 51 = .ok (.ireturn, 1) := by decide +kernel
theorem dX7_isSheet_0 : decode cX7_isSheet 0 = .ok (.iload_n 0, 1) := by decide +kernel
theorem dX7_isSheet_1 : decode cX7_isSheet 1 = .ok (.iconst 0, 1) := by decide +kernel
theorem dX7_isSheet_2 : decode cX7_isSheet 2 = .ok (.iconst 3, 1) := by decide +kernel
theorem dX7_isSheet_3 : decode cX7_isSheet 3 = .ok (.invokestatic 48, 3) := by decide +kernel
theorem dX7_isSheet_6 : decode cX7_isSheet 6 = .ok (.ireturn, 1) := by decide +kernel
theorem dX7_sheet_0 : decode cX7_sheet 0 = .ok (.iload_n 1, 1) := by decide +kernel
theorem dX7_sheet_1 : decode cX7_sheet 1 = .ok (.invokestatic 86, 3) := by decide +kernel
theorem dX7_sheet_4 : decode cX7_sheet 4 = .ok (.ifCond .eq 12, 3) := by decide +kernel
theorem dX7_sheet_7 : decode cX7_sheet 7 = .ok (.iload_n 2, 1) := by decide +kernel
theorem dX7_sheet_8 : decode cX7_sheet 8 = .ok (.iconst 0, 1) := by decide +kernel
theorem dX7_sheet_9 : decode cX7_sheet 9 = .ok (.iconst 2, 1) := by decide +kernel
theorem dX7_sheet_10 : decode cX7_sheet 10 = .ok (.invokestatic 48, 3) := by decide +kernel
theorem dX7_sheet_13 : decode cX7_sheet 13 = .ok (.ifCond .ne 10, 3) := by decide +kernel
theorem dX7_sheet_16 : decode cX7_sheet 16 = .ok (.aload_n 0, 1) := by decide +kernel
theorem dX7_sheet_17 : decode cX7_sheet 17 = .ok (.ldc 62, 2) := by decide +kernel
theorem dX7_sheet_19 : decode cX7_sheet 19 = .ok (.invokevirtual 63, 3) := by decide +kernel
theorem dX7_sheet_22 : decode cX7_sheet 22 = .ok (.ireturn, 1) := by decide +kernel
theorem dX7_sheet_23 : decode cX7_sheet 23 = .ok (.iload_n 3, 1) := by decide +kernel
theorem dX7_sheet_24 : decode cX7_sheet 24 = .ok (.ifCond .ge 10, 3) := by decide +kernel
theorem dX7_sheet_27 : decode cX7_sheet 27 = .ok (.aload_n 0, 1) := by decide +kernel
theorem dX7_sheet_28 : decode cX7_sheet 28 = .ok (.ldc 85, 2) := by decide +kernel
theorem dX7_sheet_30 : decode cX7_sheet 30 = .ok (.invokevirtual 63, 3) := by decide +kernel
theorem dX7_sheet_33 : decode cX7_sheet 33 = .ok (.ireturn, 1) := by decide +kernel
theorem dX7_sheet_34 : decode cX7_sheet 34 = .ok (.iload_n 3, 1) := by decide +kernel
theorem dX7_sheet_35 : decode cX7_sheet 35 = .ok (.bipush 24, 2) := by decide +kernel
theorem dX7_sheet_37 : decode cX7_sheet 37 = .ok (.if_icmp .le 10, 3) := by decide +kernel
theorem dX7_sheet_40 : decode cX7_sheet 40 = .ok (.aload_n 0, 1) := by decide +kernel
theorem dX7_sheet_41 : decode cX7_sheet 41 = .ok (.ldc 62, 2) := by decide +kernel
theorem dX7_sheet_43 : decode cX7_sheet 43 = .ok (.invokevirtual 63, 3) := by decide +kernel
theorem dX7_sheet_46 : decode cX7_sheet 46 = .ok (.ireturn, 1) := by decide +kernel
theorem dX7_sheet_47 : decode cX7_sheet 47 = .ok (.aload_n 0, 1) := by decide +kernel
theorem dX7_sheet_48 : decode cX7_sheet 48 = .ok (.getfield 16, 3) := by decide +kernel
theorem dX7_sheet_51 : decode cX7_sheet 51 = .ok (.iload_n 1, 1) := by decide +kernel
theorem dX7_sheet_52 : decode cX7_sheet 52 = .ok (.iload_n 2, 1) := by decide +kernel
theorem dX7_sheet_53 : decode cX7_sheet 53 = .ok (.iastore, 1) := by decide +kernel
theorem dX7_sheet_54 : decode cX7_sheet 54 = .ok (.aload_n 0, 1) := by decide +kernel
theorem dX7_sheet_55 : decode cX7_sheet 55 = .ok (.getfield 19, 3) := by decide +kernel
theorem dX7_sheet_58 : decode cX7_sheet 58 = .ok (.iload_n 1, 1) := by decide +kernel
theorem dX7_sheet_59 : decode cX7_sheet 59 = .ok (.iload_n 2, 1) := by decide +kernel
theorem dX7_sheet_60 : decode cX7_sheet 60 = .ok (.ifCond .ne 7, 3) := by decide +kernel
theorem dX7_sheet_63 : decode cX7_sheet 63 = .ok (.iconst 0, 1) := by decide +kernel
theorem dX7_sheet_64 : decode cX7_sheet 64 = .ok (.goto 4, 3) := by decide +kernel
theorem dX7_sheet_67 : decode cX7_sheet 67 = .ok (.iload_n 3, 1) := by decide +kernel
theorem dX7_sheet_68 : decode cX7_sheet 68 = .ok (.iastore, 1) := by decide +kernel
theorem dX7_sheet_69 : decode cX7_sheet 69 = .ok (.iconst 0, 1) := by decide +kernel
theorem dX7_sheet_70 : decode cX7_sheet 70 = .ok (.istore 4, 2) := by decide +kernel
theorem dX7_sheet_72 : decode cX7_sheet 72 = .ok (.iload 4, 2) := by decide +kernel
theorem dX7_sheet_74 : decode cX7_sheet 74 = .ok (.bipush 24, 2) := by decide +kernel
theorem dX7_sheet_76 : decode cX7_sheet 76 = .ok (.if_icmp .ge 22, 3) := by decide +kernel
theorem dX7_sheet_79 : decode cX7_sheet 79 = .ok (.aload_n 0, 1) := by decide +kernel
theorem dX7_sheet_80 : decode cX7_sheet 80 = .ok (.getfield 22, 3) := by decide +kernel
theorem dX7_sheet_83 : decode cX7_sheet 83 = .ok (.bipush 24, 2) := by decide +kernel
theorem dX7_sheet_85 : decode cX7_sheet 85 = .ok (.iload_n 1, 1) := by decide +kernel
theorem dX7_sheet_86 : decode cX7_sheet 86 = .ok (.imul, 1) := by decide +kernel
theorem dX7_sheet_87 : decode cX7_sheet 87 = .ok (.iload 4, 2) := by decide +kernel
theorem dX7_sheet_89 : decode cX7_sheet 89 = .ok (.iadd, 1) := by decide +kernel
theorem dX7_sheet_90 : decode cX7_sheet 90 = .ok (.iconst 0, 1) := by decide +kernel
theorem dX7_sheet_91 : decode cX7_sheet 91 = .ok (.iastore, 1) := by decide +kernel
theorem dX7_sheet_92 : decode cX7_sheet 92 = .ok (.iinc 4 1, 3) := by decide +kernel
theorem dX7_sheet_95 : decode cX7_sheet 95 = .ok (.goto (-23), 3) := by decide +kernel
theorem dX7_sheet_98 : decode cX7_sheet 98 = .ok (.aload_n 0, 1) := by decide +kernel
theorem dX7_sheet_99 : decode cX7_sheet 99 = .ok (.getfield 19, 3) := by decide +kernel
theorem dX7_sheet_102 : decode cX7_sheet 102 = .ok (.iload_n 1, 1) := by decide +kernel
theorem dX7_sheet_103 : decode cX7_sheet 103 = .ok (.iaload, 1) := by decide +kernel
theorem dX7_sheet_104 : decode cX7_sheet 104 = .ok (.ireturn, 1) := by decide +kernel
theorem dX7_isNone_0 : decode cX7_isNone 0 = .ok (.iload_n 0, 1) := by decide +kernel
theorem dX7_isNone_1 : decode cX7_isNone 1 = .ok (.ldc 89, 2) := by decide +kernel
theorem dX7_isNone_3 : decode cX7_isNone 3 = .ok (.iand, 1) := by decide +kernel
theorem dX7_isNone_4 : decode cX7_isNone 4 = .ok (.ldc 90, 2) := by decide +kernel
theorem dX7_isNone_6 : decode cX7_isNone 6 = .ok (.if_icmp .le 7, 3) := by decide +kernel
theorem dX7_isNone_9 : decode cX7_isNone 9 = .ok (.iconst 1, 1) := by decide +kernel
theorem dX7_isNone_10 : decode cX7_isNone 10 = .ok (.goto 4, 3) := by decide +kernel
theorem dX7_isNone_13 : decode cX7_isNone 13 = .ok (.iconst 0, 1) := by decide +kernel
theorem dX7_isNone_14 : decode cX7_isNone 14 = .ok (.ireturn, 1) := by decide +kernel
theorem dX7_put_0 : decode cX7_put 0 = .ok (.iload_n 1, 1) := by decide +kernel
theorem dX7_put_1 : decode cX7_put 1 = .ok (.invokestatic 86, 3) := by decide +kernel
theorem dX7_put_4 : decode cX7_put 4 = .ok (.ifCond .ne 10, 3) := by decide +kernel
theorem dX7_put_7 : decode cX7_put 7 = .ok (.aload_n 0, 1) := by decide +kernel
theorem dX7_put_8 : decode cX7_put 8 = .ok (.ldc 62, 2) := by decide +kernel
theorem dX7_put_10 : decode cX7_put 10 = .ok (.invokevirtual 63, 3) := by decide +kernel
theorem dX7_put_13 : decode cX7_put 13 = .ok (.ireturn, 1) := by decide +kernel
theorem dX7_put_14 : decode cX7_put 14 = .ok (.aload_n 0, 1) := by decide +kernel
theorem dX7_put_15 : decode cX7_put 15 = .ok (.getfield 16, 3) := by decide +kernel
theorem dX7_put_18 : decode cX7_put 18 = .ok (.iload_n 1, 1) := by decide +kernel
theorem dX7_put_19 : decode cX7_put 19 = .ok (.iaload, 1) := by decide +kernel
theorem dX7_put_20 : decode cX7_put 20 = .ok (.ifCond .ne 10, 3) := by decide +kernel
theorem dX7_put_23 : decode cX7_put 23 = .ok (.aload_n 0, 1) := by decide +kernel
theorem dX7_put_24 : decode cX7_put 24 = .ok (.ldc 91, 2) := by decide +kernel
theorem dX7_put_26 : decode cX7_put 26 = .ok (.invokevirtual 63, 3) := by decide +kernel
theorem dX7_put_29 : decode cX7_put 29 = .ok (.ireturn, 1) := by decide +kernel
theorem dX7_put_30 : decode cX7_put 30 = .ok (.iload_n 2, 1) := by decide +kernel
theorem dX7_put_31 : decode cX7_put 31 = .ok (.iconst 0, 1) := by decide +kernel
theorem dX7_put_32 : decode cX7_put 32 = .ok (.aload_n 0, 1) := by decide +kernel
theorem dX7_put_33 : decode cX7_put 33 = .ok (.getfield 19, 3) := by decide +kernel
theorem dX7_put_36 : decode cX7_put 36 = .ok (.iload_n 1, 1) := by decide +kernel
theorem dX7_put_37 : decode cX7_put 37 = .ok (.iaload, 1) := by decide +kernel
theorem dX7_put_38 : decode cX7_put 38 = .ok (.iconst 1, 1) := by decide +kernel
theorem dX7_put_39 : decode cX7_put 39 = .ok (.isub, 1) := by decide +kernel
theorem dX7_put_40 : decode cX7_put 40 = .ok (.invokestatic 48, 3) := by decide +kernel
theorem dX7_put_43 : decode cX7_put 43 = .ok (.ifCond .ne 10, 3) := by decide +kernel
theorem dX7_put_46 : decode cX7_put 46 = .ok (.aload_n 0, 1) := by decide +kernel
theorem dX7_put_47 : decode cX7_put 47 = .ok (.ldc 62, 2) := by decide +kernel
theorem dX7_put_49 : decode cX7_put 49 = .ok (.invokevirtual 63, 3) := by decide +kernel
theorem dX7_put_52 : decode cX7_put 52 = .ok (.ireturn, 1) := by decide +kernel
theorem dX7_put_53 : decode cX7_put 53 = .ok (.aload_n 0, 1) := by decide +kernel
theorem dX7_put_54 : decode cX7_put 54 = .ok (.getfield 22, 3) := by decide +kernel
theorem dX7_put_57 : decode cX7_put 57 = .ok (.bipush 24, 2) := by decide +kernel
theorem dX7_put_59 : decode cX7_put 59 = .ok (.iload_n 1, 1) := by decide +kernel
theorem dX7_put_60 : decode cX7_put 60 = .ok (.imul, 1) := by decide +kernel
theorem dX7_put_61 : decode cX7_put 61 = .ok (.iload_n 2, 1) := by decide +kernel
theorem dX7_put_62 : decode cX7_put 62 = .ok (.iadd, 1) := by decide +kernel
theorem dX7_put_63 : decode cX7_put 63 = .ok (.aload_n 0, 1) := by decide +kernel
theorem dX7_put_64 : decode cX7_put 64 = .ok (.getfield 16, 3) := by decide +kernel
theorem dX7_put_67 : decode cX7_put 67 = .ok (.iload_n 1, 1) := by decide +kernel
theorem dX7_put_68 : decode cX7_put 68 = .ok (.iaload, 1) := by decide +kernel
theorem dX7_put_69 : decode cX7_put 69 = .ok (.iconst 2, 1) := by decide +kernel
theorem dX7_put_70 : decode cX7_put 70 = .ok (.if_icmp .ne 15, 3) := by decide +kernel
theorem dX7_put_73 : decode cX7_put 73 = .ok (.iload_n 3, 1) := by decide +kernel
theorem dX7_put_74 : decode cX7_put 74 = .ok (.invokestatic 92, 3) := by decide +kernel
theorem dX7_put_77 : decode cX7_put 77 = .ok (.ifCond .eq 8, 3) := by decide +kernel
theorem dX7_put_80 : decode cX7_put 80 = .ok (.ldc 95, 2) := by decide +kernel
theorem dX7_put_82 : decode cX7_put 82 = .ok (.goto 4, 3) := by decide +kernel
theorem dX7_put_85 : decode cX7_put 85 = .ok (.iload_n 3, 1) := by decide +kernel
theorem dX7_put_86 : decode cX7_put 86 = .ok (.iastore, 1) := by decide +kernel
theorem dX7_put_87 : decode cX7_put 87 = .ok (.iconst 0, 1) := by decide +kernel
theorem dX7_put_88 : decode cX7_put 88 = .ok (.ireturn, 1) := by decide +kernel
theorem dX7_copy_0 : decode cX7_copy 0 = .ok (.iload_n 1, 1) := by decide +kernel
theorem dX7_copy_1 : decode cX7_copy 1 = .ok (.invokestatic 86, 3) := by decide +kernel
theorem dX7_copy_4 : decode cX7_copy 4 = .ok (.ifCond .eq 10, 3) := by decide +kernel
theorem dX7_copy_7 : decode cX7_copy 7 = .ok (.iload_n 3, 1) := by decide +kernel
theorem dX7_copy_8 : decode cX7_copy 8 = .ok (.invokestatic 86, 3) := by decide +kernel
theorem dX7_copy_11 : decode cX7_copy 11 = .ok (.ifCond .ne 10, 3) := by decide +kernel
theorem dX7_copy_14 : decode cX7_copy 14 = .ok (.aload_n 0, 1) := by decide +kernel
theorem dX7_copy_15 : decode cX7_copy 15 = .ok (.ldc 62, 2) := by decide +kernel
theorem dX7_copy_17 : decode cX7_copy 17 = .ok (.invokevirtual 63, 3) := by decide +kernel
theorem dX7_copy_20 : decode cX7_copy 20 = .ok (.ireturn, 1) := by decide +kernel
theorem dX7_copy_21 : decode cX7_copy 21 = .ok (.aload_n 0, 1) := by decide +kernel
theorem dX7_copy_22 : decode cX7_copy 22 = .ok (.getfield 16, 3) := by decide +kernel
theorem dX7_copy_25 : decode cX7_copy 25 = .ok (.iload_n 1, 1) := by decide +kernel
theorem dX7_copy_26 : decode cX7_copy 26 = .ok (.iaload, 1) := by decide +kernel
theorem dX7_copy_27 : decode cX7_copy 27 = .ok (.ifCond .eq 12, 3) := by decide +kernel
theorem dX7_copy_30 : decode cX7_copy 30 = .ok (.aload_n 0, 1) := by decide +kernel
theorem dX7_copy_31 : decode cX7_copy 31 = .ok (.getfield 16, 3) := by decide +kernel
theorem dX7_copy_34 : decode cX7_copy 34 = .ok (.iload_n 3, 1) := by decide +kernel
theorem dX7_copy_35 : decode cX7_copy 35 = .ok (.iaload, 1) := by decide +kernel
theorem dX7_copy_36 : decode cX7_copy 36 = .ok (.ifCond .ne 10, 3) := by decide +kernel
theorem dX7_copy_39 : decode cX7_copy 39 = .ok (.aload_n 0, 1) := by decide +kernel
theorem dX7_copy_40 : decode cX7_copy 40 = .ok (.ldc 91, 2) := by decide +kernel
theorem dX7_copy_42 : decode cX7_copy 42 = .ok (.invokevirtual 63, 3) := by decide +kernel
theorem dX7_copy_45 : decode cX7_copy 45 = .ok (.ireturn, 1) := by decide +kernel
theorem dX7_copy_46 : decode cX7_copy 46 = .ok (.aload_n 0, 1) := by decide +kernel
theorem dX7_copy_47 : decode cX7_copy 47 = .ok (.getfield 16, 3) := by decide +kernel
theorem dX7_copy_50 : decode cX7_copy 50 = .ok (.iload_n 1, 1) := by decide +kernel
theorem dX7_copy_51 : decode cX7_copy 51 = .ok (.iaload, 1) := by decide +kernel
theorem dX7_copy_52 : decode cX7_copy 52 = .ok (.aload_n 0, 1) := by decide +kernel
theorem dX7_copy_53 : decode cX7_copy 53 = .ok (.getfield 16, 3) := by decide +kernel
theorem dX7_copy_56 : decode cX7_copy 56 = .ok (.iload_n 3, 1) := by decide +kernel
theorem dX7_copy_57 : decode cX7_copy 57 = .ok (.iaload, 1) := by decide +kernel
theorem dX7_copy_58 : decode cX7_copy 58 = .ok (.if_icmp .eq 10, 3) := by decide +kernel
theorem dX7_copy_61 : decode cX7_copy 61 = .ok (.aload_n 0, 1) := by decide +kernel
theorem dX7_copy_62 : decode cX7_copy 62 = .ok (.ldc 74, 2) := by decide +kernel
theorem dX7_copy_64 : decode cX7_copy 64 = .ok (.invokevirtual 63, 3) := by decide +kernel
theorem dX7_copy_67 : decode cX7_copy 67 = .ok (.ireturn, 1) := by decide +kernel
theorem dX7_copy_68 : decode cX7_copy 68 = .ok (.iload_n 2, 1) := by decide +kernel
theorem dX7_copy_69 : decode cX7_copy 69 = .ok (.ifCond .lt 48, 3) := by decide +kernel
theorem dX7_copy_72 : decode cX7_copy 72 = .ok (.iload 4, 2) := by decide +kernel
theorem dX7_copy_74 : decode cX7_copy 74 = .ok (.ifCond .lt 43, 3) := by decide +kernel
theorem dX7_copy_77 : decode cX7_copy 77 = .ok (.iload 5, 2) := by decide +kernel
theorem dX7_copy_79 : decode cX7_copy 79 = .ok (.ifCond .lt 38, 3) := by decide +kernel
theorem dX7_copy_82 : decode cX7_copy 82 = .ok (.iload_n 2, 1) := by decide +kernel
theorem dX7_copy_83 : decode cX7_copy 83 = .ok (.i2l, 1) := by decide +kernel
theorem dX7_copy_84 : decode cX7_copy 84 = .ok (.iload 5, 2) := by decide +kernel
theorem dX7_copy_86 : decode cX7_copy 86 = .ok (.i2l, 1) := by decide +kernel
theorem dX7_copy_87 : decode cX7_copy 87 = .ok (.ladd, 1) := by decide +kernel
theorem dX7_copy_88 : decode cX7_copy 88 = .ok (.aload_n 0, 1) := by decide +kernel
theorem dX7_copy_89 : decode cX7_copy 89 = .ok (.getfield 19, 3) := by decide +kernel
theorem dX7_copy_92 : decode cX7_copy 92 = .ok (.iload_n 1, 1) := by decide +kernel
theorem dX7_copy_93 : decode cX7_copy 93 = .ok (.iaload, 1) := by decide +kernel
theorem dX7_copy_94 : decode cX7_copy 94 = .ok (.i2l, 1) := by decide +kernel
theorem dX7_copy_95 : decode cX7_copy 95 = .ok (.lcmp, 1) := by decide +kernel
theorem dX7_copy_96 : decode cX7_copy 96 = .ok (.ifCond .gt 21, 3) := by decide +kernel
theorem dX7_copy_99 : decode cX7_copy 99 = .ok (.iload 4, 2) := by decide +kernel
theorem dX7_copy_101 : decode cX7_copy 101 = .ok (.i2l, 1) := by decide +kernel
theorem dX7_copy_102 : decode cX7_copy 102 = .ok (.iload 5, 2) := by decide +kernel
theorem dX7_copy_104 : decode cX7_copy 104 = .ok (.i2l, 1) := by decide +kernel
theorem dX7_copy_105 : decode cX7_copy 105 = .ok (.ladd, 1) := by decide +kernel
theorem dX7_copy_106 : decode cX7_copy 106 = .ok (.aload_n 0, 1) := by decide +kernel
theorem dX7_copy_107 : decode cX7_copy 107 = .ok (.getfield 19, 3) := by decide +kernel
theorem dX7_copy_110 : decode cX7_copy 110 = .ok (.iload_n 3, 1) := by decide +kernel
theorem dX7_copy_111 : decode cX7_copy 111 = .ok (.iaload, 1) := by decide +kernel
theorem dX7_copy_112 : decode cX7_copy 112 = .ok (.i2l, 1) := by decide +kernel
theorem dX7_copy_113 : decode cX7_copy 113 = .ok (.lcmp, 1) := by decide +kernel
theorem dX7_copy_114 : decode cX7_copy 114 = .ok (.ifCond .le 10, 3) := by decide +kernel
theorem dX7_copy_117 : decode cX7_copy 117 = .ok (.aload_n 0, 1) := by decide +kernel
theorem dX7_copy_118 : decode cX7_copy 118 = .ok (.ldc 62, 2) := by decide +kernel
theorem dX7_copy_120 : decode cX7_copy 120 = .ok (.invokevirtual 63, 3) := by decide +kernel
theorem dX7_copy_123 : decode cX7_copy 123 = .ok (.ireturn, 1) := by decide +kernel
theorem dX7_copy_124 : decode cX7_copy 124 = .ok (.iconst 0, 1) := by decide +kernel
theorem dX7_copy_125 : decode cX7_copy 125 = .ok (.istore 6, 2) := by decide +kernel
theorem dX7_copy_127 : decode cX7_copy 127 = .ok (.iload 6, 2) := by decide +kernel
theorem dX7_copy_129 : decode cX7_copy 129 = .ok (.iload 5, 2) := by decide +kernel
theorem dX7_copy_131 : decode cX7_copy 131 = .ok (.if_icmp .ge 30, 3) := by decide +kernel
theorem dX7_copy_134 : decode cX7_copy 134 = .ok (.aload_n 0, 1) := by decide +kernel
theorem dX7_copy_135 : decode cX7_copy 135 = .ok (.getfield 25, 3) := by decide +kernel
theorem dX7_copy_138 : decode cX7_copy 138 = .ok (.iload 6, 2) := by decide +kernel
theorem dX7_copy_140 : decode cX7_copy 140 = .ok (.aload_n 0, 1) := by decide +kernel
theorem dX7_copy_141 : decode cX7_copy 141 = .ok (.getfield 22, 3) := by decide +kernel
theorem dX7_copy_144 : decode cX7_copy 144 = .ok (.bipush 24, 2) := by decide +kernel
theorem dX7_copy_146 : decode cX7_copy 146 = .ok (.iload_n 1, 1) := by decide +kernel
theorem dX7_copy_147 : decode cX7_copy 147 = .ok (.imul, 1) := by decide +kernel
theorem dX7_copy_148 : decode cX7_copy 148 = .ok (.iload_n 2, 1) := by decide +kernel
theorem dX7_copy_149 : decode cX7_copy 149 = .ok (.iadd, 1) := by decide +kernel
theorem dX7_copy_150 : decode cX7_copy 150 = .ok (.iload 6, 2) := by decide +kernel
theorem dX7_copy_152 : decode cX7_copy 152 = .ok (.iadd, 1) := by decide +kernel
theorem dX7_copy_153 : decode cX7_copy 153 = .ok (.iaload, 1) := by decide +kernel
theorem dX7_copy_154 : decode cX7_copy 154 = .ok (.iastore, 1) := by decide +kernel
theorem dX7_copy_155 : decode cX7_copy 155 = .ok (.iinc 6 1, 3) := by decide +kernel
theorem dX7_copy_158 : decode cX7_copy 158 = .ok (.goto (-31), 3) := by decide +kernel
theorem dX7_copy_161 : decode cX7_copy 161 = .ok (.iconst 0, 1) := by decide +kernel
theorem dX7_copy_162 : decode cX7_copy 162 = .ok (.istore 6, 2) := by decide +kernel
theorem dX7_copy_164 : decode cX7_copy 164 = .ok (.iload 6, 2) := by decide +kernel
theorem dX7_copy_166 : decode cX7_copy 166 = .ok (.iload 5, 2) := by decide +kernel
theorem dX7_copy_168 : decode cX7_copy 168 = .ok (.if_icmp .ge 31, 3) := by decide +kernel
theorem dX7_copy_171 : decode cX7_copy 171 = .ok (.aload_n 0, 1) := by decide +kernel
theorem dX7_copy_172 : decode cX7_copy 172 = .ok (.getfield 22, 3) := by decide +kernel
theorem dX7_copy_175 : decode cX7_copy 175 = .ok (.bipush 24, 2) := by decide +kernel
theorem dX7_copy_177 : decode cX7_copy 177 = .ok (.iload_n 3, 1) := by decide +kernel
theorem dX7_copy_178 : decode cX7_copy 178 = .ok (.imul, 1) := by decide +kernel
theorem dX7_copy_179 : decode cX7_copy 179 = .ok (.iload 4, 2) := by decide +kernel
theorem dX7_copy_181 : decode cX7_copy 181 = .ok (.iadd, 1) := by decide +kernel
theorem dX7_copy_182 : decode cX7_copy 182 = .ok (.iload 6, 2) := by decide +kernel
theorem dX7_copy_184 : decode cX7_copy 184 = .ok (.iadd, 1) := by decide +kernel
theorem dX7_copy_185 : decode cX7_copy 185 = .ok (.aload_n 0, 1) := by decide +kernel
theorem dX7_copy_186 : decode cX7_copy 186 = .ok (.getfield 25, 3) := by decide +kernel
theorem dX7_copy_189 : decode cX7_copy 189 = .ok (.iload 6, 2) := by decide +kernel
theorem dX7_copy_191 : decode cX7_copy 191 = .ok (.iaload, 1) := by decide +kernel
theorem dX7_copy_192 : decode cX7_copy 192 = .ok (.iastore, 1) := by decide +kernel
theorem dX7_copy_193 : decode cX7_copy 193 = .ok (.iinc 6 1, 3) := by decide +kernel
theorem dX7_copy_196 : decode cX7_copy 196 = .ok (.goto (-32), 3) := by decide +kernel
theorem dX7_copy_199 : decode cX7_copy 199 = .ok (.iload 5, 2) := by decide +kernel
theorem dX7_copy_201 : decode cX7_copy 201 = .ok (.ireturn, 1) := by decide +kernel
theorem dX7_cut_0 : decode cX7_cut 0 = .ok (.iload_n 0, 1) := by decide +kernel
theorem dX7_cut_1 : decode cX7_cut 1 = .ok (.bipush 23, 2) := by decide +kernel
theorem dX7_cut_3 : decode cX7_cut 3 = .ok (.ishr, 1) := by decide +kernel
theorem dX7_cut_4 : decode cX7_cut 4 = .ok (.sipush 255, 3) := by decide +kernel
theorem dX7_cut_7 : decode cX7_cut 7 = .ok (.iand, 1) := by decide +kernel
theorem dX7_cut_8 : decode cX7_cut 8 = .ok (.bipush 127, 2) := by decide +kernel
theorem dX7_cut_10 : decode cX7_cut 10 = .ok (.isub, 1) := by decide +kernel
theorem dX7_cut_11 : decode cX7_cut 11 = .ok (.istore_n 1, 1) := by decide +kernel
theorem dX7_cut_12 : decode cX7_cut 12 = .ok (.iload_n 0, 1) := by decide +kernel
theorem dX7_cut_13 : decode cX7_cut 13 = .ok (.ldc 96, 2) := by decide +kernel
theorem dX7_cut_15 : decode cX7_cut 15 = .ok (.iand, 1) := by decide +kernel
theorem dX7_cut_16 : decode cX7_cut 16 = .ok (.ldc 97, 2) := by decide +kernel
theorem dX7_cut_18 : decode cX7_cut 18 = .ok (.ior, 1) := by decide +kernel
theorem dX7_cut_19 : decode cX7_cut 19 = .ok (.istore_n 2, 1) := by decide +kernel
theorem dX7_cut_20 : decode cX7_cut 20 = .ok (.iload_n 1, 1) := by decide +kernel
theorem dX7_cut_21 : decode cX7_cut 21 = .ok (.ifCond .ge 7, 3) := by decide +kernel
theorem dX7_cut_24 : decode cX7_cut 24 = .ok (.iconst 0, 1) := by decide +kernel
theorem dX7_cut_25 : decode cX7_cut 25 = .ok (.goto 21, 3) := by decide +kernel
theorem dX7_cut_28 : decode cX7_cut 28 = .ok (.iload_n 1, 1) := by decide +kernel
theorem dX7_cut_29 : decode cX7_cut 29 = .ok (.bipush 10, 2) := by decide +kernel
theorem dX7_cut_31 : decode cX7_cut 31 = .ok (.if_icmp .le 9, 3) := by decide +kernel
theorem dX7_cut_34 : decode cX7_cut 34 = .ok (.sipush 2000, 3) := by decide +kernel
theorem dX7_cut_37 : decode cX7_cut 37 = .ok (.goto 9, 3) := by decide +kernel
theorem dX7_cut_40 : decode cX7_cut 40 = .ok (.iload_n 2, 1) := by decide +kernel
theorem dX7_cut_41 : decode cX7_cut 41 = .ok (.bipush 23, 2) := by decide +kernel
theorem dX7_cut_43 : decode cX7_cut 43 = .ok (.iload_n 1, 1) := by decide +kernel
theorem dX7_cut_44 : decode cX7_cut 44 = .ok (.isub, 1) := by decide +kernel
theorem dX7_cut_45 : decode cX7_cut 45 = .ok (.ishr, 1) := by decide +kernel
theorem dX7_cut_46 : decode cX7_cut 46 = .ok (.istore_n 3, 1) := by decide +kernel
theorem dX7_cut_47 : decode cX7_cut 47 = .ok (.iload_n 0, 1) := by decide +kernel
theorem dX7_cut_48 : decode cX7_cut 48 = .ok (.ifCond .ge 8, 3) := by decide +kernel
theorem dX7_cut_51 : decode cX7_cut 51 = .ok (.iload_n 3, 1) := by decide +kernel
theorem dX7_cut_52 : decode cX7_cut 52 = .ok (.ineg, 1) := by decide +kernel
theorem dX7_cut_53 : decode cX7_cut 53 = .ok (.goto 4, 3) := by decide +kernel
theorem dX7_cut_56 : decode cX7_cut 56 = .ok (.iload_n 3, 1) := by decide +kernel
theorem dX7_cut_57 : decode cX7_cut 57 = .ok (.ireturn, 1) := by decide +kernel
theorem dX7_draws_0 : decode cX7_draws 0 = .ok (.aload_n 0, 1) := by decide +kernel
theorem dX7_draws_1 : decode cX7_draws 1 = .ok (.iload_n 1, 1) := by decide +kernel
theorem dX7_draws_2 : decode cX7_draws 2 = .ok (.invokevirtual 68, 3) := by decide +kernel
theorem dX7_draws_5 : decode cX7_draws 5 = .ok (.ifCond .eq 17, 3) := by decide +kernel
theorem dX7_draws_8 : decode cX7_draws 8 = .ok (.iload_n 2, 1) := by decide +kernel
theorem dX7_draws_9 : decode cX7_draws 9 = .ok (.invokestatic 98, 3) := by decide +kernel
theorem dX7_draws_12 : decode cX7_draws 12 = .ok (.ifCond .eq 10, 3) := by decide +kernel
theorem dX7_draws_15 : decode cX7_draws 15 = .ok (.iload_n 3, 1) := by decide +kernel
theorem dX7_draws_16 : decode cX7_draws 16 = .ok (.invokestatic 86, 3) := by decide +kernel
theorem dX7_draws_19 : decode cX7_draws 19 = .ok (.ifCond .ne 10, 3) := by decide +kernel
theorem dX7_draws_22 : decode cX7_draws 22 = .ok (.aload_n 0, 1) := by decide +kernel
theorem dX7_draws_23 : decode cX7_draws 23 = .ok (.ldc 62, 2) := by decide +kernel
theorem dX7_draws_25 : decode cX7_draws 25 = .ok (.invokevirtual 63, 3) := by decide +kernel
theorem dX7_draws_28 : decode cX7_draws 28 = .ok (.ireturn, 1) := by decide +kernel
theorem dX7_draws_29 : decode cX7_draws 29 = .ok (.aload_n 0, 1) := by decide +kernel
theorem dX7_draws_30 : decode cX7_draws 30 = .ok (.iload_n 1, 1) := by decide +kernel
theorem dX7_draws_31 : decode cX7_draws 31 = .ok (.invokevirtual 71, 3) := by decide +kernel
theorem dX7_draws_34 : decode cX7_draws 34 = .ok (.iconst 5, 1) := by decide +kernel
theorem dX7_draws_35 : decode cX7_draws 35 = .ok (.if_icmp .ne 10, 3) := by decide +kernel
theorem dX7_draws_38 : decode cX7_draws 38 = .ok (.aload_n 0, 1) := by decide +kernel
theorem dX7_draws_39 : decode cX7_draws 39 = .ok (.ldc 74, 2) := by decide +kernel
theorem dX7_draws_41 : decode cX7_draws 41 = .ok (.invokevirtual 63, 3) := by decide +kernel
theorem dX7_draws_44 : decode cX7_draws 44 = .ok (.ireturn, 1) := by decide +kernel
theorem dX7_draws_45 : decode cX7_draws 45 = .ok (.aload_n 0, 1) := by decide +kernel
theorem dX7_draws_46 : decode cX7_draws 46 = .ok (.getfield 16, 3) := by decide +kernel
theorem dX7_draws_49 : decode cX7_draws 49 = .ok (.iload_n 3, 1) := by decide +kernel
theorem dX7_draws_50 : decode cX7_draws 50 = .ok (.iaload, 1) := by decide +kernel
theorem dX7_draws_51 : decode cX7_draws 51 = .ok (.ifCond .ne 10, 3) := by decide +kernel
theorem dX7_draws_54 : decode cX7_draws 54 = .ok (.aload_n 0, 1) := by decide +kernel
theorem dX7_draws_55 : decode cX7_draws 55 = .ok (.ldc 91, 2) := by decide +kernel
theorem dX7_draws_57 : decode cX7_draws 57 = .ok (.invokevirtual 63, 3) := by decide +kernel
theorem dX7_draws_60 : decode cX7_draws 60 = .ok (.ireturn, 1) := by decide +kernel
theorem dX7_draws_61 : decode cX7_draws 61 = .ok (.aload_n 0, 1) := by decide +kernel
theorem dX7_draws_62 : decode cX7_draws 62 = .ok (.getfield 19, 3) := by decide +kernel
theorem dX7_draws_65 : decode cX7_draws 65 = .ok (.iload_n 3, 1) := by decide +kernel
theorem dX7_draws_66 : decode cX7_draws 66 = .ok (.iaload, 1) := by decide +kernel
theorem dX7_draws_67 : decode cX7_draws 67 = .ok (.bipush 24, 2) := by decide +kernel
theorem dX7_draws_69 : decode cX7_draws 69 = .ok (.iload_n 2, 1) := by decide +kernel
theorem dX7_draws_70 : decode cX7_draws 70 = .ok (.isub, 1) := by decide +kernel
theorem dX7_draws_71 : decode cX7_draws 71 = .ok (.if_icmp .ge 12, 3) := by decide +kernel
theorem dX7_draws_74 : decode cX7_draws 74 = .ok (.aload_n 0, 1) := by decide +kernel
theorem dX7_draws_75 : decode cX7_draws 75 = .ok (.getfield 19, 3) := by decide +kernel
theorem dX7_draws_78 : decode cX7_draws 78 = .ok (.iload_n 3, 1) := by decide +kernel
theorem dX7_draws_79 : decode cX7_draws 79 = .ok (.iaload, 1) := by decide +kernel
theorem dX7_draws_80 : decode cX7_draws 80 = .ok (.goto 7, 3) := by decide +kernel
theorem dX7_draws_83 : decode cX7_draws 83 = .ok (.bipush 24, 2) := by decide +kernel
theorem dX7_draws_85 : decode cX7_draws 85 = .ok (.iload_n 2, 1) := by decide +kernel
theorem dX7_draws_86 : decode cX7_draws 86 = .ok (.isub, 1) := by decide +kernel
theorem dX7_draws_87 : decode cX7_draws 87 = .ok (.istore 4, 2) := by decide +kernel
theorem dX7_draws_89 : decode cX7_draws 89 = .ok (.aload_n 0, 1) := by decide +kernel
theorem dX7_draws_90 : decode cX7_draws 90 = .ok (.getfield 16, 3) := by decide +kernel
theorem dX7_draws_93 : decode cX7_draws 93 = .ok (.iload_n 3, 1) := by decide +kernel
theorem dX7_draws_94 : decode cX7_draws 94 = .ok (.iaload, 1) := by decide +kernel
theorem dX7_draws_95 : decode cX7_draws 95 = .ok (.iconst 2, 1) := by decide +kernel
theorem dX7_draws_96 : decode cX7_draws 96 = .ok (.if_icmp .ne 7, 3) := by decide +kernel
theorem dX7_draws_99 : decode cX7_draws 99 = .ok (.iconst 1, 1) := by decide +kernel
theorem dX7_draws_100 : decode cX7_draws 100 = .ok (.goto 4, 3) := by decide +kernel
theorem dX7_draws_103 : decode cX7_draws 103 = .ok (.iconst 0, 1) := by decide +kernel
theorem dX7_draws_104 : decode cX7_draws 104 = .ok (.istore 5, 2) := by decide +kernel
theorem dX7_draws_106 : decode cX7_draws 106 = .ok (.iconst 0, 1) := by decide +kernel
theorem dX7_draws_107 : decode cX7_draws 107 = .ok (.istore 6, 2) := by decide +kernel
theorem dX7_draws_109 : decode cX7_draws 109 = .ok (.iload 6, 2) := by decide +kernel
theorem dX7_draws_111 : decode cX7_draws 111 = .ok (.iload 4, 2) := by decide +kernel
theorem dX7_draws_113 : decode cX7_draws 113 = .ok (.if_icmp .ge 39, 3) := by decide +kernel
theorem dX7_draws_116 : decode cX7_draws 116 = .ok (.iload 5, 2) := by decide +kernel
theorem dX7_draws_118 : decode cX7_draws 118 = .ok (.ifCond .eq 34, 3) := by decide +kernel
theorem dX7_draws_121 : decode cX7_draws 121 = .ok (.aload_n 0, 1) := by decide +kernel
theorem dX7_draws_122 : decode cX7_draws 122 = .ok (.getfield 22, 3) := by decide +kernel
theorem dX7_draws_125 : decode cX7_draws 125 = .ok (.bipush 24, 2) := by decide +kernel
theorem dX7_draws_127 : decode cX7_draws 127 = .ok (.iload_n 3, 1) := by decide +kernel
theorem dX7_draws_128 : decode cX7_draws 128 = .ok (.imul, 1) := by decide +kernel
theorem dX7_draws_129 : decode cX7_draws 129 = .ok (.iload 6, 2) := by decide +kernel
theorem dX7_draws_131 : decode cX7_draws 131 = .ok (.iadd, 1) := by decide +kernel
theorem dX7_draws_132 : decode cX7_draws 132 = .ok (.iaload, 1) := by decide +kernel
theorem dX7_draws_133 : decode cX7_draws 133 = .ok (.invokestatic 92, 3) := by decide +kernel
theorem dX7_draws_136 : decode cX7_draws 136 = .ok (.ifCond .eq 10, 3) := by decide +kernel
theorem dX7_draws_139 : decode cX7_draws 139 = .ok (.aload_n 0, 1) := by decide +kernel
theorem dX7_draws_140 : decode cX7_draws 140 = .ok (.ldc 101, 2) := by decide +kernel
theorem dX7_draws_142 : decode cX7_draws 142 = .ok (.invokevirtual 63, 3) := by decide +kernel
theorem dX7_draws_145 : decode cX7_draws 145 = .ok (.ireturn, 1) := by decide +kernel
theorem dX7_draws_146 : decode cX7_draws 146 = .ok (.iinc 6 1, 3) := by decide +kernel
theorem dX7_draws_149 : decode cX7_draws 149 = .ok (.goto (-40), 3) := by decide +kernel
theorem dX7_draws_152 : decode cX7_draws 152 = .ok (.iconst 0, 1) := by decide +kernel
theorem dX7_draws_153 : decode cX7_draws 153 = .ok (.istore 6, 2) := by decide +kernel
theorem dX7_draws_155 : decode cX7_draws 155 = .ok (.iload 6, 2) := by decide +kernel
theorem dX7_draws_157 : decode cX7_draws 157 = .ok (.iload 4, 2) := by decide +kernel
theorem dX7_draws_159 : decode cX7_draws 159 = .ok (.if_icmp .ge 75, 3) := by decide +kernel
theorem dX7_draws_162 : decode cX7_draws 162 = .ok (.aload_n 0, 1) := by decide +kernel
theorem dX7_draws_163 : decode cX7_draws 163 = .ok (.getfield 25, 3) := by decide +kernel
theorem dX7_draws_166 : decode cX7_draws 166 = .ok (.iload 6, 2) := by decide +kernel
theorem dX7_draws_168 : decode cX7_draws 168 = .ok (.iload 5, 2) := by decide +kernel
theorem dX7_draws_170 : decode cX7_draws 170 = .ok (.ifCond .eq 21, 3) := by decide +kernel
theorem dX7_draws_173 : decode cX7_draws 173 = .ok (.aload_n 0, 1) := by decide +kernel
theorem dX7_draws_174 : decode cX7_draws 174 = .ok (.getfield 22, 3) := by decide +kernel
theorem dX7_draws_177 : decode cX7_draws 177 = .ok (.bipush 24, 2) := by decide +kernel
theorem dX7_draws_179 : decode cX7_draws 179 = .ok (.iload_n 3, 1) := by decide +kernel
theorem dX7_draws_180 : decode cX7_draws 180 = .ok (.imul, 1) := by decide +kernel
theorem dX7_draws_181 : decode cX7_draws 181 = .ok (.iload 6, 2) := by decide +kernel
theorem dX7_draws_183 : decode cX7_draws 183 = .ok (.iadd, 1) := by decide +kernel
theorem dX7_draws_184 : decode cX7_draws 184 = .ok (.iaload, 1) := by decide +kernel
theorem dX7_draws_185 : decode cX7_draws 185 = .ok (.invokestatic 102, 3) := by decide +kernel
theorem dX7_draws_188 : decode cX7_draws 188 = .ok (.goto 15, 3) := by decide +kernel
theorem dX7_draws_191 : decode cX7_draws 191 = .ok (.aload_n 0, 1) := by decide +kernel
theorem dX7_draws_192 : decode cX7_draws 192 = .ok (.getfield 22, 3) := by decide +kernel
theorem dX7_draws_195 : decode cX7_draws 195 = .ok (.bipush 24, 2) := by decide +kernel
theorem dX7_draws_197 : decode cX7_draws 197 = .ok (.iload_n 3, 1) := by decide +kernel
theorem dX7_draws_198 : decode cX7_draws 198 = .ok (.imul, 1) := by decide +kernel
theorem dX7_draws_199 : decode cX7_draws 199 = .ok (.iload 6, 2) := by decide +kernel
theorem dX7_draws_201 : decode cX7_draws 201 = .ok (.iadd, 1) := by decide +kernel
theorem dX7_draws_202 : decode cX7_draws 202 = .ok (.iaload, 1) := by decide +kernel
theorem dX7_draws_203 : decode cX7_draws 203 = .ok (.iastore, 1) := by decide +kernel
theorem dX7_draws_204 : decode cX7_draws 204 = .ok (.aload_n 0, 1) := by decide +kernel
theorem dX7_draws_205 : decode cX7_draws 205 = .ok (.getfield 25, 3) := by decide +kernel
theorem dX7_draws_208 : decode cX7_draws 208 = .ok (.iload 6, 2) := by decide +kernel
theorem dX7_draws_210 : decode cX7_draws 210 = .ok (.iaload, 1) := by decide +kernel
theorem dX7_draws_211 : decode cX7_draws 211 = .ok (.iconst 0, 1) := by decide +kernel
theorem dX7_draws_212 : decode cX7_draws 212 = .ok (.sipush 1000, 3) := by decide +kernel
theorem dX7_draws_215 : decode cX7_draws 215 = .ok (.invokestatic 48, 3) := by decide +kernel
theorem dX7_draws_218 : decode cX7_draws 218 = .ok (.ifCond .ne 10, 3) := by decide +kernel
theorem dX7_draws_221 : decode cX7_draws 221 = .ok (.aload_n 0, 1) := by decide +kernel
theorem dX7_draws_222 : decode cX7_draws 222 = .ok (.ldc 62, 2) := by decide +kernel
theorem dX7_draws_224 : decode cX7_draws 224 = .ok (.invokevirtual 63, 3) := by decide +kernel
theorem dX7_draws_227 : decode cX7_draws 227 = .ok (.ireturn, 1) := by decide +kernel
theorem dX7_draws_228 : decode cX7_draws 228 = .ok (.iinc 6 1, 3) := by decide +kernel
theorem dX7_draws_231 : decode cX7_draws 231 = .ok (.goto (-76), 3) := by decide +kernel
theorem dX7_draws_234 : decode cX7_draws 234 = .ok (.iconst 0, 1) := by decide +kernel
theorem dX7_draws_235 : decode cX7_draws 235 = .ok (.istore 6, 2) := by decide +kernel
theorem dX7_draws_237 : decode cX7_draws 237 = .ok (.iload 6, 2) := by decide +kernel
theorem dX7_draws_239 : decode cX7_draws 239 = .ok (.iload 4, 2) := by decide +kernel
theorem dX7_draws_241 : decode cX7_draws 241 = .ok (.if_icmp .ge 33, 3) := by decide +kernel
theorem dX7_draws_244 : decode cX7_draws 244 = .ok (.aload_n 0, 1) := by decide +kernel
theorem dX7_draws_245 : decode cX7_draws 245 = .ok (.getfield 7, 3) := by decide +kernel
theorem dX7_draws_248 : decode cX7_draws 248 = .ok (.bipush 50, 2) := by decide +kernel
theorem dX7_draws_250 : decode cX7_draws 250 = .ok (.bipush 24, 2) := by decide +kernel
theorem dX7_draws_252 : decode cX7_draws 252 = .ok (.iload_n 1, 1) := by decide +kernel
theorem dX7_draws_253 : decode cX7_draws 253 = .ok (.imul, 1) := by decide +kernel
theorem dX7_draws_254 : decode cX7_draws 254 = .ok (.iadd, 1) := by decide +kernel
theorem dX7_draws_255 : decode cX7_draws 255 = .ok (.iload_n 2, 1) := by decide +kernel
theorem dX7_draws_256 : decode cX7_draws 256 = .ok (.iadd, 1) := by decide +kernel
theorem dX7_draws_257 : decode cX7_draws 257 = .ok (.iload 6, 2) := by decide +kernel
theorem dX7_draws_259 : decode cX7_draws 259 = .ok (.iadd, 1) := by decide +kernel
theorem dX7_draws_260 : decode cX7_draws 260 = .ok (.aload_n 0, 1) := by decide +kernel
theorem dX7_draws_261 : decode cX7_draws 261 = .ok (.getfield 25, 3) := by decide +kernel
theorem dX7_draws_264 : decode cX7_draws 264 = .ok (.iload 6, 2) := by decide +kernel
theorem dX7_draws_266 : decode cX7_draws 266 = .ok (.iaload, 1) := by decide +kernel
theorem dX7_draws_267 : decode cX7_draws 267 = .ok (.iastore, 1) := by decide +kernel
theorem dX7_draws_268 : decode cX7_draws 268 = .ok (.iinc 6 1, 3) := by decide +kernel
theorem dX7_draws_271 : decode cX7_draws 271 = .ok (.goto (-34), 3) := by decide +kernel
theorem dX7_draws_274 : decode cX7_draws 274 = .ok (.iload 4, 2) := by decide +kernel
theorem dX7_draws_276 : decode cX7_draws 276 = .ok (.ireturn, 1) := by decide +kernel
theorem dX7_draw_0 : decode cX7_draw 0 = .ok (.aload_n 0, 1) := by decide +kernel
theorem dX7_draw_1 : decode cX7_draw 1 = .ok (.iload_n 1, 1) := by decide +kernel
theorem dX7_draw_2 : decode cX7_draw 2 = .ok (.invokevirtual 68, 3) := by decide +kernel
theorem dX7_draw_5 : decode cX7_draw 5 = .ok (.ifCond .eq 21, 3) := by decide +kernel
theorem dX7_draw_8 : decode cX7_draw 8 = .ok (.iload_n 2, 1) := by decide +kernel
theorem dX7_draw_9 : decode cX7_draw 9 = .ok (.invokestatic 98, 3) := by decide +kernel
theorem dX7_draw_12 : decode cX7_draw 12 = .ok (.ifCond .eq 14, 3) := by decide +kernel
theorem dX7_draw_15 : decode cX7_draw 15 = .ok (.iload_n 3, 1) := by decide +kernel
theorem dX7_draw_16 : decode cX7_draw 16 = .ok (.iconst 0, 1) := by decide +kernel
theorem dX7_draw_17 : decode cX7_draw 17 = .ok (.sipush 1000, 3) := by decide +kernel
theorem dX7_draw_20 : decode cX7_draw 20 = .ok (.invokestatic 48, 3) := by decide +kernel
theorem dX7_draw_23 : decode cX7_draw 23 = .ok (.ifCond .ne 10, 3) := by decide +kernel
theorem dX7_draw_26 : decode cX7_draw 26 = .ok (.aload_n 0, 1) := by decide +kernel
theorem dX7_draw_27 : decode cX7_draw 27 = .ok (.ldc 62, 2) := by decide +kernel
theorem dX7_draw_29 : decode cX7_draw 29 = .ok (.invokevirtual 63, 3) := by decide +kernel
theorem dX7_draw_32 : decode cX7_draw 32 = .ok (.ireturn, 1) := by decide +kernel
theorem dX7_draw_33 : decode cX7_draw 33 = .ok (.aload_n 0, 1) := by decide +kernel
theorem dX7_draw_34 : decode cX7_draw 34 = .ok (.iload_n 1, 1) := by decide +kernel
theorem dX7_draw_35 : decode cX7_draw 35 = .ok (.invokevirtual 71, 3) := by decide +kernel
theorem dX7_draw_38 : decode cX7_draw 38 = .ok (.iconst 5, 1) := by decide +kernel
theorem dX7_draw_39 : decode cX7_draw 39 = .ok (.if_icmp .ne 10, 3) := by decide +kernel
theorem dX7_draw_42 : decode cX7_draw 42 = .ok (.aload_n 0, 1) := by decide +kernel
theorem dX7_draw_43 : decode cX7_draw 43 = .ok (.ldc 74, 2) := by decide +kernel
theorem dX7_draw_45 : decode cX7_draw 45 = .ok (.invokevirtual 63, 3) := by decide +kernel
theorem dX7_draw_48 : decode cX7_draw 48 = .ok (.ireturn, 1) := by decide +kernel
theorem dX7_draw_49 : decode cX7_draw 49 = .ok (.aload_n 0, 1) := by decide +kernel
theorem dX7_draw_50 : decode cX7_draw 50 = .ok (.iload_n 1, 1) := by decide +kernel
theorem dX7_draw_51 : decode cX7_draw 51 = .ok (.iload_n 2, 1) := by decide +kernel
theorem dX7_draw_52 : decode cX7_draw 52 = .ok (.invokevirtual 75, 3) := by decide +kernel
theorem dX7_draw_55 : decode cX7_draw 55 = .ok (.istore 4, 2) := by decide +kernel
theorem dX7_draw_57 : decode cX7_draw 57 = .ok (.aload_n 0, 1) := by decide +kernel
theorem dX7_draw_58 : decode cX7_draw 58 = .ok (.getfield 7, 3) := by decide +kernel
theorem dX7_draw_61 : decode cX7_draw 61 = .ok (.bipush 50, 2) := by decide +kernel
theorem dX7_draw_63 : decode cX7_draw 63 = .ok (.bipush 24, 2) := by decide +kernel
theorem dX7_draw_65 : decode cX7_draw 65 = .ok (.iload_n 1, 1) := by decide +kernel
theorem dX7_draw_66 : decode cX7_draw 66 = .ok (.imul, 1) := by decide +kernel
theorem dX7_draw_67 : decode cX7_draw 67 = .ok (.iadd, 1) := by decide +kernel
theorem dX7_draw_68 : decode cX7_draw 68 = .ok (.iload_n 2, 1) := by decide +kernel
theorem dX7_draw_69 : decode cX7_draw 69 = .ok (.iadd, 1) := by decide +kernel
theorem dX7_draw_70 : decode cX7_draw 70 = .ok (.iload_n 3, 1) := by decide +kernel
theorem dX7_draw_71 : decode cX7_draw 71 = .ok (.iastore, 1) := by decide +kernel
theorem dX7_draw_72 : decode cX7_draw 72 = .ok (.iload 4, 2) := by decide +kernel
theorem dX7_draw_74 : decode cX7_draw 74 = .ok (.ireturn, 1) := by decide +kernel
theorem dX7_sign_0 : decode cX7_sign 0 = .ok (.aload_n 0, 1) := by decide +kernel
theorem dX7_sign_1 : decode cX7_sign 1 = .ok (.iload_n 1, 1) := by decide +kernel
theorem dX7_sign_2 : decode cX7_sign 2 = .ok (.invokevirtual 71, 3) := by decide +kernel
theorem dX7_sign_5 : decode cX7_sign 5 = .ok (.istore_n 3, 1) := by decide +kernel
theorem dX7_sign_6 : decode cX7_sign 6 = .ok (.iload_n 3, 1) := by decide +kernel
theorem dX7_sign_7 : decode cX7_sign 7 = .ok (.iconst 2, 1) := by decide +kernel
theorem dX7_sign_8 : decode cX7_sign 8 = .ok (.if_icmp .ne 18, 3) := by decide +kernel
theorem dX7_sign_11 : decode cX7_sign 11 = .ok (.iload_n 1, 1) := by decide +kernel
theorem dX7_sign_12 : decode cX7_sign 12 = .ok (.iconst 2, 1) := by decide +kernel
theorem dX7_sign_13 : decode cX7_sign 13 = .ok (.irem, 1) := by decide +kernel
theorem dX7_sign_14 : decode cX7_sign 14 = .ok (.iload_n 2, 1) := by decide +kernel
theorem dX7_sign_15 : decode cX7_sign 15 = .ok (.iconst 2, 1) := by decide +kernel
theorem dX7_sign_16 : decode cX7_sign 16 = .ok (.irem, 1) := by decide +kernel
theorem dX7_sign_17 : decode cX7_sign 17 = .ok (.if_icmp .ne 7, 3) := by decide +kernel
theorem dX7_sign_20 : decode cX7_sign 20 = .ok (.iconst 1, 1) := by decide +kernel
theorem dX7_sign_21 : decode cX7_sign 21 = .ok (.goto 4, 3) := by decide +kernel
theorem dX7_sign_24 : decode cX7_sign 24 = .ok (.iconst 0, 1) := by decide +kernel
theorem dX7_sign_25 : decode cX7_sign 25 = .ok (.ireturn, 1) := by decide +kernel
theorem dX7_sign_26 : decode cX7_sign 26 = .ok (.iload_n 3, 1) := by decide +kernel
theorem dX7_sign_27 : decode cX7_sign 27 = .ok (.iconst 5, 1) := by decide +kernel
theorem dX7_sign_28 : decode cX7_sign 28 = .ok (.if_icmp .ne 7, 3) := by decide +kernel
theorem dX7_sign_31 : decode cX7_sign 31 = .ok (.iconst 0, 1) := by decide +kernel
theorem dX7_sign_32 : decode cX7_sign 32 = .ok (.goto 18, 3) := by decide +kernel
theorem dX7_sign_35 : decode cX7_sign 35 = .ok (.iload_n 3, 1) := by decide +kernel
theorem dX7_sign_36 : decode cX7_sign 36 = .ok (.iconst 3, 1) := by decide +kernel
theorem dX7_sign_37 : decode cX7_sign 37 = .ok (.if_icmp .eq 8, 3) := by decide +kernel
theorem dX7_sign_40 : decode cX7_sign 40 = .ok (.iload_n 3, 1) := by decide +kernel
theorem dX7_sign_41 : decode cX7_sign 41 = .ok (.iconst 4, 1) := by decide +kernel
theorem dX7_sign_42 : decode cX7_sign 42 = .ok (.if_icmp .ne 7, 3) := by decide +kernel
theorem dX7_sign_45 : decode cX7_sign 45 = .ok (.iconst (-1), 1) := by decide +kernel
theorem dX7_sign_46 : decode cX7_sign 46 = .ok (.goto 4, 3) := by decide +kernel
theorem dX7_sign_49 : decode cX7_sign 49 = .ok (.iconst 1, 1) := by decide +kernel
theorem dX7_sign_50 : decode cX7_sign 50 = .ok (.ireturn, 1) := by decide +kernel
theorem dX7_counts_0 : decode cX7_counts 0 = .ok (.aload_n 0, 1) := by decide +kernel
theorem dX7_counts_1 : decode cX7_counts 1 = .ok (.iload_n 1, 1) := by decide +kernel
theorem dX7_counts_2 : decode cX7_counts 2 = .ok (.invokevirtual 68, 3) := by decide +kernel
theorem dX7_counts_5 : decode cX7_counts 5 = .ok (.ifCond .eq 26, 3) := by decide +kernel
theorem dX7_counts_8 : decode cX7_counts 8 = .ok (.iload_n 2, 1) := by decide +kernel
theorem dX7_counts_9 : decode cX7_counts 9 = .ok (.invokestatic 98, 3) := by decide +kernel
theorem dX7_counts_12 : decode cX7_counts 12 = .ok (.ifCond .eq 19, 3) := by decide +kernel
theorem dX7_counts_15 : decode cX7_counts 15 = .ok (.aload_n 0, 1) := by decide +kernel
theorem dX7_counts_16 : decode cX7_counts 16 = .ok (.iload_n 1, 1) := by decide +kernel
theorem dX7_counts_17 : decode cX7_counts 17 = .ok (.iload_n 2, 1) := by decide +kernel
theorem dX7_counts_18 : decode cX7_counts 18 = .ok (.invokevirtual 105, 3) := by decide +kernel
theorem dX7_counts_21 : decode cX7_counts 21 = .ok (.aload_n 0, 1) := by decide +kernel
theorem dX7_counts_22 : decode cX7_counts 22 = .ok (.iload_n 1, 1) := by decide +kernel
theorem dX7_counts_23 : decode cX7_counts 23 = .ok (.iload_n 2, 1) := by decide +kernel
theorem dX7_counts_24 : decode cX7_counts 24 = .ok (.invokevirtual 75, 3) := by decide +kernel
theorem dX7_counts_27 : decode cX7_counts 27 = .ok (.imul, 1) := by decide +kernel
theorem dX7_counts_28 : decode cX7_counts 28 = .ok (.goto 9, 3) := by decide +kernel
theorem dX7_counts_31 : decode cX7_counts 31 = .ok (.aload_n 0, 1) := by decide +kernel
theorem dX7_counts_32 : decode cX7_counts 32 = .ok (.ldc 62, 2) := by decide +kernel
theorem dX7_counts_34 : decode cX7_counts 34 = .ok (.invokevirtual 63, 3) := by decide +kernel
theorem dX7_counts_37 : decode cX7_counts 37 = .ok (.ireturn, 1) := by decide +kernel
theorem dX7_rain_0 : decode cX7_rain 0 = .ok (.iload_n 1, 1) := by decide +kernel
theorem dX7_rain_1 : decode cX7_rain 1 = .ok (.invokestatic 98, 3) := by decide +kernel
theorem dX7_rain_4 : decode cX7_rain 4 = .ok (.ifCond .eq 14, 3) := by decide +kernel
theorem dX7_rain_7 : decode cX7_rain 7 = .ok (.iload_n 2, 1) := by decide +kernel
theorem dX7_rain_8 : decode cX7_rain 8 = .ok (.iconst 0, 1) := by decide +kernel
theorem dX7_rain_9 : decode cX7_rain 9 = .ok (.sipush 1000, 3) := by decide +kernel
theorem dX7_rain_12 : decode cX7_rain 12 = .ok (.invokestatic 48, 3) := by decide +kernel
theorem dX7_rain_15 : decode cX7_rain 15 = .ok (.ifCond .ne 10, 3) := by decide +kernel
theorem dX7_rain_18 : decode cX7_rain 18 = .ok (.aload_n 0, 1) := by decide +kernel
theorem dX7_rain_19 : decode cX7_rain 19 = .ok (.ldc 62, 2) := by decide +kernel
theorem dX7_rain_21 : decode cX7_rain 21 = .ok (.invokevirtual 63, 3) := by decide +kernel
theorem dX7_rain_24 : decode cX7_rain 24 = .ok (.ireturn, 1) := by decide +kernel
theorem dX7_rain_25 : decode cX7_rain 25 = .ok (.aload_n 0, 1) := by decide +kernel
theorem dX7_rain_26 : decode cX7_rain 26 = .ok (.getfield 7, 3) := by decide +kernel
theorem dX7_rain_29 : decode cX7_rain 29 = .ok (.sipush 542, 3) := by decide +kernel
theorem dX7_rain_32 : decode cX7_rain 32 = .ok (.iload_n 1, 1) := by decide +kernel
theorem dX7_rain_33 : decode cX7_rain 33 = .ok (.iadd, 1) := by decide +kernel
theorem dX7_rain_34 : decode cX7_rain 34 = .ok (.iaload, 1) := by decide +kernel
theorem dX7_rain_35 : decode cX7_rain 35 = .ok (.istore_n 3, 1) := by decide +kernel
theorem dX7_rain_36 : decode cX7_rain 36 = .ok (.aload_n 0, 1) := by decide +kernel
theorem dX7_rain_37 : decode cX7_rain 37 = .ok (.getfield 7, 3) := by decide +kernel
theorem dX7_rain_40 : decode cX7_rain 40 = .ok (.sipush 542, 3) := by decide +kernel
theorem dX7_rain_43 : decode cX7_rain 43 = .ok (.iload_n 1, 1) := by decide +kernel
theorem dX7_rain_44 : decode cX7_rain 44 = .ok (.iadd, 1) := by decide +kernel
theorem dX7_rain_45 : decode cX7_rain 45 = .ok (.iload_n 2, 1) := by decide +kernel
theorem dX7_rain_46 : decode cX7_rain 46 = .ok (.iastore, 1) := by decide +kernel
theorem dX7_rain_47 : decode cX7_rain 47 = .ok (.iload_n 3, 1) := by decide +kernel
theorem dX7_rain_48 : decode cX7_rain 48 = .ok (.ireturn, 1) := by decide +kernel
theorem dX7_dry_0 : decode cX7_dry 0 = .ok (.iconst 0, 1) := by decide +kernel
theorem dX7_dry_1 : decode cX7_dry 1 = .ok (.istore_n 1, 1) := by decide +kernel
theorem dX7_dry_2 : decode cX7_dry 2 = .ok (.bipush 50, 2) := by decide +kernel
theorem dX7_dry_4 : decode cX7_dry 4 = .ok (.istore_n 2, 1) := by decide +kernel
theorem dX7_dry_5 : decode cX7_dry 5 = .ok (.iload_n 2, 1) := by decide +kernel
theorem dX7_dry_6 : decode cX7_dry 6 = .ok (.sipush 290, 3) := by decide +kernel
theorem dX7_dry_9 : decode cX7_dry 9 = .ok (.if_icmp .ge 33, 3) := by decide +kernel
theorem dX7_dry_12 : decode cX7_dry 12 = .ok (.iload_n 1, 1) := by decide +kernel
theorem dX7_dry_13 : decode cX7_dry 13 = .ok (.aload_n 0, 1) := by decide +kernel
theorem dX7_dry_14 : decode cX7_dry 14 = .ok (.getfield 7, 3) := by decide +kernel
theorem dX7_dry_17 : decode cX7_dry 17 = .ok (.iload_n 2, 1) := by decide +kernel
theorem dX7_dry_18 : decode cX7_dry 18 = .ok (.iaload, 1) := by decide +kernel
theorem dX7_dry_19 : decode cX7_dry 19 = .ok (.ifCond .eq 7, 3) := by decide +kernel
theorem dX7_dry_22 : decode cX7_dry 22 = .ok (.iconst 1, 1) := by decide +kernel
theorem dX7_dry_23 : decode cX7_dry 23 = .ok (.goto 4, 3) := by decide +kernel
theorem dX7_dry_26 : decode cX7_dry 26 = .ok (.iconst 0, 1) := by decide +kernel
theorem dX7_dry_27 : decode cX7_dry 27 = .ok (.iadd, 1) := by decide +kernel
end
section
theorem dX7_dry_28 : decode cX7_dry 28 = .ok (.istore_n 1, 1) := by decide +kernel
theorem dX7_dry_29 : decode cX7_dry 29 = .ok (.aload_n 0, 1) := by decide +kernel
theorem dX7_dry_30 : decode cX7_dry 30 = .ok (.getfield 7, 3) := by decide +kernel
theorem dX7_dry_33 : decode cX7_dry 33 = .ok (.iload_n 2, 1) := by decide +kernel
theorem dX7_dry_34 : decode cX7_dry 34 = .ok (.iconst 0, 1) := by decide +kernel
theorem dX7_dry_35 : decode cX7_dry 35 = .ok (.iastore, 1) := by decide +kernel
theorem dX7_dry_36 : decode cX7_dry 36 = .ok (.iinc 2 1, 3) := by decide +kernel
theorem dX7_dry_39 : decode cX7_dry 39 = .ok (.goto (-34), 3) := by decide +kernel
theorem dX7_dry_42 : decode cX7_dry 42 = .ok (.sipush 542, 3) := by decide +kernel
theorem dX7_dry_45 : decode cX7_dry 45 = .ok (.istore_n 2, 1) := by decide +kernel
theorem dX7_dry_46 : decode cX7_dry 46 = .ok (.iload_n 2, 1) := by decide +kernel
theorem dX7_dry_47 : decode cX7_dry 47 = .ok (.sipush 566, 3) := by decide +kernel
theorem dX7_dry_50 : decode cX7_dry 50 = .ok (.if_icmp .ge 33, 3) := by decide +kernel
theorem dX7_dry_53 : decode cX7_dry 53 = .ok (.iload_n 1, 1) := by decide +kernel
theorem dX7_dry_54 : decode cX7_dry 54 = .ok (.aload_n 0, 1) := by decide +kernel
theorem dX7_dry_55 : decode cX7_dry 55 = .ok (.getfield 7, 3) := by decide +kernel
theorem dX7_dry_58 : decode cX7_dry 58 = .ok (.iload_n 2, 1) := by decide +kernel
theorem dX7_dry_59 : decode cX7_dry 59 = .ok (.iaload, 1) := by decide +kernel
theorem dX7_dry_60 : decode cX7_dry 60 = .ok (.ifCond .eq 7, 3) := by decide +kernel
theorem dX7_dry_63 : decode cX7_dry 63 = .ok (.iconst 1, 1) := by decide +kernel
theorem dX7_dry_64 : decode cX7_dry 64 = .ok (.goto 4, 3) := by decide +kernel
theorem dX7_dry_67 : decode cX7_dry 67 = .ok (.iconst 0, 1) := by decide +kernel
theorem dX7_dry_68 : decode cX7_dry 68 = .ok (.iadd, 1) := by decide +kernel
theorem dX7_dry_69 : decode cX7_dry 69 = .ok (.istore_n 1, 1) := by decide +kernel
theorem dX7_dry_70 : decode cX7_dry 70 = .ok (.aload_n 0, 1) := by decide +kernel
theorem dX7_dry_71 : decode cX7_dry 71 = .ok (.getfield 7, 3) := by decide +kernel
theorem dX7_dry_74 : decode cX7_dry 74 = .ok (.iload_n 2, 1) := by decide +kernel
theorem dX7_dry_75 : decode cX7_dry 75 = .ok (.iconst 0, 1) := by decide +kernel
theorem dX7_dry_76 : decode cX7_dry 76 = .ok (.iastore, 1) := by decide +kernel
theorem dX7_dry_77 : decode cX7_dry 77 = .ok (.iinc 2 1, 3) := by decide +kernel
theorem dX7_dry_80 : decode cX7_dry 80 = .ok (.goto (-34), 3) := by decide +kernel
theorem dX7_dry_83 : decode cX7_dry 83 = .ok (.iload_n 1, 1) := by decide +kernel
theorem dX7_dry_84 : decode cX7_dry 84 = .ok (.ireturn, 1) := by decide +kernel
theorem dX7_share_0 : decode cX7_share 0 = .ok (.iload_n 3, 1) := by decide +kernel
theorem dX7_share_1 : decode cX7_share 1 = .ok (.iconst 0, 1) := by decide +kernel
theorem dX7_share_2 : decode cX7_share 2 = .ok (.bipush 11, 2) := by decide +kernel
theorem dX7_share_4 : decode cX7_share 4 = .ok (.invokestatic 48, 3) := by decide +kernel
theorem dX7_share_7 : decode cX7_share 7 = .ok (.ifCond .ne 5, 3) := by decide +kernel
theorem dX7_share_10 : decode cX7_share 10 = .ok (.iconst 0, 1) := by decide +kernel
theorem dX7_share_11 : decode cX7_share 11 = .ok (.ireturn, 1) := by decide +kernel
theorem dX7_share_12 : decode cX7_share 12 = .ok (.aload_n 0, 1) := by decide +kernel
theorem dX7_share_13 : decode cX7_share 13 = .ok (.iload_n 1, 1) := by decide +kernel
theorem dX7_share_14 : decode cX7_share 14 = .ok (.invokevirtual 71, 3) := by decide +kernel
theorem dX7_share_17 : decode cX7_share 17 = .ok (.iconst 1, 1) := by decide +kernel
theorem dX7_share_18 : decode cX7_share 18 = .ok (.if_icmp .ne 7, 3) := by decide +kernel
theorem dX7_share_21 : decode cX7_share 21 = .ok (.iconst 1, 1) := by decide +kernel
theorem dX7_share_22 : decode cX7_share 22 = .ok (.goto 4, 3) := by decide +kernel
theorem dX7_share_25 : decode cX7_share 25 = .ok (.iconst 0, 1) := by decide +kernel
theorem dX7_share_26 : decode cX7_share 26 = .ok (.aload_n 0, 1) := by decide +kernel
theorem dX7_share_27 : decode cX7_share 27 = .ok (.iload_n 2, 1) := by decide +kernel
theorem dX7_share_28 : decode cX7_share 28 = .ok (.invokevirtual 71, 3) := by decide +kernel
theorem dX7_share_31 : decode cX7_share 31 = .ok (.iconst 1, 1) := by decide +kernel
theorem dX7_share_32 : decode cX7_share 32 = .ok (.if_icmp .ne 7, 3) := by decide +kernel
theorem dX7_share_35 : decode cX7_share 35 = .ok (.iconst 1, 1) := by decide +kernel
theorem dX7_share_36 : decode cX7_share 36 = .ok (.goto 4, 3) := by decide +kernel
theorem dX7_share_39 : decode cX7_share 39 = .ok (.iconst 0, 1) := by decide +kernel
theorem dX7_share_40 : decode cX7_share 40 = .ok (.if_icmp .eq 7, 3) := by decide +kernel
theorem dX7_share_43 : decode cX7_share 43 = .ok (.iconst 1, 1) := by decide +kernel
theorem dX7_share_44 : decode cX7_share 44 = .ok (.goto 4, 3) := by decide +kernel
theorem dX7_share_47 : decode cX7_share 47 = .ok (.iconst 0, 1) := by decide +kernel
theorem dX7_share_48 : decode cX7_share 48 = .ok (.istore 4, 2) := by decide +kernel
theorem dX7_share_50 : decode cX7_share 50 = .ok (.aload_n 0, 1) := by decide +kernel
theorem dX7_share_51 : decode cX7_share 51 = .ok (.getfield 7, 3) := by decide +kernel
theorem dX7_share_54 : decode cX7_share 54 = .ok (.iload 4, 2) := by decide +kernel
theorem dX7_share_56 : decode cX7_share 56 = .ok (.aload_n 0, 1) := by decide +kernel
theorem dX7_share_57 : decode cX7_share 57 = .ok (.iload_n 1, 1) := by decide +kernel
theorem dX7_share_58 : decode cX7_share 58 = .ok (.iload_n 2, 1) := by decide +kernel
theorem dX7_share_59 : decode cX7_share 59 = .ok (.invokevirtual 78, 3) := by decide +kernel
theorem dX7_share_62 : decode cX7_share 62 = .ok (.iload_n 3, 1) := by decide +kernel
theorem dX7_share_63 : decode cX7_share 63 = .ok (.invokestatic 81, 3) := by decide +kernel
theorem dX7_share_66 : decode cX7_share 66 = .ok (.iaload, 1) := by decide +kernel
theorem dX7_share_67 : decode cX7_share 67 = .ok (.ireturn, 1) := by decide +kernel
theorem dX7_lowering_0 : decode cX7_lowering 0 = .ok (.iconst 0, 1) := by decide +kernel
theorem dX7_lowering_1 : decode cX7_lowering 1 = .ok (.istore 5, 2) := by decide +kernel
theorem dX7_lowering_3 : decode cX7_lowering 3 = .ok (.iload 4, 2) := by decide +kernel
theorem dX7_lowering_5 : decode cX7_lowering 5 = .ok (.istore 6, 2) := by decide +kernel
theorem dX7_lowering_7 : decode cX7_lowering 7 = .ok (.iload 6, 2) := by decide +kernel
theorem dX7_lowering_9 : decode cX7_lowering 9 = .ok (.bipush 24, 2) := by decide +kernel
theorem dX7_lowering_11 : decode cX7_lowering 11 = .ok (.if_icmp .ge 40, 3) := by decide +kernel
theorem dX7_lowering_14 : decode cX7_lowering 14 = .ok (.iload 5, 2) := by decide +kernel
theorem dX7_lowering_16 : decode cX7_lowering 16 = .ok (.aload_n 0, 1) := by decide +kernel
theorem dX7_lowering_17 : decode cX7_lowering 17 = .ok (.iload_n 3, 1) := by decide +kernel
theorem dX7_lowering_18 : decode cX7_lowering 18 = .ok (.iload 6, 2) := by decide +kernel
theorem dX7_lowering_20 : decode cX7_lowering 20 = .ok (.invokevirtual 105, 3) := by decide +kernel
theorem dX7_lowering_23 : decode cX7_lowering 23 = .ok (.aload_n 0, 1) := by decide +kernel
theorem dX7_lowering_24 : decode cX7_lowering 24 = .ok (.iload_n 3, 1) := by decide +kernel
theorem dX7_lowering_25 : decode cX7_lowering 25 = .ok (.iload 6, 2) := by decide +kernel
theorem dX7_lowering_27 : decode cX7_lowering 27 = .ok (.invokevirtual 75, 3) := by decide +kernel
theorem dX7_lowering_30 : decode cX7_lowering 30 = .ok (.imul, 1) := by decide +kernel
theorem dX7_lowering_31 : decode cX7_lowering 31 = .ok (.aload_n 0, 1) := by decide +kernel
theorem dX7_lowering_32 : decode cX7_lowering 32 = .ok (.iload_n 1, 1) := by decide +kernel
theorem dX7_lowering_33 : decode cX7_lowering 33 = .ok (.iload_n 3, 1) := by decide +kernel
theorem dX7_lowering_34 : decode cX7_lowering 34 = .ok (.iload_n 2, 1) := by decide +kernel
theorem dX7_lowering_35 : decode cX7_lowering 35 = .ok (.iload 6, 2) := by decide +kernel
theorem dX7_lowering_37 : decode cX7_lowering 37 = .ok (.isub, 1) := by decide +kernel
theorem dX7_lowering_38 : decode cX7_lowering 38 = .ok (.invokevirtual 108, 3) := by decide +kernel
theorem dX7_lowering_41 : decode cX7_lowering 41 = .ok (.imul, 1) := by decide +kernel
theorem dX7_lowering_42 : decode cX7_lowering 42 = .ok (.iadd, 1) := by decide +kernel
theorem dX7_lowering_43 : decode cX7_lowering 43 = .ok (.istore 5, 2) := by decide +kernel
theorem dX7_lowering_45 : decode cX7_lowering 45 = .ok (.iinc 6 1, 3) := by decide +kernel
theorem dX7_lowering_48 : decode cX7_lowering 48 = .ok (.goto (-41), 3) := by decide +kernel
theorem dX7_lowering_51 : decode cX7_lowering 51 = .ok (.iload 5, 2) := by decide +kernel
theorem dX7_lowering_53 : decode cX7_lowering 53 = .ok (.ireturn, 1) := by decide +kernel
theorem dX7_rainOf_0 : decode cX7_rainOf 0 = .ok (.iconst 0, 1) := by decide +kernel
theorem dX7_rainOf_1 : decode cX7_rainOf 1 = .ok (.istore_n 2, 1) := by decide +kernel
theorem dX7_rainOf_2 : decode cX7_rainOf 2 = .ok (.iconst 0, 1) := by decide +kernel
theorem dX7_rainOf_3 : decode cX7_rainOf 3 = .ok (.istore_n 3, 1) := by decide +kernel
theorem dX7_rainOf_4 : decode cX7_rainOf 4 = .ok (.iload_n 3, 1) := by decide +kernel
theorem dX7_rainOf_5 : decode cX7_rainOf 5 = .ok (.iload_n 1, 1) := by decide +kernel
theorem dX7_rainOf_6 : decode cX7_rainOf 6 = .ok (.if_icmp .gt 47, 3) := by decide +kernel
theorem dX7_rainOf_9 : decode cX7_rainOf 9 = .ok (.iload_n 2, 1) := by decide +kernel
theorem dX7_rainOf_10 : decode cX7_rainOf 10 = .ok (.iload_n 1, 1) := by decide +kernel
theorem dX7_rainOf_11 : decode cX7_rainOf 11 = .ok (.iload_n 3, 1) := by decide +kernel
theorem dX7_rainOf_12 : decode cX7_rainOf 12 = .ok (.isub, 1) := by decide +kernel
theorem dX7_rainOf_13 : decode cX7_rainOf 13 = .ok (.bipush 11, 2) := by decide +kernel
theorem dX7_rainOf_15 : decode cX7_rainOf 15 = .ok (.if_icmp .le 7, 3) := by decide +kernel
theorem dX7_rainOf_18 : decode cX7_rainOf 18 = .ok (.iconst 0, 1) := by decide +kernel
theorem dX7_rainOf_19 : decode cX7_rainOf 19 = .ok (.goto 26, 3) := by decide +kernel
theorem dX7_rainOf_22 : decode cX7_rainOf 22 = .ok (.aload_n 0, 1) := by decide +kernel
theorem dX7_rainOf_23 : decode cX7_rainOf 23 = .ok (.getfield 7, 3) := by decide +kernel
theorem dX7_rainOf_26 : decode cX7_rainOf 26 = .ok (.sipush 542, 3) := by decide +kernel
theorem dX7_rainOf_29 : decode cX7_rainOf 29 = .ok (.iload_n 3, 1) := by decide +kernel
theorem dX7_rainOf_30 : decode cX7_rainOf 30 = .ok (.iadd, 1) := by decide +kernel
theorem dX7_rainOf_31 : decode cX7_rainOf 31 = .ok (.iaload, 1) := by decide +kernel
theorem dX7_rainOf_32 : decode cX7_rainOf 32 = .ok (.aload_n 0, 1) := by decide +kernel
theorem dX7_rainOf_33 : decode cX7_rainOf 33 = .ok (.getfield 7, 3) := by decide +kernel
theorem dX7_rainOf_36 : decode cX7_rainOf 36 = .ok (.sipush 530, 3) := by decide +kernel
theorem dX7_rainOf_39 : decode cX7_rainOf 39 = .ok (.iload_n 1, 1) := by decide +kernel
theorem dX7_rainOf_40 : decode cX7_rainOf 40 = .ok (.iadd, 1) := by decide +kernel
theorem dX7_rainOf_41 : decode cX7_rainOf 41 = .ok (.iload_n 3, 1) := by decide +kernel
theorem dX7_rainOf_42 : decode cX7_rainOf 42 = .ok (.isub, 1) := by decide +kernel
theorem dX7_rainOf_43 : decode cX7_rainOf 43 = .ok (.iaload, 1) := by decide +kernel
theorem dX7_rainOf_44 : decode cX7_rainOf 44 = .ok (.imul, 1) := by decide +kernel
theorem dX7_rainOf_45 : decode cX7_rainOf 45 = .ok (.iadd, 1) := by decide +kernel
theorem dX7_rainOf_46 : decode cX7_rainOf 46 = .ok (.istore_n 2, 1) := by decide +kernel
theorem dX7_rainOf_47 : decode cX7_rainOf 47 = .ok (.iinc 3 1, 3) := by decide +kernel
theorem dX7_rainOf_50 : decode cX7_rainOf 50 = .ok (.goto (-46), 3) := by decide +kernel
theorem dX7_rainOf_53 : decode cX7_rainOf 53 = .ok (.iload_n 2, 1) := by decide +kernel
theorem dX7_rainOf_54 : decode cX7_rainOf 54 = .ok (.ireturn, 1) := by decide +kernel
theorem dX7_headOf_0 : decode cX7_headOf 0 = .ok (.aload_n 0, 1) := by decide +kernel
theorem dX7_headOf_1 : decode cX7_headOf 1 = .ok (.iload_n 1, 1) := by decide +kernel
theorem dX7_headOf_2 : decode cX7_headOf 2 = .ok (.iconst 3, 1) := by decide +kernel
theorem dX7_headOf_3 : decode cX7_headOf 3 = .ok (.invokevirtual 54, 3) := by decide +kernel
theorem dX7_headOf_6 : decode cX7_headOf 6 = .ok (.aload_n 0, 1) := by decide +kernel
theorem dX7_headOf_7 : decode cX7_headOf 7 = .ok (.iload_n 2, 1) := by decide +kernel
theorem dX7_headOf_8 : decode cX7_headOf 8 = .ok (.invokevirtual 111, 3) := by decide +kernel
theorem dX7_headOf_11 : decode cX7_headOf 11 = .ok (.iadd, 1) := by decide +kernel
theorem dX7_headOf_12 : decode cX7_headOf 12 = .ok (.istore_n 3, 1) := by decide +kernel
theorem dX7_headOf_13 : decode cX7_headOf 13 = .ok (.iconst 0, 1) := by decide +kernel
theorem dX7_headOf_14 : decode cX7_headOf 14 = .ok (.istore 4, 2) := by decide +kernel
theorem dX7_headOf_16 : decode cX7_headOf 16 = .ok (.iload 4, 2) := by decide +kernel
theorem dX7_headOf_18 : decode cX7_headOf 18 = .ok (.aload_n 0, 1) := by decide +kernel
theorem dX7_headOf_19 : decode cX7_headOf 19 = .ok (.invokevirtual 44, 3) := by decide +kernel
theorem dX7_headOf_22 : decode cX7_headOf 22 = .ok (.if_icmp .ge 21, 3) := by decide +kernel
theorem dX7_headOf_25 : decode cX7_headOf 25 = .ok (.iload_n 3, 1) := by decide +kernel
theorem dX7_headOf_26 : decode cX7_headOf 26 = .ok (.aload_n 0, 1) := by decide +kernel
theorem dX7_headOf_27 : decode cX7_headOf 27 = .ok (.iload_n 1, 1) := by decide +kernel
theorem dX7_headOf_28 : decode cX7_headOf 28 = .ok (.iload_n 2, 1) := by decide +kernel
theorem dX7_headOf_29 : decode cX7_headOf 29 = .ok (.iload 4, 2) := by decide +kernel
theorem dX7_headOf_31 : decode cX7_headOf 31 = .ok (.iconst 0, 1) := by decide +kernel
theorem dX7_headOf_32 : decode cX7_headOf 32 = .ok (.invokevirtual 114, 3) := by decide +kernel
theorem dX7_headOf_35 : decode cX7_headOf 35 = .ok (.isub, 1) := by decide +kernel
theorem dX7_headOf_36 : decode cX7_headOf 36 = .ok (.istore_n 3, 1) := by decide +kernel
theorem dX7_headOf_37 : decode cX7_headOf 37 = .ok (.iinc 4 1, 3) := by decide +kernel
theorem dX7_headOf_40 : decode cX7_headOf 40 = .ok (.goto (-24), 3) := by decide +kernel
theorem dX7_headOf_43 : decode cX7_headOf 43 = .ok (.iload_n 3, 1) := by decide +kernel
theorem dX7_headOf_44 : decode cX7_headOf 44 = .ok (.ireturn, 1) := by decide +kernel
theorem dX7_head_0 : decode cX7_head 0 = .ok (.aload_n 0, 1) := by decide +kernel
theorem dX7_head_1 : decode cX7_head 1 = .ok (.iload_n 1, 1) := by decide +kernel
theorem dX7_head_2 : decode cX7_head 2 = .ok (.invokevirtual 68, 3) := by decide +kernel
theorem dX7_head_5 : decode cX7_head 5 = .ok (.ifCond .eq 19, 3) := by decide +kernel
theorem dX7_head_8 : decode cX7_head 8 = .ok (.iload_n 2, 1) := by decide +kernel
theorem dX7_head_9 : decode cX7_head 9 = .ok (.invokestatic 98, 3) := by decide +kernel
theorem dX7_head_12 : decode cX7_head 12 = .ok (.ifCond .eq 12, 3) := by decide +kernel
theorem dX7_head_15 : decode cX7_head 15 = .ok (.aload_n 0, 1) := by decide +kernel
theorem dX7_head_16 : decode cX7_head 16 = .ok (.iload_n 1, 1) := by decide +kernel
theorem dX7_head_17 : decode cX7_head 17 = .ok (.iload_n 2, 1) := by decide +kernel
theorem dX7_head_18 : decode cX7_head 18 = .ok (.invokevirtual 118, 3) := by decide +kernel
theorem dX7_head_21 : decode cX7_head 21 = .ok (.goto 9, 3) := by decide +kernel
theorem dX7_head_24 : decode cX7_head 24 = .ok (.aload_n 0, 1) := by decide +kernel
theorem dX7_head_25 : decode cX7_head 25 = .ok (.ldc 62, 2) := by decide +kernel
theorem dX7_head_27 : decode cX7_head 27 = .ok (.invokevirtual 63, 3) := by decide +kernel
theorem dX7_head_30 : decode cX7_head 30 = .ok (.ireturn, 1) := by decide +kernel
theorem dX7_by_0 : decode cX7_by 0 = .ok (.aload_n 0, 1) := by decide +kernel
theorem dX7_by_1 : decode cX7_by 1 = .ok (.iload_n 1, 1) := by decide +kernel
theorem dX7_by_2 : decode cX7_by 2 = .ok (.invokevirtual 68, 3) := by decide +kernel
theorem dX7_by_5 : decode cX7_by 5 = .ok (.ifCond .eq 29, 3) := by decide +kernel
theorem dX7_by_8 : decode cX7_by 8 = .ok (.iload_n 2, 1) := by decide +kernel
theorem dX7_by_9 : decode cX7_by 9 = .ok (.invokestatic 98, 3) := by decide +kernel
theorem dX7_by_12 : decode cX7_by 12 = .ok (.ifCond .eq 22, 3) := by decide +kernel
theorem dX7_by_15 : decode cX7_by 15 = .ok (.aload_n 0, 1) := by decide +kernel
theorem dX7_by_16 : decode cX7_by 16 = .ok (.iload_n 3, 1) := by decide +kernel
theorem dX7_by_17 : decode cX7_by 17 = .ok (.invokevirtual 68, 3) := by decide +kernel
theorem dX7_by_20 : decode cX7_by 20 = .ok (.ifCond .eq 14, 3) := by decide +kernel
theorem dX7_by_23 : decode cX7_by 23 = .ok (.aload_n 0, 1) := by decide +kernel
theorem dX7_by_24 : decode cX7_by 24 = .ok (.iload_n 1, 1) := by decide +kernel
theorem dX7_by_25 : decode cX7_by 25 = .ok (.iload_n 2, 1) := by decide +kernel
theorem dX7_by_26 : decode cX7_by 26 = .ok (.iload_n 3, 1) := by decide +kernel
theorem dX7_by_27 : decode cX7_by 27 = .ok (.iconst 0, 1) := by decide +kernel
theorem dX7_by_28 : decode cX7_by 28 = .ok (.invokevirtual 114, 3) := by decide +kernel
theorem dX7_by_31 : decode cX7_by 31 = .ok (.goto 9, 3) := by decide +kernel
theorem dX7_by_34 : decode cX7_by 34 = .ok (.aload_n 0, 1) := by decide +kernel
theorem dX7_by_35 : decode cX7_by 35 = .ok (.ldc 62, 2) := by decide +kernel
theorem dX7_by_37 : decode cX7_by 37 = .ok (.invokevirtual 63, 3) := by decide +kernel
theorem dX7_by_40 : decode cX7_by 40 = .ok (.ireturn, 1) := by decide +kernel
theorem dX7_rained_0 : decode cX7_rained 0 = .ok (.aload_n 0, 1) := by decide +kernel
theorem dX7_rained_1 : decode cX7_rained 1 = .ok (.iload_n 1, 1) := by decide +kernel
theorem dX7_rained_2 : decode cX7_rained 2 = .ok (.invokevirtual 68, 3) := by decide +kernel
theorem dX7_rained_5 : decode cX7_rained 5 = .ok (.ifCond .eq 18, 3) := by decide +kernel
theorem dX7_rained_8 : decode cX7_rained 8 = .ok (.iload_n 2, 1) := by decide +kernel
theorem dX7_rained_9 : decode cX7_rained 9 = .ok (.invokestatic 98, 3) := by decide +kernel
theorem dX7_rained_12 : decode cX7_rained 12 = .ok (.ifCond .eq 11, 3) := by decide +kernel
theorem dX7_rained_15 : decode cX7_rained 15 = .ok (.aload_n 0, 1) := by decide +kernel
theorem dX7_rained_16 : decode cX7_rained 16 = .ok (.iload_n 2, 1) := by decide +kernel
theorem dX7_rained_17 : decode cX7_rained 17 = .ok (.invokevirtual 111, 3) := by decide +kernel
theorem dX7_rained_20 : decode cX7_rained 20 = .ok (.goto 9, 3) := by decide +kernel
theorem dX7_rained_23 : decode cX7_rained 23 = .ok (.aload_n 0, 1) := by decide +kernel
theorem dX7_rained_24 : decode cX7_rained 24 = .ok (.ldc 62, 2) := by decide +kernel
theorem dX7_rained_26 : decode cX7_rained 26 = .ok (.invokevirtual 63, 3) := by decide +kernel
theorem dX7_rained_29 : decode cX7_rained 29 = .ok (.ireturn, 1) := by decide +kernel
theorem dX7_most_0 : decode cX7_most 0 = .ok (.aload_n 0, 1) := by decide +kernel
theorem dX7_most_1 : decode cX7_most 1 = .ok (.iload_n 1, 1) := by decide +kernel
theorem dX7_most_2 : decode cX7_most 2 = .ok (.invokevirtual 68, 3) := by decide +kernel
theorem dX7_most_5 : decode cX7_most 5 = .ok (.ifCond .eq 10, 3) := by decide +kernel
theorem dX7_most_8 : decode cX7_most 8 = .ok (.iload_n 2, 1) := by decide +kernel
theorem dX7_most_9 : decode cX7_most 9 = .ok (.invokestatic 98, 3) := by decide +kernel
theorem dX7_most_12 : decode cX7_most 12 = .ok (.ifCond .ne 10, 3) := by decide +kernel
theorem dX7_most_15 : decode cX7_most 15 = .ok (.aload_n 0, 1) := by decide +kernel
theorem dX7_most_16 : decode cX7_most 16 = .ok (.ldc 62, 2) := by decide +kernel
theorem dX7_most_18 : decode cX7_most 18 = .ok (.invokevirtual 63, 3) := by decide +kernel
theorem dX7_most_21 : decode cX7_most 21 = .ok (.ireturn, 1) := by decide +kernel
theorem dX7_most_22 : decode cX7_most 22 = .ok (.iconst 0, 1) := by decide +kernel
theorem dX7_most_23 : decode cX7_most 23 = .ok (.istore_n 3, 1) := by decide +kernel
theorem dX7_most_24 : decode cX7_most 24 = .ok (.iconst (-1), 1) := by decide +kernel
theorem dX7_most_25 : decode cX7_most 25 = .ok (.istore 4, 2) := by decide +kernel
theorem dX7_most_27 : decode cX7_most 27 = .ok (.iconst 0, 1) := by decide +kernel
theorem dX7_most_28 : decode cX7_most 28 = .ok (.istore 5, 2) := by decide +kernel
theorem dX7_most_30 : decode cX7_most 30 = .ok (.iload 5, 2) := by decide +kernel
theorem dX7_most_32 : decode cX7_most 32 = .ok (.aload_n 0, 1) := by decide +kernel
theorem dX7_most_33 : decode cX7_most 33 = .ok (.invokevirtual 44, 3) := by decide +kernel
theorem dX7_most_36 : decode cX7_most 36 = .ok (.if_icmp .ge 36, 3) := by decide +kernel
theorem dX7_most_39 : decode cX7_most 39 = .ok (.aload_n 0, 1) := by decide +kernel
theorem dX7_most_40 : decode cX7_most 40 = .ok (.iload_n 1, 1) := by decide +kernel
theorem dX7_most_41 : decode cX7_most 41 = .ok (.iload_n 2, 1) := by decide +kernel
theorem dX7_most_42 : decode cX7_most 42 = .ok (.iload 5, 2) := by decide +kernel
theorem dX7_most_44 : decode cX7_most 44 = .ok (.iconst 0, 1) := by decide +kernel
theorem dX7_most_45 : decode cX7_most 45 = .ok (.invokevirtual 114, 3) := by decide +kernel
theorem dX7_most_48 : decode cX7_most 48 = .ok (.istore 6, 2) := by decide +kernel
theorem dX7_most_50 : decode cX7_most 50 = .ok (.iload 6, 2) := by decide +kernel
theorem dX7_most_52 : decode cX7_most 52 = .ok (.iload_n 3, 1) := by decide +kernel
theorem dX7_most_53 : decode cX7_most 53 = .ok (.if_icmp .gt 6, 3) := by decide +kernel
theorem dX7_most_56 : decode cX7_most 56 = .ok (.goto 10, 3) := by decide +kernel
theorem dX7_most_59 : decode cX7_most 59 = .ok (.iload 6, 2) := by decide +kernel
theorem dX7_most_61 : decode cX7_most 61 = .ok (.istore_n 3, 1) := by decide +kernel
theorem dX7_most_62 : decode cX7_most 62 = .ok (.iload 5, 2) := by decide +kernel
theorem dX7_most_64 : decode cX7_most 64 = .ok (.istore 4, 2) := by decide +kernel
theorem dX7_most_66 : decode cX7_most 66 = .ok (.iinc 5 1, 3) := by decide +kernel
theorem dX7_most_69 : decode cX7_most 69 = .ok (.goto (-39), 3) := by decide +kernel
theorem dX7_most_72 : decode cX7_most 72 = .ok (.iload 4, 2) := by decide +kernel
theorem dX7_most_74 : decode cX7_most 74 = .ok (.ifCond .ge 12, 3) := by decide +kernel
theorem dX7_most_77 : decode cX7_most 77 = .ok (.aload_n 0, 1) := by decide +kernel
theorem dX7_most_78 : decode cX7_most 78 = .ok (.ldc 121, 2) := by decide +kernel
theorem dX7_most_80 : decode cX7_most 80 = .ok (.invokevirtual 63, 3) := by decide +kernel
theorem dX7_most_83 : decode cX7_most 83 = .ok (.goto 5, 3) := by decide +kernel
theorem dX7_most_86 : decode cX7_most 86 = .ok (.iload 4, 2) := by decide +kernel
theorem dX7_most_88 : decode cX7_most 88 = .ok (.ireturn, 1) := by decide +kernel
theorem dX7_above_0 : decode cX7_above 0 = .ok (.aload_n 0, 1) := by decide +kernel
theorem dX7_above_1 : decode cX7_above 1 = .ok (.iload_n 1, 1) := by decide +kernel
theorem dX7_above_2 : decode cX7_above 2 = .ok (.iload_n 2, 1) := by decide +kernel
theorem dX7_above_3 : decode cX7_above 3 = .ok (.invokevirtual 118, 3) := by decide +kernel
theorem dX7_above_6 : decode cX7_above 6 = .ok (.aload_n 0, 1) := by decide +kernel
theorem dX7_above_7 : decode cX7_above 7 = .ok (.iload_n 1, 1) := by decide +kernel
theorem dX7_above_8 : decode cX7_above 8 = .ok (.iconst 4, 1) := by decide +kernel
theorem dX7_above_9 : decode cX7_above 9 = .ok (.invokevirtual 54, 3) := by decide +kernel
theorem dX7_above_12 : decode cX7_above 12 = .ok (.isub, 1) := by decide +kernel
theorem dX7_above_13 : decode cX7_above 13 = .ok (.ireturn, 1) := by decide +kernel
theorem dX7_when_0 : decode cX7_when 0 = .ok (.aload_n 0, 1) := by decide +kernel
theorem dX7_when_1 : decode cX7_when 1 = .ok (.iload_n 1, 1) := by decide +kernel
theorem dX7_when_2 : decode cX7_when 2 = .ok (.invokevirtual 68, 3) := by decide +kernel
theorem dX7_when_5 : decode cX7_when 5 = .ok (.ifCond .eq 10, 3) := by decide +kernel
theorem dX7_when_8 : decode cX7_when 8 = .ok (.iload_n 2, 1) := by decide +kernel
theorem dX7_when_9 : decode cX7_when 9 = .ok (.invokestatic 98, 3) := by decide +kernel
theorem dX7_when_12 : decode cX7_when 12 = .ok (.ifCond .ne 10, 3) := by decide +kernel
theorem dX7_when_15 : decode cX7_when 15 = .ok (.aload_n 0, 1) := by decide +kernel
theorem dX7_when_16 : decode cX7_when 16 = .ok (.ldc 62, 2) := by decide +kernel
theorem dX7_when_18 : decode cX7_when 18 = .ok (.invokevirtual 63, 3) := by decide +kernel
theorem dX7_when_21 : decode cX7_when 21 = .ok (.ireturn, 1) := by decide +kernel
theorem dX7_when_22 : decode cX7_when 22 = .ok (.iload_n 2, 1) := by decide +kernel
theorem dX7_when_23 : decode cX7_when 23 = .ok (.istore_n 3, 1) := by decide +kernel
theorem dX7_when_24 : decode cX7_when 24 = .ok (.iload_n 3, 1) := by decide +kernel
theorem dX7_when_25 : decode cX7_when 25 = .ok (.bipush 24, 2) := by decide +kernel
theorem dX7_when_27 : decode cX7_when 27 = .ok (.if_icmp .ge 20, 3) := by decide +kernel
theorem dX7_when_30 : decode cX7_when 30 = .ok (.aload_n 0, 1) := by decide +kernel
theorem dX7_when_31 : decode cX7_when 31 = .ok (.iload_n 1, 1) := by decide +kernel
theorem dX7_when_32 : decode cX7_when 32 = .ok (.iload_n 3, 1) := by decide +kernel
theorem dX7_when_33 : decode cX7_when 33 = .ok (.invokevirtual 122, 3) := by decide +kernel
theorem dX7_when_36 : decode cX7_when 36 = .ok (.ifCond .ge 5, 3) := by decide +kernel
theorem dX7_when_39 : decode cX7_when 39 = .ok (.iload_n 3, 1) := by decide +kernel
theorem dX7_when_40 : decode cX7_when 40 = .ok (.ireturn, 1) := by decide +kernel
theorem dX7_when_41 : decode cX7_when 41 = .ok (.iinc 3 1, 3) := by decide +kernel
theorem dX7_when_44 : decode cX7_when 44 = .ok (.goto (-20), 3) := by decide +kernel
theorem dX7_when_47 : decode cX7_when 47 = .ok (.aload_n 0, 1) := by decide +kernel
theorem dX7_when_48 : decode cX7_when 48 = .ok (.ldc 121, 2) := by decide +kernel
theorem dX7_when_50 : decode cX7_when 50 = .ok (.invokevirtual 63, 3) := by decide +kernel
theorem dX7_when_53 : decode cX7_when 53 = .ok (.ireturn, 1) := by decide +kernel
theorem dX7_near_0 : decode cX7_near 0 = .ok (.aload_n 0, 1) := by decide +kernel
theorem dX7_near_1 : decode cX7_near 1 = .ok (.iload_n 1, 1) := by decide +kernel
theorem dX7_near_2 : decode cX7_near 2 = .ok (.invokevirtual 68, 3) := by decide +kernel
theorem dX7_near_5 : decode cX7_near 5 = .ok (.ifCond .eq 10, 3) := by decide +kernel
theorem dX7_near_8 : decode cX7_near 8 = .ok (.iload_n 2, 1) := by decide +kernel
theorem dX7_near_9 : decode cX7_near 9 = .ok (.invokestatic 98, 3) := by decide +kernel
theorem dX7_near_12 : decode cX7_near 12 = .ok (.ifCond .ne 10, 3) := by decide +kernel
theorem dX7_near_15 : decode cX7_near 15 = .ok (.aload_n 0, 1) := by decide +kernel
theorem dX7_near_16 : decode cX7_near 16 = .ok (.ldc 62, 2) := by decide +kernel
theorem dX7_near_18 : decode cX7_near 18 = .ok (.invokevirtual 63, 3) := by decide +kernel
theorem dX7_near_21 : decode cX7_near 21 = .ok (.ireturn, 1) := by decide +kernel
theorem dX7_near_22 : decode cX7_near 22 = .ok (.aload_n 0, 1) := by decide +kernel
theorem dX7_near_23 : decode cX7_near 23 = .ok (.iload_n 1, 1) := by decide +kernel
theorem dX7_near_24 : decode cX7_near 24 = .ok (.iload_n 2, 1) := by decide +kernel
theorem dX7_near_25 : decode cX7_near 25 = .ok (.invokevirtual 122, 3) := by decide +kernel
theorem dX7_near_28 : decode cX7_near 28 = .ok (.istore_n 3, 1) := by decide +kernel
theorem dX7_near_29 : decode cX7_near 29 = .ok (.iload_n 2, 1) := by decide +kernel
theorem dX7_near_30 : decode cX7_near 30 = .ok (.istore 4, 2) := by decide +kernel
theorem dX7_near_32 : decode cX7_near 32 = .ok (.iload 4, 2) := by decide +kernel
theorem dX7_near_34 : decode cX7_near 34 = .ok (.bipush 24, 2) := by decide +kernel
theorem dX7_near_36 : decode cX7_near 36 = .ok (.if_icmp .ge 32, 3) := by decide +kernel
theorem dX7_near_39 : decode cX7_near 39 = .ok (.aload_n 0, 1) := by decide +kernel
theorem dX7_near_40 : decode cX7_near 40 = .ok (.iload_n 1, 1) := by decide +kernel
theorem dX7_near_41 : decode cX7_near 41 = .ok (.iload 4, 2) := by decide +kernel
theorem dX7_near_43 : decode cX7_near 43 = .ok (.invokevirtual 122, 3) := by decide +kernel
theorem dX7_near_46 : decode cX7_near 46 = .ok (.iload_n 3, 1) := by decide +kernel
theorem dX7_near_47 : decode cX7_near 47 = .ok (.if_icmp .ge 13, 3) := by decide +kernel
theorem dX7_near_50 : decode cX7_near 50 = .ok (.aload_n 0, 1) := by decide +kernel
theorem dX7_near_51 : decode cX7_near 51 = .ok (.iload_n 1, 1) := by decide +kernel
theorem dX7_near_52 : decode cX7_near 52 = .ok (.iload 4, 2) := by decide +kernel
theorem dX7_near_54 : decode cX7_near 54 = .ok (.invokevirtual 122, 3) := by decide +kernel
theorem dX7_near_57 : decode cX7_near 57 = .ok (.goto 4, 3) := by decide +kernel
theorem dX7_near_60 : decode cX7_near 60 = .ok (.iload_n 3, 1) := by decide +kernel
theorem dX7_near_61 : decode cX7_near 61 = .ok (.istore_n 3, 1) := by decide +kernel
theorem dX7_near_62 : decode cX7_near 62 = .ok (.iinc 4 1, 3) := by decide +kernel
theorem dX7_near_65 : decode cX7_near 65 = .ok (.goto (-33), 3) := by decide +kernel
theorem dX7_near_68 : decode cX7_near 68 = .ok (.iload_n 3, 1) := by decide +kernel
theorem dX7_near_69 : decode cX7_near 69 = .ok (.ireturn, 1) := by decide +kernel
theorem dX7_low_0 : decode cX7_low 0 = .ok (.iload_n 1, 1) := by decide +kernel
theorem dX7_low_1 : decode cX7_low 1 = .ok (.invokestatic 98, 3) := by decide +kernel
theorem dX7_low_4 : decode cX7_low 4 = .ok (.ifCond .ne 10, 3) := by decide +kernel
theorem dX7_low_7 : decode cX7_low 7 = .ok (.aload_n 0, 1) := by decide +kernel
theorem dX7_low_8 : decode cX7_low 8 = .ok (.ldc 62, 2) := by decide +kernel
theorem dX7_low_10 : decode cX7_low 10 = .ok (.invokevirtual 63, 3) := by decide +kernel
theorem dX7_low_13 : decode cX7_low 13 = .ok (.ireturn, 1) := by decide +kernel
theorem dX7_low_14 : decode cX7_low 14 = .ok (.iconst 0, 1) := by decide +kernel
theorem dX7_low_15 : decode cX7_low 15 = .ok (.istore_n 2, 1) := by decide +kernel
theorem dX7_low_16 : decode cX7_low 16 = .ok (.iconst 0, 1) := by decide +kernel
theorem dX7_low_17 : decode cX7_low 17 = .ok (.istore_n 3, 1) := by decide +kernel
theorem dX7_low_18 : decode cX7_low 18 = .ok (.iload_n 3, 1) := by decide +kernel
theorem dX7_low_19 : decode cX7_low 19 = .ok (.aload_n 0, 1) := by decide +kernel
theorem dX7_low_20 : decode cX7_low 20 = .ok (.invokevirtual 44, 3) := by decide +kernel
theorem dX7_low_23 : decode cX7_low 23 = .ok (.if_icmp .ge 26, 3) := by decide +kernel
theorem dX7_low_26 : decode cX7_low 26 = .ok (.iload_n 2, 1) := by decide +kernel
theorem dX7_low_27 : decode cX7_low 27 = .ok (.aload_n 0, 1) := by decide +kernel
theorem dX7_low_28 : decode cX7_low 28 = .ok (.iload_n 3, 1) := by decide +kernel
theorem dX7_low_29 : decode cX7_low 29 = .ok (.iload_n 1, 1) := by decide +kernel
theorem dX7_low_30 : decode cX7_low 30 = .ok (.invokevirtual 122, 3) := by decide +kernel
theorem dX7_low_33 : decode cX7_low 33 = .ok (.ifCond .ge 7, 3) := by decide +kernel
theorem dX7_low_36 : decode cX7_low 36 = .ok (.iconst 1, 1) := by decide +kernel
theorem dX7_low_37 : decode cX7_low 37 = .ok (.goto 4, 3) := by decide +kernel
theorem dX7_low_40 : decode cX7_low 40 = .ok (.iconst 0, 1) := by decide +kernel
theorem dX7_low_41 : decode cX7_low 41 = .ok (.iadd, 1) := by decide +kernel
theorem dX7_low_42 : decode cX7_low 42 = .ok (.istore_n 2, 1) := by decide +kernel
theorem dX7_low_43 : decode cX7_low 43 = .ok (.iinc 3 1, 3) := by decide +kernel
theorem dX7_low_46 : decode cX7_low 46 = .ok (.goto (-28), 3) := by decide +kernel
theorem dX7_low_49 : decode cX7_low 49 = .ok (.iload_n 2, 1) := by decide +kernel
theorem dX7_low_50 : decode cX7_low 50 = .ok (.ireturn, 1) := by decide +kernel
theorem dX7_without_0 : decode cX7_without 0 = .ok (.aload_n 0, 1) := by decide +kernel
theorem dX7_without_1 : decode cX7_without 1 = .ok (.iload_n 1, 1) := by decide +kernel
theorem dX7_without_2 : decode cX7_without 2 = .ok (.invokevirtual 68, 3) := by decide +kernel
theorem dX7_without_5 : decode cX7_without 5 = .ok (.ifCond .eq 26, 3) := by decide +kernel
theorem dX7_without_8 : decode cX7_without 8 = .ok (.iload_n 2, 1) := by decide +kernel
theorem dX7_without_9 : decode cX7_without 9 = .ok (.invokestatic 98, 3) := by decide +kernel
theorem dX7_without_12 : decode cX7_without 12 = .ok (.ifCond .eq 19, 3) := by decide +kernel
theorem dX7_without_15 : decode cX7_without 15 = .ok (.aload_n 0, 1) := by decide +kernel
theorem dX7_without_16 : decode cX7_without 16 = .ok (.iload_n 3, 1) := by decide +kernel
theorem dX7_without_17 : decode cX7_without 17 = .ok (.invokevirtual 68, 3) := by decide +kernel
theorem dX7_without_20 : decode cX7_without 20 = .ok (.ifCond .eq 11, 3) := by decide +kernel
theorem dX7_without_23 : decode cX7_without 23 = .ok (.iload 4, 2) := by decide +kernel
theorem dX7_without_25 : decode cX7_without 25 = .ok (.invokestatic 98, 3) := by decide +kernel
theorem dX7_without_28 : decode cX7_without 28 = .ok (.ifCond .ne 10, 3) := by decide +kernel
theorem dX7_without_31 : decode cX7_without 31 = .ok (.aload_n 0, 1) := by decide +kernel
theorem dX7_without_32 : decode cX7_without 32 = .ok (.ldc 62, 2) := by decide +kernel
theorem dX7_without_34 : decode cX7_without 34 = .ok (.invokevirtual 63, 3) := by decide +kernel
theorem dX7_without_37 : decode cX7_without 37 = .ok (.ireturn, 1) := by decide +kernel
theorem dX7_without_38 : decode cX7_without 38 = .ok (.aload_n 0, 1) := by decide +kernel
theorem dX7_without_39 : decode cX7_without 39 = .ok (.iload_n 1, 1) := by decide +kernel
theorem dX7_without_40 : decode cX7_without 40 = .ok (.iload_n 2, 1) := by decide +kernel
theorem dX7_without_41 : decode cX7_without 41 = .ok (.iload_n 3, 1) := by decide +kernel
theorem dX7_without_42 : decode cX7_without 42 = .ok (.iload 4, 2) := by decide +kernel
theorem dX7_without_44 : decode cX7_without 44 = .ok (.invokevirtual 114, 3) := by decide +kernel
theorem dX7_without_47 : decode cX7_without 47 = .ok (.ireturn, 1) := by decide +kernel
theorem dX7_freeOf_0 : decode cX7_freeOf 0 = .ok (.aload_n 0, 1) := by decide +kernel
theorem dX7_freeOf_1 : decode cX7_freeOf 1 = .ok (.iload_n 1, 1) := by decide +kernel
theorem dX7_freeOf_2 : decode cX7_freeOf 2 = .ok (.invokevirtual 71, 3) := by decide +kernel
theorem dX7_freeOf_5 : decode cX7_freeOf 5 = .ok (.istore_n 3, 1) := by decide +kernel
theorem dX7_freeOf_6 : decode cX7_freeOf 6 = .ok (.iload_n 3, 1) := by decide +kernel
theorem dX7_freeOf_7 : decode cX7_freeOf 7 = .ok (.iconst 2, 1) := by decide +kernel
theorem dX7_freeOf_8 : decode cX7_freeOf 8 = .ok (.if_icmp .le 5, 3) := by decide +kernel
theorem dX7_freeOf_11 : decode cX7_freeOf 11 = .ok (.iconst 0, 1) := by decide +kernel
theorem dX7_freeOf_12 : decode cX7_freeOf 12 = .ok (.ireturn, 1) := by decide +kernel
theorem dX7_freeOf_13 : decode cX7_freeOf 13 = .ok (.iconst 0, 1) := by decide +kernel
theorem dX7_freeOf_14 : decode cX7_freeOf 14 = .ok (.istore 4, 2) := by decide +kernel
theorem dX7_freeOf_16 : decode cX7_freeOf 16 = .ok (.iload 4, 2) := by decide +kernel
theorem dX7_freeOf_18 : decode cX7_freeOf 18 = .ok (.aload_n 0, 1) := by decide +kernel
theorem dX7_freeOf_19 : decode cX7_freeOf 19 = .ok (.invokevirtual 44, 3) := by decide +kernel
theorem dX7_freeOf_22 : decode cX7_freeOf 22 = .ok (.if_icmp .ge 112, 3) := by decide +kernel
theorem dX7_freeOf_25 : decode cX7_freeOf 25 = .ok (.iload_n 2, 1) := by decide +kernel
theorem dX7_freeOf_26 : decode cX7_freeOf 26 = .ok (.istore 5, 2) := by decide +kernel
theorem dX7_freeOf_28 : decode cX7_freeOf 28 = .ok (.iload 5, 2) := by decide +kernel
theorem dX7_freeOf_30 : decode cX7_freeOf 30 = .ok (.bipush 24, 2) := by decide +kernel
theorem dX7_freeOf_32 : decode cX7_freeOf 32 = .ok (.if_icmp .ge 96, 3) := by decide +kernel
theorem dX7_freeOf_35 : decode cX7_freeOf 35 = .ok (.aload_n 0, 1) := by decide +kernel
theorem dX7_freeOf_36 : decode cX7_freeOf 36 = .ok (.getfield 28, 3) := by decide +kernel
theorem dX7_freeOf_39 : decode cX7_freeOf 39 = .ok (.bipush 24, 2) := by decide +kernel
theorem dX7_freeOf_41 : decode cX7_freeOf 41 = .ok (.iload 4, 2) := by decide +kernel
theorem dX7_freeOf_43 : decode cX7_freeOf 43 = .ok (.imul, 1) := by decide +kernel
theorem dX7_freeOf_44 : decode cX7_freeOf 44 = .ok (.iload 5, 2) := by decide +kernel
theorem dX7_freeOf_46 : decode cX7_freeOf 46 = .ok (.iadd, 1) := by decide +kernel
theorem dX7_freeOf_47 : decode cX7_freeOf 47 = .ok (.aload_n 0, 1) := by decide +kernel
theorem dX7_freeOf_48 : decode cX7_freeOf 48 = .ok (.iload 4, 2) := by decide +kernel
theorem dX7_freeOf_50 : decode cX7_freeOf 50 = .ok (.iload 5, 2) := by decide +kernel
theorem dX7_freeOf_52 : decode cX7_freeOf 52 = .ok (.invokevirtual 122, 3) := by decide +kernel
theorem dX7_freeOf_55 : decode cX7_freeOf 55 = .ok (.iastore, 1) := by decide +kernel
theorem dX7_freeOf_56 : decode cX7_freeOf 56 = .ok (.aload_n 0, 1) := by decide +kernel
theorem dX7_freeOf_57 : decode cX7_freeOf 57 = .ok (.getfield 31, 3) := by decide +kernel
theorem dX7_freeOf_60 : decode cX7_freeOf 60 = .ok (.bipush 24, 2) := by decide +kernel
theorem dX7_freeOf_62 : decode cX7_freeOf 62 = .ok (.iload 4, 2) := by decide +kernel
theorem dX7_freeOf_64 : decode cX7_freeOf 64 = .ok (.imul, 1) := by decide +kernel
theorem dX7_freeOf_65 : decode cX7_freeOf 65 = .ok (.iload 5, 2) := by decide +kernel
theorem dX7_freeOf_67 : decode cX7_freeOf 67 = .ok (.iadd, 1) := by decide +kernel
theorem dX7_freeOf_68 : decode cX7_freeOf 68 = .ok (.iconst 0, 1) := by decide +kernel
theorem dX7_freeOf_69 : decode cX7_freeOf 69 = .ok (.iastore, 1) := by decide +kernel
theorem dX7_freeOf_70 : decode cX7_freeOf 70 = .ok (.iload_n 2, 1) := by decide +kernel
theorem dX7_freeOf_71 : decode cX7_freeOf 71 = .ok (.istore 6, 2) := by decide +kernel
theorem dX7_freeOf_73 : decode cX7_freeOf 73 = .ok (.iload 6, 2) := by decide +kernel
theorem dX7_freeOf_75 : decode cX7_freeOf 75 = .ok (.iload 5, 2) := by decide +kernel
theorem dX7_freeOf_77 : decode cX7_freeOf 77 = .ok (.if_icmp .gt 45, 3) := by decide +kernel
theorem dX7_freeOf_80 : decode cX7_freeOf 80 = .ok (.aload_n 0, 1) := by decide +kernel
theorem dX7_freeOf_81 : decode cX7_freeOf 81 = .ok (.getfield 31, 3) := by decide +kernel
theorem dX7_freeOf_84 : decode cX7_freeOf 84 = .ok (.bipush 24, 2) := by decide +kernel
theorem dX7_freeOf_86 : decode cX7_freeOf 86 = .ok (.iload 4, 2) := by decide +kernel
theorem dX7_freeOf_88 : decode cX7_freeOf 88 = .ok (.imul, 1) := by decide +kernel
theorem dX7_freeOf_89 : decode cX7_freeOf 89 = .ok (.iload 5, 2) := by decide +kernel
theorem dX7_freeOf_91 : decode cX7_freeOf 91 = .ok (.iadd, 1) := by decide +kernel
theorem dX7_freeOf_92 : decode cX7_freeOf 92 = .ok (.dup2, 1) := by decide +kernel
theorem dX7_freeOf_93 : decode cX7_freeOf 93 = .ok (.iaload, 1) := by decide +kernel
theorem dX7_freeOf_94 : decode cX7_freeOf 94 = .ok (.aload_n 0, 1) := by decide +kernel
theorem dX7_freeOf_95 : decode cX7_freeOf 95 = .ok (.iload_n 1, 1) := by decide +kernel
theorem dX7_freeOf_96 : decode cX7_freeOf 96 = .ok (.iload 6, 2) := by decide +kernel
theorem dX7_freeOf_98 : decode cX7_freeOf 98 = .ok (.invokevirtual 105, 3) := by decide +kernel
theorem dX7_freeOf_101 : decode cX7_freeOf 101 = .ok (.aload_n 0, 1) := by decide +kernel
theorem dX7_freeOf_102 : decode cX7_freeOf 102 = .ok (.iload 4, 2) := by decide +kernel
theorem dX7_freeOf_104 : decode cX7_freeOf 104 = .ok (.iload_n 1, 1) := by decide +kernel
theorem dX7_freeOf_105 : decode cX7_freeOf 105 = .ok (.iload 5, 2) := by decide +kernel
theorem dX7_freeOf_107 : decode cX7_freeOf 107 = .ok (.iload 6, 2) := by decide +kernel
theorem dX7_freeOf_109 : decode cX7_freeOf 109 = .ok (.isub, 1) := by decide +kernel
theorem dX7_freeOf_110 : decode cX7_freeOf 110 = .ok (.invokevirtual 108, 3) := by decide +kernel
theorem dX7_freeOf_113 : decode cX7_freeOf 113 = .ok (.imul, 1) := by decide +kernel
theorem dX7_freeOf_114 : decode cX7_freeOf 114 = .ok (.iadd, 1) := by decide +kernel
theorem dX7_freeOf_115 : decode cX7_freeOf 115 = .ok (.iastore, 1) := by decide +kernel
theorem dX7_freeOf_116 : decode cX7_freeOf 116 = .ok (.iinc 6 1, 3) := by decide +kernel
theorem dX7_freeOf_119 : decode cX7_freeOf 119 = .ok (.goto (-46), 3) := by decide +kernel
theorem dX7_freeOf_122 : decode cX7_freeOf 122 = .ok (.iinc 5 1, 3) := by decide +kernel
theorem dX7_freeOf_125 : decode cX7_freeOf 125 = .ok (.goto (-97), 3) := by decide +kernel
theorem dX7_freeOf_128 : decode cX7_freeOf 128 = .ok (.iinc 4 1, 3) := by decide +kernel
theorem dX7_freeOf_131 : decode cX7_freeOf 131 = .ok (.goto (-115), 3) := by decide +kernel
theorem dX7_freeOf_134 : decode cX7_freeOf 134 = .ok (.sipush 1000, 3) := by decide +kernel
theorem dX7_freeOf_137 : decode cX7_freeOf 137 = .ok (.istore 4, 2) := by decide +kernel
theorem dX7_freeOf_139 : decode cX7_freeOf 139 = .ok (.iload 4, 2) := by decide +kernel
theorem dX7_freeOf_141 : decode cX7_freeOf 141 = .ok (.ifCond .le 19, 3) := by decide +kernel
theorem dX7_freeOf_144 : decode cX7_freeOf 144 = .ok (.aload_n 0, 1) := by decide +kernel
theorem dX7_freeOf_145 : decode cX7_freeOf 145 = .ok (.iload_n 2, 1) := by decide +kernel
theorem dX7_freeOf_146 : decode cX7_freeOf 146 = .ok (.iload 4, 2) := by decide +kernel
theorem dX7_freeOf_148 : decode cX7_freeOf 148 = .ok (.invokevirtual 125, 3) := by decide +kernel
theorem dX7_freeOf_151 : decode cX7_freeOf 151 = .ok (.ifCond .ne 9, 3) := by decide +kernel
theorem dX7_freeOf_154 : decode cX7_freeOf 154 = .ok (.iinc 4 (-1), 3) := by decide +kernel
theorem dX7_freeOf_157 : decode cX7_freeOf 157 = .ok (.goto (-18), 3) := by decide +kernel
theorem dX7_freeOf_160 : decode cX7_freeOf 160 = .ok (.iload 4, 2) := by decide +kernel
theorem dX7_freeOf_162 : decode cX7_freeOf 162 = .ok (.ireturn, 1) := by decide +kernel
theorem dX7_isFree_0 : decode cX7_isFree 0 = .ok (.iconst 0, 1) := by decide +kernel
theorem dX7_isFree_1 : decode cX7_isFree 1 = .ok (.istore_n 3, 1) := by decide +kernel
theorem dX7_isFree_2 : decode cX7_isFree 2 = .ok (.iload_n 3, 1) := by decide +kernel
theorem dX7_isFree_3 : decode cX7_isFree 3 = .ok (.aload_n 0, 1) := by decide +kernel
theorem dX7_isFree_4 : decode cX7_isFree 4 = .ok (.invokevirtual 44, 3) := by decide +kernel
theorem dX7_isFree_7 : decode cX7_isFree 7 = .ok (.if_icmp .ge 79, 3) := by decide +kernel
theorem dX7_isFree_10 : decode cX7_isFree 10 = .ok (.iload_n 1, 1) := by decide +kernel
theorem dX7_isFree_11 : decode cX7_isFree 11 = .ok (.istore 4, 2) := by decide +kernel
theorem dX7_isFree_13 : decode cX7_isFree 13 = .ok (.iload 4, 2) := by decide +kernel
theorem dX7_isFree_15 : decode cX7_isFree 15 = .ok (.bipush 24, 2) := by decide +kernel
theorem dX7_isFree_17 : decode cX7_isFree 17 = .ok (.if_icmp .ge 63, 3) := by decide +kernel
theorem dX7_isFree_20 : decode cX7_isFree 20 = .ok (.bipush 24, 2) := by decide +kernel
theorem dX7_isFree_22 : decode cX7_isFree 22 = .ok (.iload_n 3, 1) := by decide +kernel
theorem dX7_isFree_23 : decode cX7_isFree 23 = .ok (.imul, 1) := by decide +kernel
theorem dX7_isFree_24 : decode cX7_isFree 24 = .ok (.iload 4, 2) := by decide +kernel
theorem dX7_isFree_26 : decode cX7_isFree 26 = .ok (.iadd, 1) := by decide +kernel
theorem dX7_isFree_27 : decode cX7_isFree 27 = .ok (.istore 5, 2) := by decide +kernel
theorem dX7_isFree_29 : decode cX7_isFree 29 = .ok (.aload_n 0, 1) := by decide +kernel
theorem dX7_isFree_30 : decode cX7_isFree 30 = .ok (.getfield 28, 3) := by decide +kernel
theorem dX7_isFree_33 : decode cX7_isFree 33 = .ok (.iload 5, 2) := by decide +kernel
theorem dX7_isFree_35 : decode cX7_isFree 35 = .ok (.iaload, 1) := by decide +kernel
theorem dX7_isFree_36 : decode cX7_isFree 36 = .ok (.ifCond .ge 16, 3) := by decide +kernel
theorem dX7_isFree_39 : decode cX7_isFree 39 = .ok (.aload_n 0, 1) := by decide +kernel
theorem dX7_isFree_40 : decode cX7_isFree 40 = .ok (.getfield 31, 3) := by decide +kernel
theorem dX7_isFree_43 : decode cX7_isFree 43 = .ok (.iload 5, 2) := by decide +kernel
theorem dX7_isFree_45 : decode cX7_isFree 45 = .ok (.iaload, 1) := by decide +kernel
theorem dX7_isFree_46 : decode cX7_isFree 46 = .ok (.ifCond .le 28, 3) := by decide +kernel
theorem dX7_isFree_49 : decode cX7_isFree 49 = .ok (.goto 23, 3) := by decide +kernel
theorem dX7_isFree_52 : decode cX7_isFree 52 = .ok (.aload_n 0, 1) := by decide +kernel
theorem dX7_isFree_53 : decode cX7_isFree 53 = .ok (.getfield 28, 3) := by decide +kernel
theorem dX7_isFree_56 : decode cX7_isFree 56 = .ok (.iload 5, 2) := by decide +kernel
theorem dX7_isFree_58 : decode cX7_isFree 58 = .ok (.iaload, 1) := by decide +kernel
theorem dX7_isFree_59 : decode cX7_isFree 59 = .ok (.iload_n 2, 1) := by decide +kernel
theorem dX7_isFree_60 : decode cX7_isFree 60 = .ok (.aload_n 0, 1) := by decide +kernel
theorem dX7_isFree_61 : decode cX7_isFree 61 = .ok (.getfield 31, 3) := by decide +kernel
theorem dX7_isFree_64 : decode cX7_isFree 64 = .ok (.iload 5, 2) := by decide +kernel
theorem dX7_isFree_66 : decode cX7_isFree 66 = .ok (.iaload, 1) := by decide +kernel
theorem dX7_isFree_67 : decode cX7_isFree 67 = .ok (.imul, 1) := by decide +kernel
theorem dX7_isFree_68 : decode cX7_isFree 68 = .ok (.isub, 1) := by decide +kernel
theorem dX7_isFree_69 : decode cX7_isFree 69 = .ok (.ifCond .ge 5, 3) := by decide +kernel
theorem dX7_isFree_72 : decode cX7_isFree 72 = .ok (.iconst 0, 1) := by decide +kernel
theorem dX7_isFree_73 : decode cX7_isFree 73 = .ok (.ireturn, 1) := by decide +kernel
theorem dX7_isFree_74 : decode cX7_isFree 74 = .ok (.iinc 4 1, 3) := by decide +kernel
theorem dX7_isFree_77 : decode cX7_isFree 77 = .ok (.goto (-64), 3) := by decide +kernel
theorem dX7_isFree_80 : decode cX7_isFree 80 = .ok (.iinc 3 1, 3) := by decide +kernel
theorem dX7_isFree_83 : decode cX7_isFree 83 = .ok (.goto (-81), 3) := by decide +kernel
theorem dX7_isFree_86 : decode cX7_isFree 86 = .ok (.iconst 1, 1) := by decide +kernel
theorem dX7_isFree_87 : decode cX7_isFree 87 = .ok (.ireturn, 1) := by decide +kernel
theorem dX7_free_0 : decode cX7_free 0 = .ok (.aload_n 0, 1) := by decide +kernel
theorem dX7_free_1 : decode cX7_free 1 = .ok (.iload_n 1, 1) := by decide +kernel
theorem dX7_free_2 : decode cX7_free 2 = .ok (.invokevirtual 68, 3) := by decide +kernel
theorem dX7_free_5 : decode cX7_free 5 = .ok (.ifCond .eq 19, 3) := by decide +kernel
theorem dX7_free_8 : decode cX7_free 8 = .ok (.iload_n 2, 1) := by decide +kernel
theorem dX7_free_9 : decode cX7_free 9 = .ok (.invokestatic 98, 3) := by decide +kernel
theorem dX7_free_12 : decode cX7_free 12 = .ok (.ifCond .eq 12, 3) := by decide +kernel
theorem dX7_free_15 : decode cX7_free 15 = .ok (.aload_n 0, 1) := by decide +kernel
theorem dX7_free_16 : decode cX7_free 16 = .ok (.iload_n 1, 1) := by decide +kernel
theorem dX7_free_17 : decode cX7_free 17 = .ok (.iload_n 2, 1) := by decide +kernel
theorem dX7_free_18 : decode cX7_free 18 = .ok (.invokevirtual 129, 3) := by decide +kernel
theorem dX7_free_21 : decode cX7_free 21 = .ok (.goto 9, 3) := by decide +kernel
theorem dX7_free_24 : decode cX7_free 24 = .ok (.aload_n 0, 1) := by decide +kernel
theorem dX7_free_25 : decode cX7_free 25 = .ok (.ldc 62, 2) := by decide +kernel
theorem dX7_free_27 : decode cX7_free 27 = .ok (.invokevirtual 63, 3) := by decide +kernel
theorem dX7_free_30 : decode cX7_free 30 = .ok (.ireturn, 1) := by decide +kernel
theorem dX7_licenceOf_0 : decode cX7_licenceOf 0 = .ok (.aload_n 0, 1) := by decide +kernel
theorem dX7_licenceOf_1 : decode cX7_licenceOf 1 = .ok (.getfield 7, 3) := by decide +kernel
theorem dX7_licenceOf_4 : decode cX7_licenceOf 4 = .ok (.sipush 566, 3) := by decide +kernel
theorem dX7_licenceOf_7 : decode cX7_licenceOf 7 = .ok (.iconst 4, 1) := by decide +kernel
theorem dX7_licenceOf_8 : decode cX7_licenceOf 8 = .ok (.iload_n 1, 1) := by decide +kernel
theorem dX7_licenceOf_9 : decode cX7_licenceOf 9 = .ok (.imul, 1) := by decide +kernel
theorem dX7_licenceOf_10 : decode cX7_licenceOf 10 = .ok (.iadd, 1) := by decide +kernel
theorem dX7_licenceOf_11 : decode cX7_licenceOf 11 = .ok (.iload_n 2, 1) := by decide +kernel
theorem dX7_licenceOf_12 : decode cX7_licenceOf 12 = .ok (.iadd, 1) := by decide +kernel
theorem dX7_licenceOf_13 : decode cX7_licenceOf 13 = .ok (.iaload, 1) := by decide +kernel
theorem dX7_licenceOf_14 : decode cX7_licenceOf 14 = .ok (.ireturn, 1) := by decide +kernel
theorem dX7_licence_0 : decode cX7_licence 0 = .ok (.aload_n 0, 1) := by decide +kernel
theorem dX7_licence_1 : decode cX7_licence 1 = .ok (.iload_n 1, 1) := by decide +kernel
theorem dX7_licence_2 : decode cX7_licence 2 = .ok (.invokevirtual 68, 3) := by decide +kernel
theorem dX7_licence_5 : decode cX7_licence 5 = .ok (.ifCond .eq 25, 3) := by decide +kernel
theorem dX7_licence_8 : decode cX7_licence 8 = .ok (.iload_n 2, 1) := by decide +kernel
theorem dX7_licence_9 : decode cX7_licence 9 = .ok (.iconst 0, 1) := by decide +kernel
theorem dX7_licence_10 : decode cX7_licence 10 = .ok (.sipush 9999, 3) := by decide +kernel
theorem dX7_licence_13 : decode cX7_licence 13 = .ok (.invokestatic 48, 3) := by decide +kernel
theorem dX7_licence_16 : decode cX7_licence 16 = .ok (.ifCond .eq 14, 3) := by decide +kernel
theorem dX7_licence_19 : decode cX7_licence 19 = .ok (.iload_n 3, 1) := by decide +kernel
theorem dX7_licence_20 : decode cX7_licence 20 = .ok (.iconst 0, 1) := by decide +kernel
theorem dX7_licence_21 : decode cX7_licence 21 = .ok (.sipush 1000, 3) := by decide +kernel
theorem dX7_licence_24 : decode cX7_licence 24 = .ok (.invokestatic 48, 3) := by decide +kernel
theorem dX7_licence_27 : decode cX7_licence 27 = .ok (.ifCond .ne 10, 3) := by decide +kernel
theorem dX7_licence_30 : decode cX7_licence 30 = .ok (.aload_n 0, 1) := by decide +kernel
theorem dX7_licence_31 : decode cX7_licence 31 = .ok (.ldc 62, 2) := by decide +kernel
theorem dX7_licence_33 : decode cX7_licence 33 = .ok (.invokevirtual 63, 3) := by decide +kernel
theorem dX7_licence_36 : decode cX7_licence 36 = .ok (.ireturn, 1) := by decide +kernel
theorem dX7_licence_37 : decode cX7_licence 37 = .ok (.aload_n 0, 1) := by decide +kernel
theorem dX7_licence_38 : decode cX7_licence 38 = .ok (.iload_n 1, 1) := by decide +kernel
theorem dX7_licence_39 : decode cX7_licence 39 = .ok (.invokevirtual 71, 3) := by decide +kernel
theorem dX7_licence_42 : decode cX7_licence 42 = .ok (.iconst 2, 1) := by decide +kernel
theorem dX7_licence_43 : decode cX7_licence 43 = .ok (.if_icmp .le 10, 3) := by decide +kernel
theorem dX7_licence_46 : decode cX7_licence 46 = .ok (.aload_n 0, 1) := by decide +kernel
theorem dX7_licence_47 : decode cX7_licence 47 = .ok (.ldc 74, 2) := by decide +kernel
theorem dX7_licence_49 : decode cX7_licence 49 = .ok (.invokevirtual 63, 3) := by decide +kernel
theorem dX7_licence_52 : decode cX7_licence 52 = .ok (.ireturn, 1) := by decide +kernel
theorem dX7_licence_53 : decode cX7_licence 53 = .ok (.aload_n 0, 1) := by decide +kernel
theorem dX7_licence_54 : decode cX7_licence 54 = .ok (.getfield 7, 3) := by decide +kernel
theorem dX7_licence_57 : decode cX7_licence 57 = .ok (.sipush 1087, 3) := by decide +kernel
theorem dX7_licence_60 : decode cX7_licence 60 = .ok (.iaload, 1) := by decide +kernel
theorem dX7_licence_61 : decode cX7_licence 61 = .ok (.istore 4, 2) := by decide +kernel
theorem dX7_licence_63 : decode cX7_licence 63 = .ok (.iload 4, 2) := by decide +kernel
theorem dX7_licence_65 : decode cX7_licence 65 = .ok (.bipush 10, 2) := by decide +kernel
theorem dX7_licence_67 : decode cX7_licence 67 = .ok (.if_icmp .ne 10, 3) := by decide +kernel
theorem dX7_licence_70 : decode cX7_licence 70 = .ok (.aload_n 0, 1) := by decide +kernel
theorem dX7_licence_71 : decode cX7_licence 71 = .ok (.ldc 67, 2) := by decide +kernel
theorem dX7_licence_73 : decode cX7_licence 73 = .ok (.invokevirtual 63, 3) := by decide +kernel
theorem dX7_licence_76 : decode cX7_licence 76 = .ok (.ireturn, 1) := by decide +kernel
theorem dX7_licence_77 : decode cX7_licence 77 = .ok (.aload_n 0, 1) := by decide +kernel
theorem dX7_licence_78 : decode cX7_licence 78 = .ok (.getfield 7, 3) := by decide +kernel
theorem dX7_licence_81 : decode cX7_licence 81 = .ok (.sipush 566, 3) := by decide +kernel
theorem dX7_licence_84 : decode cX7_licence 84 = .ok (.iconst 4, 1) := by decide +kernel
theorem dX7_licence_85 : decode cX7_licence 85 = .ok (.iload 4, 2) := by decide +kernel
theorem dX7_licence_87 : decode cX7_licence 87 = .ok (.imul, 1) := by decide +kernel
theorem dX7_licence_88 : decode cX7_licence 88 = .ok (.iadd, 1) := by decide +kernel
theorem dX7_licence_89 : decode cX7_licence 89 = .ok (.iload_n 1, 1) := by decide +kernel
theorem dX7_licence_90 : decode cX7_licence 90 = .ok (.iastore, 1) := by decide +kernel
theorem dX7_licence_91 : decode cX7_licence 91 = .ok (.aload_n 0, 1) := by decide +kernel
theorem dX7_licence_92 : decode cX7_licence 92 = .ok (.getfield 7, 3) := by decide +kernel
theorem dX7_licence_95 : decode cX7_licence 95 = .ok (.sipush 566, 3) := by decide +kernel
theorem dX7_licence_98 : decode cX7_licence 98 = .ok (.iconst 4, 1) := by decide +kernel
theorem dX7_licence_99 : decode cX7_licence 99 = .ok (.iload 4, 2) := by decide +kernel
theorem dX7_licence_101 : decode cX7_licence 101 = .ok (.imul, 1) := by decide +kernel
theorem dX7_licence_102 : decode cX7_licence 102 = .ok (.iadd, 1) := by decide +kernel
theorem dX7_licence_103 : decode cX7_licence 103 = .ok (.iconst 1, 1) := by decide +kernel
theorem dX7_licence_104 : decode cX7_licence 104 = .ok (.iadd, 1) := by decide +kernel
theorem dX7_licence_105 : decode cX7_licence 105 = .ok (.iload_n 2, 1) := by decide +kernel
theorem dX7_licence_106 : decode cX7_licence 106 = .ok (.iastore, 1) := by decide +kernel
theorem dX7_licence_107 : decode cX7_licence 107 = .ok (.aload_n 0, 1) := by decide +kernel
theorem dX7_licence_108 : decode cX7_licence 108 = .ok (.getfield 7, 3) := by decide +kernel
theorem dX7_licence_111 : decode cX7_licence 111 = .ok (.sipush 566, 3) := by decide +kernel
theorem dX7_licence_114 : decode cX7_licence 114 = .ok (.iconst 4, 1) := by decide +kernel
theorem dX7_licence_115 : decode cX7_licence 115 = .ok (.iload 4, 2) := by decide +kernel
theorem dX7_licence_117 : decode cX7_licence 117 = .ok (.imul, 1) := by decide +kernel
theorem dX7_licence_118 : decode cX7_licence 118 = .ok (.iadd, 1) := by decide +kernel
theorem dX7_licence_119 : decode cX7_licence 119 = .ok (.iconst 2, 1) := by decide +kernel
theorem dX7_licence_120 : decode cX7_licence 120 = .ok (.iadd, 1) := by decide +kernel
theorem dX7_licence_121 : decode cX7_licence 121 = .ok (.iload_n 3, 1) := by decide +kernel
theorem dX7_licence_122 : decode cX7_licence 122 = .ok (.iastore, 1) := by decide +kernel
theorem dX7_licence_123 : decode cX7_licence 123 = .ok (.aload_n 0, 1) := by decide +kernel
theorem dX7_licence_124 : decode cX7_licence 124 = .ok (.getfield 7, 3) := by decide +kernel
theorem dX7_licence_127 : decode cX7_licence 127 = .ok (.sipush 566, 3) := by decide +kernel
theorem dX7_licence_130 : decode cX7_licence 130 = .ok (.iconst 4, 1) := by decide +kernel
theorem dX7_licence_131 : decode cX7_licence 131 = .ok (.iload 4, 2) := by decide +kernel
theorem dX7_licence_133 : decode cX7_licence 133 = .ok (.imul, 1) := by decide +kernel
theorem dX7_licence_134 : decode cX7_licence 134 = .ok (.iadd, 1) := by decide +kernel
theorem dX7_licence_135 : decode cX7_licence 135 = .ok (.iconst 3, 1) := by decide +kernel
theorem dX7_licence_136 : decode cX7_licence 136 = .ok (.iadd, 1) := by decide +kernel
theorem dX7_licence_137 : decode cX7_licence 137 = .ok (.iconst 0, 1) := by decide +kernel
theorem dX7_licence_138 : decode cX7_licence 138 = .ok (.iastore, 1) := by decide +kernel
theorem dX7_licence_139 : decode cX7_licence 139 = .ok (.aload_n 0, 1) := by decide +kernel
theorem dX7_licence_140 : decode cX7_licence 140 = .ok (.getfield 7, 3) := by decide +kernel
theorem dX7_licence_143 : decode cX7_licence 143 = .ok (.sipush 1087, 3) := by decide +kernel
theorem dX7_licence_146 : decode cX7_licence 146 = .ok (.dup2, 1) := by decide +kernel
theorem dX7_licence_147 : decode cX7_licence 147 = .ok (.iaload, 1) := by decide +kernel
theorem dX7_licence_148 : decode cX7_licence 148 = .ok (.iconst 1, 1) := by decide +kernel
theorem dX7_licence_149 : decode cX7_licence 149 = .ok (.iadd, 1) := by decide +kernel
theorem dX7_licence_150 : decode cX7_licence 150 = .ok (.iastore, 1) := by decide +kernel
theorem dX7_licence_151 : decode cX7_licence 151 = .ok (.iload 4, 2) := by decide +kernel
theorem dX7_licence_153 : decode cX7_licence 153 = .ok (.ireturn, 1) := by decide +kernel
theorem dX7_serve_0 : decode cX7_serve 0 = .ok (.iload_n 1, 1) := by decide +kernel
theorem dX7_serve_1 : decode cX7_serve 1 = .ok (.invokestatic 98, 3) := by decide +kernel
theorem dX7_serve_4 : decode cX7_serve 4 = .ok (.ifCond .ne 10, 3) := by decide +kernel
theorem dX7_serve_7 : decode cX7_serve 7 = .ok (.aload_n 0, 1) := by decide +kernel
theorem dX7_serve_8 : decode cX7_serve 8 = .ok (.ldc 62, 2) := by decide +kernel
theorem dX7_serve_10 : decode cX7_serve 10 = .ok (.invokevirtual 63, 3) := by decide +kernel
theorem dX7_serve_13 : decode cX7_serve 13 = .ok (.ireturn, 1) := by decide +kernel
theorem dX7_serve_14 : decode cX7_serve 14 = .ok (.aload_n 0, 1) := by decide +kernel
theorem dX7_serve_15 : decode cX7_serve 15 = .ok (.getfield 7, 3) := by decide +kernel
theorem dX7_serve_18 : decode cX7_serve 18 = .ok (.sipush 1087, 3) := by decide +kernel
theorem dX7_serve_21 : decode cX7_serve 21 = .ok (.iaload, 1) := by decide +kernel
theorem dX7_serve_22 : decode cX7_serve 22 = .ok (.istore_n 2, 1) := by decide +kernel
theorem dX7_serve_23 : decode cX7_serve 23 = .ok (.iconst 0, 1) := by decide +kernel
theorem dX7_serve_24 : decode cX7_serve 24 = .ok (.istore_n 3, 1) := by decide +kernel
theorem dX7_serve_25 : decode cX7_serve 25 = .ok (.iload_n 3, 1) := by decide +kernel
theorem dX7_serve_26 : decode cX7_serve 26 = .ok (.iload_n 2, 1) := by decide +kernel
theorem dX7_serve_27 : decode cX7_serve 27 = .ok (.if_icmp .ge 46, 3) := by decide +kernel
theorem dX7_serve_30 : decode cX7_serve 30 = .ok (.iload_n 1, 1) := by decide +kernel
theorem dX7_serve_31 : decode cX7_serve 31 = .ok (.istore 4, 2) := by decide +kernel
theorem dX7_serve_33 : decode cX7_serve 33 = .ok (.iload 4, 2) := by decide +kernel
theorem dX7_serve_35 : decode cX7_serve 35 = .ok (.bipush 24, 2) := by decide +kernel
theorem dX7_serve_37 : decode cX7_serve 37 = .ok (.if_icmp .ge 30, 3) := by decide +kernel
theorem dX7_serve_40 : decode cX7_serve 40 = .ok (.aload_n 0, 1) := by decide +kernel
theorem dX7_serve_41 : decode cX7_serve 41 = .ok (.getfield 7, 3) := by decide +kernel
theorem dX7_serve_44 : decode cX7_serve 44 = .ok (.bipush 50, 2) := by decide +kernel
theorem dX7_serve_46 : decode cX7_serve 46 = .ok (.bipush 24, 2) := by decide +kernel
theorem dX7_serve_48 : decode cX7_serve 48 = .ok (.aload_n 0, 1) := by decide +kernel
theorem dX7_serve_49 : decode cX7_serve 49 = .ok (.iload_n 3, 1) := by decide +kernel
theorem dX7_serve_50 : decode cX7_serve 50 = .ok (.iconst 0, 1) := by decide +kernel
theorem dX7_serve_51 : decode cX7_serve 51 = .ok (.invokevirtual 132, 3) := by decide +kernel
theorem dX7_serve_54 : decode cX7_serve 54 = .ok (.imul, 1) := by decide +kernel
theorem dX7_serve_55 : decode cX7_serve 55 = .ok (.iadd, 1) := by decide +kernel
theorem dX7_serve_56 : decode cX7_serve 56 = .ok (.iload 4, 2) := by decide +kernel
theorem dX7_serve_58 : decode cX7_serve 58 = .ok (.iadd, 1) := by decide +kernel
theorem dX7_serve_59 : decode cX7_serve 59 = .ok (.iconst 0, 1) := by decide +kernel
theorem dX7_serve_60 : decode cX7_serve 60 = .ok (.iastore, 1) := by decide +kernel
theorem dX7_serve_61 : decode cX7_serve 61 = .ok (.iinc 4 1, 3) := by decide +kernel
theorem dX7_serve_64 : decode cX7_serve 64 = .ok (.goto (-31), 3) := by decide +kernel
theorem dX7_serve_67 : decode cX7_serve 67 = .ok (.iinc 3 1, 3) := by decide +kernel
theorem dX7_serve_70 : decode cX7_serve 70 = .ok (.goto (-45), 3) := by decide +kernel
theorem dX7_serve_73 : decode cX7_serve 73 = .ok (.iconst 0, 1) := by decide +kernel
theorem dX7_serve_74 : decode cX7_serve 74 = .ok (.istore_n 3, 1) := by decide +kernel
theorem dX7_serve_75 : decode cX7_serve 75 = .ok (.iload_n 3, 1) := by decide +kernel
theorem dX7_serve_76 : decode cX7_serve 76 = .ok (.bipush 10, 2) := by decide +kernel
theorem dX7_serve_78 : decode cX7_serve 78 = .ok (.if_icmp .ge 16, 3) := by decide +kernel
theorem dX7_serve_81 : decode cX7_serve 81 = .ok (.aload_n 0, 1) := by decide +kernel
theorem dX7_serve_82 : decode cX7_serve 82 = .ok (.getfield 34, 3) := by decide +kernel
theorem dX7_serve_85 : decode cX7_serve 85 = .ok (.iload_n 3, 1) := by decide +kernel
theorem dX7_serve_86 : decode cX7_serve 86 = .ok (.iconst 0, 1) := by decide +kernel
theorem dX7_serve_87 : decode cX7_serve 87 = .ok (.iastore, 1) := by decide +kernel
theorem dX7_serve_88 : decode cX7_serve 88 = .ok (.iinc 3 1, 3) := by decide +kernel
theorem dX7_serve_91 : decode cX7_serve 91 = .ok (.goto (-16), 3) := by decide +kernel
theorem dX7_serve_94 : decode cX7_serve 94 = .ok (.iconst 0, 1) := by decide +kernel
theorem dX7_serve_95 : decode cX7_serve 95 = .ok (.istore_n 3, 1) := by decide +kernel
theorem dX7_serve_96 : decode cX7_serve 96 = .ok (.iconst 0, 1) := by decide +kernel
theorem dX7_serve_97 : decode cX7_serve 97 = .ok (.istore 4, 2) := by decide +kernel
theorem dX7_serve_99 : decode cX7_serve 99 = .ok (.iconst 0, 1) := by decide +kernel
theorem dX7_serve_100 : decode cX7_serve 100 = .ok (.istore 5, 2) := by decide +kernel
theorem dX7_serve_102 : decode cX7_serve 102 = .ok (.iload 5, 2) := by decide +kernel
theorem dX7_serve_104 : decode cX7_serve 104 = .ok (.iload_n 2, 1) := by decide +kernel
theorem dX7_serve_105 : decode cX7_serve 105 = .ok (.if_icmp .ge 258, 3) := by decide +kernel
theorem dX7_serve_108 : decode cX7_serve 108 = .ok (.iconst (-1), 1) := by decide +kernel
theorem dX7_serve_109 : decode cX7_serve 109 = .ok (.istore 6, 2) := by decide +kernel
theorem dX7_serve_111 : decode cX7_serve 111 = .ok (.iconst 0, 1) := by decide +kernel
theorem dX7_serve_112 : decode cX7_serve 112 = .ok (.istore 7, 2) := by decide +kernel
theorem dX7_serve_114 : decode cX7_serve 114 = .ok (.iload 7, 2) := by decide +kernel
theorem dX7_serve_116 : decode cX7_serve 116 = .ok (.iload_n 2, 1) := by decide +kernel
theorem dX7_serve_117 : decode cX7_serve 117 = .ok (.if_icmp .ge 44, 3) := by decide +kernel
theorem dX7_serve_120 : decode cX7_serve 120 = .ok (.iload_n 3, 1) := by decide +kernel
theorem dX7_serve_121 : decode cX7_serve 121 = .ok (.iload 7, 2) := by decide +kernel
theorem dX7_serve_123 : decode cX7_serve 123 = .ok (.ishr, 1) := by decide +kernel
theorem dX7_serve_124 : decode cX7_serve 124 = .ok (.iconst 1, 1) := by decide +kernel
theorem dX7_serve_125 : decode cX7_serve 125 = .ok (.iand, 1) := by decide +kernel
theorem dX7_serve_126 : decode cX7_serve 126 = .ok (.ifCond .ne 29, 3) := by decide +kernel
theorem dX7_serve_129 : decode cX7_serve 129 = .ok (.iload 6, 2) := by decide +kernel
theorem dX7_serve_131 : decode cX7_serve 131 = .ok (.ifCond .lt 20, 3) := by decide +kernel
theorem dX7_serve_134 : decode cX7_serve 134 = .ok (.aload_n 0, 1) := by decide +kernel
theorem dX7_serve_135 : decode cX7_serve 135 = .ok (.iload 7, 2) := by decide +kernel
theorem dX7_serve_137 : decode cX7_serve 137 = .ok (.iconst 1, 1) := by decide +kernel
theorem dX7_serve_138 : decode cX7_serve 138 = .ok (.invokevirtual 132, 3) := by decide +kernel
theorem dX7_serve_141 : decode cX7_serve 141 = .ok (.aload_n 0, 1) := by decide +kernel
theorem dX7_serve_142 : decode cX7_serve 142 = .ok (.iload 6, 2) := by decide +kernel
theorem dX7_serve_144 : decode cX7_serve 144 = .ok (.iconst 1, 1) := by decide +kernel
theorem dX7_serve_145 : decode cX7_serve 145 = .ok (.invokevirtual 132, 3) := by decide +kernel
theorem dX7_serve_148 : decode cX7_serve 148 = .ok (.if_icmp .ge 7, 3) := by decide +kernel
theorem dX7_serve_151 : decode cX7_serve 151 = .ok (.iload 7, 2) := by decide +kernel
theorem dX7_serve_153 : decode cX7_serve 153 = .ok (.istore 6, 2) := by decide +kernel
theorem dX7_serve_155 : decode cX7_serve 155 = .ok (.iinc 7 1, 3) := by decide +kernel
theorem dX7_serve_158 : decode cX7_serve 158 = .ok (.goto (-44), 3) := by decide +kernel
theorem dX7_serve_161 : decode cX7_serve 161 = .ok (.iload_n 3, 1) := by decide +kernel
theorem dX7_serve_162 : decode cX7_serve 162 = .ok (.iconst 1, 1) := by decide +kernel
theorem dX7_serve_163 : decode cX7_serve 163 = .ok (.iload 6, 2) := by decide +kernel
theorem dX7_serve_165 : decode cX7_serve 165 = .ok (.ishl, 1) := by decide +kernel
theorem dX7_serve_166 : decode cX7_serve 166 = .ok (.ior, 1) := by decide +kernel
theorem dX7_serve_167 : decode cX7_serve 167 = .ok (.istore_n 3, 1) := by decide +kernel
theorem dX7_serve_168 : decode cX7_serve 168 = .ok (.aload_n 0, 1) := by decide +kernel
theorem dX7_serve_169 : decode cX7_serve 169 = .ok (.iload 6, 2) := by decide +kernel
theorem dX7_serve_171 : decode cX7_serve 171 = .ok (.iconst 0, 1) := by decide +kernel
theorem dX7_serve_172 : decode cX7_serve 172 = .ok (.invokevirtual 132, 3) := by decide +kernel
theorem dX7_serve_175 : decode cX7_serve 175 = .ok (.istore 7, 2) := by decide +kernel
theorem dX7_serve_177 : decode cX7_serve 177 = .ok (.aload_n 0, 1) := by decide +kernel
theorem dX7_serve_178 : decode cX7_serve 178 = .ok (.iload 6, 2) := by decide +kernel
theorem dX7_serve_180 : decode cX7_serve 180 = .ok (.iconst 2, 1) := by decide +kernel
theorem dX7_serve_181 : decode cX7_serve 181 = .ok (.invokevirtual 132, 3) := by decide +kernel
theorem dX7_serve_184 : decode cX7_serve 184 = .ok (.istore 8, 2) := by decide +kernel
theorem dX7_serve_186 : decode cX7_serve 186 = .ok (.aload_n 0, 1) := by decide +kernel
theorem dX7_serve_187 : decode cX7_serve 187 = .ok (.iload 7, 2) := by decide +kernel
theorem dX7_serve_189 : decode cX7_serve 189 = .ok (.iload_n 1, 1) := by decide +kernel
theorem dX7_serve_190 : decode cX7_serve 190 = .ok (.invokevirtual 129, 3) := by decide +kernel
theorem dX7_serve_193 : decode cX7_serve 193 = .ok (.istore 9, 2) := by decide +kernel
theorem dX7_serve_195 : decode cX7_serve 195 = .ok (.iload 9, 2) := by decide +kernel
theorem dX7_serve_197 : decode cX7_serve 197 = .ok (.iload 8, 2) := by decide +kernel
theorem dX7_serve_199 : decode cX7_serve 199 = .ok (.if_icmp .ge 8, 3) := by decide +kernel
theorem dX7_serve_202 : decode cX7_serve 202 = .ok (.iload 9, 2) := by decide +kernel
theorem dX7_serve_204 : decode cX7_serve 204 = .ok (.goto 5, 3) := by decide +kernel
theorem dX7_serve_207 : decode cX7_serve 207 = .ok (.iload 8, 2) := by decide +kernel
theorem dX7_serve_209 : decode cX7_serve 209 = .ok (.istore 8, 2) := by decide +kernel
theorem dX7_serve_211 : decode cX7_serve 211 = .ok (.iload_n 1, 1) := by decide +kernel
theorem dX7_serve_212 : decode cX7_serve 212 = .ok (.bipush 23, 2) := by decide +kernel
theorem dX7_serve_214 : decode cX7_serve 214 = .ok (.if_icmp .lt 13, 3) := by decide +kernel
theorem dX7_serve_217 : decode cX7_serve 217 = .ok (.aload_n 0, 1) := by decide +kernel
theorem dX7_serve_218 : decode cX7_serve 218 = .ok (.iload 7, 2) := by decide +kernel
theorem dX7_serve_220 : decode cX7_serve 220 = .ok (.iload_n 1, 1) := by decide +kernel
theorem dX7_serve_221 : decode cX7_serve 221 = .ok (.invokevirtual 105, 3) := by decide +kernel
theorem dX7_serve_224 : decode cX7_serve 224 = .ok (.ifCond .eq 7, 3) := by decide +kernel
theorem dX7_serve_227 : decode cX7_serve 227 = .ok (.iconst 1, 1) := by decide +kernel
theorem dX7_serve_228 : decode cX7_serve 228 = .ok (.goto 4, 3) := by decide +kernel
theorem dX7_serve_231 : decode cX7_serve 231 = .ok (.iconst 0, 1) := by decide +kernel
theorem dX7_serve_232 : decode cX7_serve 232 = .ok (.istore 10, 2) := by decide +kernel
theorem dX7_serve_234 : decode cX7_serve 234 = .ok (.iload 10, 2) := by decide +kernel
theorem dX7_serve_236 : decode cX7_serve 236 = .ok (.ifCond .eq 33, 3) := by decide +kernel
theorem dX7_serve_239 : decode cX7_serve 239 = .ok (.sipush 1000, 3) := by decide +kernel
theorem dX7_serve_242 : decode cX7_serve 242 = .ok (.aload_n 0, 1) := by decide +kernel
theorem dX7_serve_243 : decode cX7_serve 243 = .ok (.getfield 34, 3) := by decide +kernel
theorem dX7_serve_246 : decode cX7_serve 246 = .ok (.iload 7, 2) := by decide +kernel
theorem dX7_serve_248 : decode cX7_serve 248 = .ok (.iaload, 1) := by decide +kernel
theorem dX7_serve_249 : decode cX7_serve 249 = .ok (.isub, 1) := by decide +kernel
theorem dX7_serve_250 : decode cX7_serve 250 = .ok (.iload 8, 2) := by decide +kernel
theorem dX7_serve_252 : decode cX7_serve 252 = .ok (.if_icmp .ge 17, 3) := by decide +kernel
theorem dX7_serve_255 : decode cX7_serve 255 = .ok (.sipush 1000, 3) := by decide +kernel
theorem dX7_serve_258 : decode cX7_serve 258 = .ok (.aload_n 0, 1) := by decide +kernel
theorem dX7_serve_259 : decode cX7_serve 259 = .ok (.getfield 34, 3) := by decide +kernel
theorem dX7_serve_262 : decode cX7_serve 262 = .ok (.iload 7, 2) := by decide +kernel
theorem dX7_serve_264 : decode cX7_serve 264 = .ok (.iaload, 1) := by decide +kernel
theorem dX7_serve_265 : decode cX7_serve 265 = .ok (.isub, 1) := by decide +kernel
theorem dX7_serve_266 : decode cX7_serve 266 = .ok (.goto 5, 3) := by decide +kernel
theorem dX7_serve_269 : decode cX7_serve 269 = .ok (.iload 8, 2) := by decide +kernel
theorem dX7_serve_271 : decode cX7_serve 271 = .ok (.istore 8, 2) := by decide +kernel
theorem dX7_serve_273 : decode cX7_serve 273 = .ok (.aload_n 0, 1) := by decide +kernel
theorem dX7_serve_274 : decode cX7_serve 274 = .ok (.getfield 34, 3) := by decide +kernel
theorem dX7_serve_277 : decode cX7_serve 277 = .ok (.iload 7, 2) := by decide +kernel
theorem dX7_serve_279 : decode cX7_serve 279 = .ok (.dup2, 1) := by decide +kernel
theorem dX7_serve_280 : decode cX7_serve 280 = .ok (.iaload, 1) := by decide +kernel
theorem dX7_serve_281 : decode cX7_serve 281 = .ok (.iload 8, 2) := by decide +kernel
theorem dX7_serve_283 : decode cX7_serve 283 = .ok (.iadd, 1) := by decide +kernel
theorem dX7_serve_284 : decode cX7_serve 284 = .ok (.iastore, 1) := by decide +kernel
theorem dX7_serve_285 : decode cX7_serve 285 = .ok (.iload_n 1, 1) := by decide +kernel
theorem dX7_serve_286 : decode cX7_serve 286 = .ok (.istore 11, 2) := by decide +kernel
theorem dX7_serve_288 : decode cX7_serve 288 = .ok (.iload 11, 2) := by decide +kernel
theorem dX7_serve_290 : decode cX7_serve 290 = .ok (.bipush 24, 2) := by decide +kernel
theorem dX7_serve_292 : decode cX7_serve 292 = .ok (.if_icmp .ge 41, 3) := by decide +kernel
theorem dX7_serve_295 : decode cX7_serve 295 = .ok (.aload_n 0, 1) := by decide +kernel
theorem dX7_serve_296 : decode cX7_serve 296 = .ok (.iload 7, 2) := by decide +kernel
theorem dX7_serve_298 : decode cX7_serve 298 = .ok (.iload 11, 2) := by decide +kernel
theorem dX7_serve_300 : decode cX7_serve 300 = .ok (.invokevirtual 105, 3) := by decide +kernel
theorem dX7_serve_303 : decode cX7_serve 303 = .ok (.ifCond .eq 24, 3) := by decide +kernel
theorem dX7_serve_306 : decode cX7_serve 306 = .ok (.aload_n 0, 1) := by decide +kernel
theorem dX7_serve_307 : decode cX7_serve 307 = .ok (.getfield 7, 3) := by decide +kernel
theorem dX7_serve_310 : decode cX7_serve 310 = .ok (.bipush 50, 2) := by decide +kernel
theorem dX7_serve_312 : decode cX7_serve 312 = .ok (.bipush 24, 2) := by decide +kernel
theorem dX7_serve_314 : decode cX7_serve 314 = .ok (.iload 7, 2) := by decide +kernel
theorem dX7_serve_316 : decode cX7_serve 316 = .ok (.imul, 1) := by decide +kernel
theorem dX7_serve_317 : decode cX7_serve 317 = .ok (.iadd, 1) := by decide +kernel
theorem dX7_serve_318 : decode cX7_serve 318 = .ok (.iload 11, 2) := by decide +kernel
theorem dX7_serve_320 : decode cX7_serve 320 = .ok (.iadd, 1) := by decide +kernel
theorem dX7_serve_321 : decode cX7_serve 321 = .ok (.dup2, 1) := by decide +kernel
theorem dX7_serve_322 : decode cX7_serve 322 = .ok (.iaload, 1) := by decide +kernel
theorem dX7_serve_323 : decode cX7_serve 323 = .ok (.iload 8, 2) := by decide +kernel
theorem dX7_serve_325 : decode cX7_serve 325 = .ok (.iadd, 1) := by decide +kernel
theorem dX7_serve_326 : decode cX7_serve 326 = .ok (.iastore, 1) := by decide +kernel
theorem dX7_serve_327 : decode cX7_serve 327 = .ok (.iinc 11 1, 3) := by decide +kernel
theorem dX7_serve_330 : decode cX7_serve 330 = .ok (.goto (-42), 3) := by decide +kernel
theorem dX7_serve_333 : decode cX7_serve 333 = .ok (.aload_n 0, 1) := by decide +kernel
theorem dX7_serve_334 : decode cX7_serve 334 = .ok (.getfield 7, 3) := by decide +kernel
theorem dX7_serve_337 : decode cX7_serve 337 = .ok (.sipush 566, 3) := by decide +kernel
theorem dX7_serve_340 : decode cX7_serve 340 = .ok (.iconst 4, 1) := by decide +kernel
theorem dX7_serve_341 : decode cX7_serve 341 = .ok (.iload 6, 2) := by decide +kernel
theorem dX7_serve_343 : decode cX7_serve 343 = .ok (.imul, 1) := by decide +kernel
theorem dX7_serve_344 : decode cX7_serve 344 = .ok (.iadd, 1) := by decide +kernel
theorem dX7_serve_345 : decode cX7_serve 345 = .ok (.iconst 3, 1) := by decide +kernel
theorem dX7_serve_346 : decode cX7_serve 346 = .ok (.iadd, 1) := by decide +kernel
theorem dX7_serve_347 : decode cX7_serve 347 = .ok (.iload 8, 2) := by decide +kernel
theorem dX7_serve_349 : decode cX7_serve 349 = .ok (.iastore, 1) := by decide +kernel
theorem dX7_serve_350 : decode cX7_serve 350 = .ok (.iload 4, 2) := by decide +kernel
theorem dX7_serve_352 : decode cX7_serve 352 = .ok (.iload 8, 2) := by decide +kernel
theorem dX7_serve_354 : decode cX7_serve 354 = .ok (.iadd, 1) := by decide +kernel
theorem dX7_serve_355 : decode cX7_serve 355 = .ok (.istore 4, 2) := by decide +kernel
theorem dX7_serve_357 : decode cX7_serve 357 = .ok (.iinc 5 1, 3) := by decide +kernel
theorem dX7_serve_360 : decode cX7_serve 360 = .ok (.goto (-258), 3) := by decide +kernel
theorem dX7_serve_363 : decode cX7_serve 363 = .ok (.aload_n 0, 1) := by decide +kernel
theorem dX7_serve_364 : decode cX7_serve 364 = .ok (.getfield 7, 3) := by decide +kernel
theorem dX7_serve_367 : decode cX7_serve 367 = .ok (.sipush 1089, 3) := by decide +kernel
theorem dX7_serve_370 : decode cX7_serve 370 = .ok (.iload_n 2, 1) := by decide +kernel
theorem dX7_serve_371 : decode cX7_serve 371 = .ok (.iastore, 1) := by decide +kernel
theorem dX7_serve_372 : decode cX7_serve 372 = .ok (.iload 4, 2) := by decide +kernel
theorem dX7_serve_374 : decode cX7_serve 374 = .ok (.ireturn, 1) := by decide +kernel
theorem dX7_served_0 : decode cX7_served 0 = .ok (.iload_n 1, 1) := by decide +kernel
theorem dX7_served_1 : decode cX7_served 1 = .ok (.iconst 0, 1) := by decide +kernel
theorem dX7_served_2 : decode cX7_served 2 = .ok (.aload_n 0, 1) := by decide +kernel
theorem dX7_served_3 : decode cX7_served 3 = .ok (.getfield 7, 3) := by decide +kernel
theorem dX7_served_6 : decode cX7_served 6 = .ok (.sipush 1087, 3) := by decide +kernel
theorem dX7_served_9 : decode cX7_served 9 = .ok (.iaload, 1) := by decide +kernel
theorem dX7_served_10 : decode cX7_served 10 = .ok (.iconst 1, 1) := by decide +kernel
theorem dX7_served_11 : decode cX7_served 11 = .ok (.isub, 1) := by decide +kernel
theorem dX7_served_12 : decode cX7_served 12 = .ok (.invokestatic 48, 3) := by decide +kernel
theorem dX7_served_15 : decode cX7_served 15 = .ok (.ifCond .ne 10, 3) := by decide +kernel
theorem dX7_served_18 : decode cX7_served 18 = .ok (.aload_n 0, 1) := by decide +kernel
theorem dX7_served_19 : decode cX7_served 19 = .ok (.ldc 62, 2) := by decide +kernel
theorem dX7_served_21 : decode cX7_served 21 = .ok (.invokevirtual 63, 3) := by decide +kernel
theorem dX7_served_24 : decode cX7_served 24 = .ok (.ireturn, 1) := by decide +kernel
theorem dX7_served_25 : decode cX7_served 25 = .ok (.iload_n 1, 1) := by decide +kernel
theorem dX7_served_26 : decode cX7_served 26 = .ok (.aload_n 0, 1) := by decide +kernel
theorem dX7_served_27 : decode cX7_served 27 = .ok (.getfield 7, 3) := by decide +kernel
theorem dX7_served_30 : decode cX7_served 30 = .ok (.sipush 1089, 3) := by decide +kernel
theorem dX7_served_33 : decode cX7_served 33 = .ok (.iaload, 1) := by decide +kernel
theorem dX7_served_34 : decode cX7_served 34 = .ok (.if_icmp .lt 10, 3) := by decide +kernel
theorem dX7_served_37 : decode cX7_served 37 = .ok (.aload_n 0, 1) := by decide +kernel
theorem dX7_served_38 : decode cX7_served 38 = .ok (.ldc 121, 2) := by decide +kernel
theorem dX7_served_40 : decode cX7_served 40 = .ok (.invokevirtual 63, 3) := by decide +kernel
theorem dX7_served_43 : decode cX7_served 43 = .ok (.ireturn, 1) := by decide +kernel
theorem dX7_served_44 : decode cX7_served 44 = .ok (.iload_n 2, 1) := by decide +kernel
theorem dX7_served_45 : decode cX7_served 45 = .ok (.ifCond .eq 19, 3) := by decide +kernel
theorem dX7_served_48 : decode cX7_served 48 = .ok (.aload_n 0, 1) := by decide +kernel
theorem dX7_served_49 : decode cX7_served 49 = .ok (.iload_n 1, 1) := by decide +kernel
theorem dX7_served_50 : decode cX7_served 50 = .ok (.iconst 2, 1) := by decide +kernel
theorem dX7_served_51 : decode cX7_served 51 = .ok (.invokevirtual 132, 3) := by decide +kernel
theorem dX7_served_54 : decode cX7_served 54 = .ok (.aload_n 0, 1) := by decide +kernel
theorem dX7_served_55 : decode cX7_served 55 = .ok (.iload_n 1, 1) := by decide +kernel
theorem dX7_served_56 : decode cX7_served 56 = .ok (.iconst 3, 1) := by decide +kernel
theorem dX7_served_57 : decode cX7_served 57 = .ok (.invokevirtual 132, 3) := by decide +kernel
theorem dX7_served_60 : decode cX7_served 60 = .ok (.isub, 1) := by decide +kernel
theorem dX7_served_61 : decode cX7_served 61 = .ok (.goto 9, 3) := by decide +kernel
theorem dX7_served_64 : decode cX7_served 64 = .ok (.aload_n 0, 1) := by decide +kernel
theorem dX7_served_65 : decode cX7_served 65 = .ok (.iload_n 1, 1) := by decide +kernel
theorem dX7_served_66 : decode cX7_served 66 = .ok (.iconst 3, 1) := by decide +kernel
theorem dX7_served_67 : decode cX7_served 67 = .ok (.invokevirtual 132, 3) := by decide +kernel
theorem dX7_served_70 : decode cX7_served 70 = .ok (.ireturn, 1) := by decide +kernel
theorem dX7_hold_0 : decode cX7_hold 0 = .ok (.aload_n 0, 1) := by decide +kernel
theorem dX7_hold_1 : decode cX7_hold 1 = .ok (.iload_n 1, 1) := by decide +kernel
theorem dX7_hold_2 : decode cX7_hold 2 = .ok (.invokevirtual 68, 3) := by decide +kernel
theorem dX7_hold_5 : decode cX7_hold 5 = .ok (.ifCond .eq 17, 3) := by decide +kernel
theorem dX7_hold_8 : decode cX7_hold 8 = .ok (.iload_n 2, 1) := by decide +kernel
theorem dX7_hold_9 : decode cX7_hold 9 = .ok (.invokestatic 98, 3) := by decide +kernel
theorem dX7_hold_12 : decode cX7_hold 12 = .ok (.ifCond .eq 10, 3) := by decide +kernel
theorem dX7_hold_15 : decode cX7_hold 15 = .ok (.iload_n 3, 1) := by decide +kernel
theorem dX7_hold_16 : decode cX7_hold 16 = .ok (.invokestatic 58, 3) := by decide +kernel
theorem dX7_hold_19 : decode cX7_hold 19 = .ok (.ifCond .ne 10, 3) := by decide +kernel
theorem dX7_hold_22 : decode cX7_hold 22 = .ok (.aload_n 0, 1) := by decide +kernel
theorem dX7_hold_23 : decode cX7_hold 23 = .ok (.ldc 62, 2) := by decide +kernel
theorem dX7_hold_25 : decode cX7_hold 25 = .ok (.invokevirtual 63, 3) := by decide +kernel
theorem dX7_hold_28 : decode cX7_hold 28 = .ok (.ireturn, 1) := by decide +kernel
theorem dX7_hold_29 : decode cX7_hold 29 = .ok (.aload_n 0, 1) := by decide +kernel
theorem dX7_hold_30 : decode cX7_hold 30 = .ok (.iload_n 1, 1) := by decide +kernel
theorem dX7_hold_31 : decode cX7_hold 31 = .ok (.invokevirtual 71, 3) := by decide +kernel
theorem dX7_hold_34 : decode cX7_hold 34 = .ok (.iconst 4, 1) := by decide +kernel
theorem dX7_hold_35 : decode cX7_hold 35 = .ok (.if_icmp .eq 10, 3) := by decide +kernel
theorem dX7_hold_38 : decode cX7_hold 38 = .ok (.aload_n 0, 1) := by decide +kernel
theorem dX7_hold_39 : decode cX7_hold 39 = .ok (.ldc 74, 2) := by decide +kernel
theorem dX7_hold_41 : decode cX7_hold 41 = .ok (.invokevirtual 63, 3) := by decide +kernel
theorem dX7_hold_44 : decode cX7_hold 44 = .ok (.ireturn, 1) := by decide +kernel
theorem dX7_hold_45 : decode cX7_hold 45 = .ok (.bipush 50, 2) := by decide +kernel
theorem dX7_hold_47 : decode cX7_hold 47 = .ok (.bipush 24, 2) := by decide +kernel
theorem dX7_hold_49 : decode cX7_hold 49 = .ok (.iload_n 1, 1) := by decide +kernel
theorem dX7_hold_50 : decode cX7_hold 50 = .ok (.imul, 1) := by decide +kernel
theorem dX7_hold_51 : decode cX7_hold 51 = .ok (.iadd, 1) := by decide +kernel
theorem dX7_hold_52 : decode cX7_hold 52 = .ok (.iload_n 2, 1) := by decide +kernel
theorem dX7_hold_53 : decode cX7_hold 53 = .ok (.iadd, 1) := by decide +kernel
theorem dX7_hold_54 : decode cX7_hold 54 = .ok (.istore 4, 2) := by decide +kernel
theorem dX7_hold_56 : decode cX7_hold 56 = .ok (.aload_n 0, 1) := by decide +kernel
theorem dX7_hold_57 : decode cX7_hold 57 = .ok (.getfield 7, 3) := by decide +kernel
theorem dX7_hold_60 : decode cX7_hold 60 = .ok (.iload 4, 2) := by decide +kernel
theorem dX7_hold_62 : decode cX7_hold 62 = .ok (.iaload, 1) := by decide +kernel
theorem dX7_hold_63 : decode cX7_hold 63 = .ok (.istore 5, 2) := by decide +kernel
theorem dX7_hold_65 : decode cX7_hold 65 = .ok (.iconst 0, 1) := by decide +kernel
theorem dX7_hold_66 : decode cX7_hold 66 = .ok (.istore 6, 2) := by decide +kernel
theorem dX7_hold_68 : decode cX7_hold 68 = .ok (.iload 6, 2) := by decide +kernel
theorem dX7_hold_70 : decode cX7_hold 70 = .ok (.sipush 1000, 3) := by decide +kernel
theorem dX7_hold_73 : decode cX7_hold 73 = .ok (.if_icmp .gt 31, 3) := by decide +kernel
theorem dX7_hold_76 : decode cX7_hold 76 = .ok (.aload_n 0, 1) := by decide +kernel
theorem dX7_hold_77 : decode cX7_hold 77 = .ok (.getfield 7, 3) := by decide +kernel
theorem dX7_hold_80 : decode cX7_hold 80 = .ok (.iload 4, 2) := by decide +kernel
theorem dX7_hold_82 : decode cX7_hold 82 = .ok (.iload 6, 2) := by decide +kernel
theorem dX7_hold_84 : decode cX7_hold 84 = .ok (.iastore, 1) := by decide +kernel
theorem dX7_hold_85 : decode cX7_hold 85 = .ok (.aload_n 0, 1) := by decide +kernel
theorem dX7_hold_86 : decode cX7_hold 86 = .ok (.iload_n 1, 1) := by decide +kernel
theorem dX7_hold_87 : decode cX7_hold 87 = .ok (.iload_n 2, 1) := by decide +kernel
theorem dX7_hold_88 : decode cX7_hold 88 = .ok (.invokevirtual 118, 3) := by decide +kernel
theorem dX7_hold_91 : decode cX7_hold 91 = .ok (.iload_n 3, 1) := by decide +kernel
theorem dX7_hold_92 : decode cX7_hold 92 = .ok (.if_icmp .lt 6, 3) := by decide +kernel
theorem dX7_hold_95 : decode cX7_hold 95 = .ok (.iload 6, 2) := by decide +kernel
theorem dX7_hold_97 : decode cX7_hold 97 = .ok (.ireturn, 1) := by decide +kernel
theorem dX7_hold_98 : decode cX7_hold 98 = .ok (.iinc 6 1, 3) := by decide +kernel
theorem dX7_hold_101 : decode cX7_hold 101 = .ok (.goto (-33), 3) := by decide +kernel
theorem dX7_hold_104 : decode cX7_hold 104 = .ok (.aload_n 0, 1) := by decide +kernel
theorem dX7_hold_105 : decode cX7_hold 105 = .ok (.getfield 7, 3) := by decide +kernel
theorem dX7_hold_108 : decode cX7_hold 108 = .ok (.iload 4, 2) := by decide +kernel
theorem dX7_hold_110 : decode cX7_hold 110 = .ok (.iload 5, 2) := by decide +kernel
theorem dX7_hold_112 : decode cX7_hold 112 = .ok (.iastore, 1) := by decide +kernel
theorem dX7_hold_113 : decode cX7_hold 113 = .ok (.aload_n 0, 1) := by decide +kernel
theorem dX7_hold_114 : decode cX7_hold 114 = .ok (.ldc 121, 2) := by decide +kernel
theorem dX7_hold_116 : decode cX7_hold 116 = .ok (.invokevirtual 63, 3) := by decide +kernel
theorem dX7_hold_119 : decode cX7_hold 119 = .ok (.ireturn, 1) := by decide +kernel
theorem dX7_move_0 : decode cX7_move 0 = .ok (.aload_n 0, 1) := by decide +kernel
theorem dX7_move_1 : decode cX7_move 1 = .ok (.iload_n 1, 1) := by decide +kernel
theorem dX7_move_2 : decode cX7_move 2 = .ok (.invokevirtual 68, 3) := by decide +kernel
theorem dX7_move_5 : decode cX7_move 5 = .ok (.ifCond .eq 23, 3) := by decide +kernel
theorem dX7_move_8 : decode cX7_move 8 = .ok (.aload_n 0, 1) := by decide +kernel
theorem dX7_move_9 : decode cX7_move 9 = .ok (.iload_n 3, 1) := by decide +kernel
theorem dX7_move_10 : decode cX7_move 10 = .ok (.invokevirtual 68, 3) := by decide +kernel
theorem dX7_move_13 : decode cX7_move 13 = .ok (.ifCond .eq 15, 3) := by decide +kernel
theorem dX7_move_16 : decode cX7_move 16 = .ok (.iload_n 1, 1) := by decide +kernel
theorem dX7_move_17 : decode cX7_move 17 = .ok (.iload_n 3, 1) := by decide +kernel
theorem dX7_move_18 : decode cX7_move 18 = .ok (.if_icmp .eq 10, 3) := by decide +kernel
theorem dX7_move_21 : decode cX7_move 21 = .ok (.iload_n 2, 1) := by decide +kernel
theorem dX7_move_22 : decode cX7_move 22 = .ok (.invokestatic 98, 3) := by decide +kernel
theorem dX7_move_25 : decode cX7_move 25 = .ok (.ifCond .ne 10, 3) := by decide +kernel
theorem dX7_move_28 : decode cX7_move 28 = .ok (.aload_n 0, 1) := by decide +kernel
theorem dX7_move_29 : decode cX7_move 29 = .ok (.ldc 62, 2) := by decide +kernel
theorem dX7_move_31 : decode cX7_move 31 = .ok (.invokevirtual 63, 3) := by decide +kernel
theorem dX7_move_34 : decode cX7_move 34 = .ok (.ireturn, 1) := by decide +kernel
theorem dX7_move_35 : decode cX7_move 35 = .ok (.aload_n 0, 1) := by decide +kernel
theorem dX7_move_36 : decode cX7_move 36 = .ok (.iload_n 1, 1) := by decide +kernel
theorem dX7_move_37 : decode cX7_move 37 = .ok (.invokevirtual 71, 3) := by decide +kernel
theorem dX7_move_40 : decode cX7_move 40 = .ok (.iconst 2, 1) := by decide +kernel
theorem dX7_move_41 : decode cX7_move 41 = .ok (.if_icmp .gt 12, 3) := by decide +kernel
theorem dX7_move_44 : decode cX7_move 44 = .ok (.aload_n 0, 1) := by decide +kernel
theorem dX7_move_45 : decode cX7_move 45 = .ok (.iload_n 3, 1) := by decide +kernel
theorem dX7_move_46 : decode cX7_move 46 = .ok (.invokevirtual 71, 3) := by decide +kernel
theorem dX7_move_49 : decode cX7_move 49 = .ok (.iconst 2, 1) := by decide +kernel
theorem dX7_move_50 : decode cX7_move 50 = .ok (.if_icmp .le 10, 3) := by decide +kernel
theorem dX7_move_53 : decode cX7_move 53 = .ok (.aload_n 0, 1) := by decide +kernel
theorem dX7_move_54 : decode cX7_move 54 = .ok (.ldc 74, 2) := by decide +kernel
theorem dX7_move_56 : decode cX7_move 56 = .ok (.invokevirtual 63, 3) := by decide +kernel
theorem dX7_move_59 : decode cX7_move 59 = .ok (.ireturn, 1) := by decide +kernel
theorem dX7_move_60 : decode cX7_move 60 = .ok (.aload_n 0, 1) := by decide +kernel
theorem dX7_move_61 : decode cX7_move 61 = .ok (.iload_n 1, 1) := by decide +kernel
theorem dX7_move_62 : decode cX7_move 62 = .ok (.iload_n 2, 1) := by decide +kernel
theorem dX7_move_63 : decode cX7_move 63 = .ok (.invokevirtual 105, 3) := by decide +kernel
theorem dX7_move_66 : decode cX7_move 66 = .ok (.aload_n 0, 1) := by decide +kernel
theorem dX7_move_67 : decode cX7_move 67 = .ok (.iload_n 1, 1) := by decide +kernel
theorem dX7_move_68 : decode cX7_move 68 = .ok (.iload_n 2, 1) := by decide +kernel
theorem dX7_move_69 : decode cX7_move 69 = .ok (.invokevirtual 75, 3) := by decide +kernel
theorem dX7_move_72 : decode cX7_move 72 = .ok (.imul, 1) := by decide +kernel
theorem dX7_move_73 : decode cX7_move 73 = .ok (.istore 4, 2) := by decide +kernel
theorem dX7_move_75 : decode cX7_move 75 = .ok (.aload_n 0, 1) := by decide +kernel
theorem dX7_move_76 : decode cX7_move 76 = .ok (.iload_n 3, 1) := by decide +kernel
theorem dX7_move_77 : decode cX7_move 77 = .ok (.iload_n 2, 1) := by decide +kernel
theorem dX7_move_78 : decode cX7_move 78 = .ok (.invokevirtual 105, 3) := by decide +kernel
theorem dX7_move_81 : decode cX7_move 81 = .ok (.aload_n 0, 1) := by decide +kernel
theorem dX7_move_82 : decode cX7_move 82 = .ok (.iload_n 3, 1) := by decide +kernel
theorem dX7_move_83 : decode cX7_move 83 = .ok (.iload_n 2, 1) := by decide +kernel
theorem dX7_move_84 : decode cX7_move 84 = .ok (.invokevirtual 75, 3) := by decide +kernel
theorem dX7_move_87 : decode cX7_move 87 = .ok (.imul, 1) := by decide +kernel
theorem dX7_move_88 : decode cX7_move 88 = .ok (.istore 5, 2) := by decide +kernel
theorem dX7_move_90 : decode cX7_move 90 = .ok (.sipush 1000, 3) := by decide +kernel
theorem dX7_move_93 : decode cX7_move 93 = .ok (.istore 6, 2) := by decide +kernel
theorem dX7_move_95 : decode cX7_move 95 = .ok (.iload 6, 2) := by decide +kernel
theorem dX7_move_97 : decode cX7_move 97 = .ok (.ifCond .le 36, 3) := by decide +kernel
theorem dX7_move_100 : decode cX7_move 100 = .ok (.aload_n 0, 1) := by decide +kernel
theorem dX7_move_101 : decode cX7_move 101 = .ok (.iload_n 1, 1) := by decide +kernel
theorem dX7_move_102 : decode cX7_move 102 = .ok (.iload_n 3, 1) := by decide +kernel
theorem dX7_move_103 : decode cX7_move 103 = .ok (.bipush 24, 2) := by decide +kernel
theorem dX7_move_105 : decode cX7_move 105 = .ok (.iload_n 2, 1) := by decide +kernel
theorem dX7_move_106 : decode cX7_move 106 = .ok (.isub, 1) := by decide +kernel
theorem dX7_move_107 : decode cX7_move 107 = .ok (.aload_n 0, 1) := by decide +kernel
theorem dX7_move_108 : decode cX7_move 108 = .ok (.iload_n 1, 1) := by decide +kernel
theorem dX7_move_109 : decode cX7_move 109 = .ok (.iload_n 2, 1) := by decide +kernel
theorem dX7_move_110 : decode cX7_move 110 = .ok (.invokevirtual 105, 3) := by decide +kernel
theorem dX7_move_113 : decode cX7_move 113 = .ok (.iload 6, 2) := by decide +kernel
theorem dX7_move_115 : decode cX7_move 115 = .ok (.imul, 1) := by decide +kernel
theorem dX7_move_116 : decode cX7_move 116 = .ok (.iload 4, 2) := by decide +kernel
theorem dX7_move_118 : decode cX7_move 118 = .ok (.isub, 1) := by decide +kernel
theorem dX7_move_119 : decode cX7_move 119 = .ok (.iload 5, 2) := by decide +kernel
theorem dX7_move_121 : decode cX7_move 121 = .ok (.invokevirtual 135, 3) := by decide +kernel
theorem dX7_move_124 : decode cX7_move 124 = .ok (.ifCond .ne 9, 3) := by decide +kernel
theorem dX7_move_127 : decode cX7_move 127 = .ok (.iinc 6 (-1), 3) := by decide +kernel
theorem dX7_move_130 : decode cX7_move 130 = .ok (.goto (-35), 3) := by decide +kernel
theorem dX7_move_133 : decode cX7_move 133 = .ok (.aload_n 0, 1) := by decide +kernel
theorem dX7_move_134 : decode cX7_move 134 = .ok (.getfield 7, 3) := by decide +kernel
theorem dX7_move_137 : decode cX7_move 137 = .ok (.bipush 50, 2) := by decide +kernel
theorem dX7_move_139 : decode cX7_move 139 = .ok (.bipush 24, 2) := by decide +kernel
theorem dX7_move_141 : decode cX7_move 141 = .ok (.iload_n 1, 1) := by decide +kernel
theorem dX7_move_142 : decode cX7_move 142 = .ok (.imul, 1) := by decide +kernel
theorem dX7_move_143 : decode cX7_move 143 = .ok (.iadd, 1) := by decide +kernel
theorem dX7_move_144 : decode cX7_move 144 = .ok (.iload_n 2, 1) := by decide +kernel
theorem dX7_move_145 : decode cX7_move 145 = .ok (.iadd, 1) := by decide +kernel
theorem dX7_move_146 : decode cX7_move 146 = .ok (.iload 6, 2) := by decide +kernel
theorem dX7_move_148 : decode cX7_move 148 = .ok (.iastore, 1) := by decide +kernel
theorem dX7_move_149 : decode cX7_move 149 = .ok (.aload_n 0, 1) := by decide +kernel
theorem dX7_move_150 : decode cX7_move 150 = .ok (.getfield 7, 3) := by decide +kernel
theorem dX7_move_153 : decode cX7_move 153 = .ok (.bipush 50, 2) := by decide +kernel
theorem dX7_move_155 : decode cX7_move 155 = .ok (.bipush 24, 2) := by decide +kernel
theorem dX7_move_157 : decode cX7_move 157 = .ok (.iload_n 3, 1) := by decide +kernel
theorem dX7_move_158 : decode cX7_move 158 = .ok (.imul, 1) := by decide +kernel
theorem dX7_move_159 : decode cX7_move 159 = .ok (.iadd, 1) := by decide +kernel
theorem dX7_move_160 : decode cX7_move 160 = .ok (.iload_n 2, 1) := by decide +kernel
theorem dX7_move_161 : decode cX7_move 161 = .ok (.iadd, 1) := by decide +kernel
theorem dX7_move_162 : decode cX7_move 162 = .ok (.iconst 0, 1) := by decide +kernel
theorem dX7_move_163 : decode cX7_move 163 = .ok (.iastore, 1) := by decide +kernel
theorem dX7_move_164 : decode cX7_move 164 = .ok (.iload 6, 2) := by decide +kernel
theorem dX7_move_166 : decode cX7_move 166 = .ok (.ireturn, 1) := by decide +kernel
theorem dX7_mayMove_0 : decode cX7_mayMove 0 = .ok (.iconst 0, 1) := by decide +kernel
theorem dX7_mayMove_1 : decode cX7_mayMove 1 = .ok (.istore 6, 2) := by decide +kernel
theorem dX7_mayMove_3 : decode cX7_mayMove 3 = .ok (.iload 6, 2) := by decide +kernel
theorem dX7_mayMove_5 : decode cX7_mayMove 5 = .ok (.aload_n 0, 1) := by decide +kernel
theorem dX7_mayMove_6 : decode cX7_mayMove 6 = .ok (.invokevirtual 44, 3) := by decide +kernel
theorem dX7_mayMove_9 : decode cX7_mayMove 9 = .ok (.if_icmp .ge 53, 3) := by decide +kernel
theorem dX7_mayMove_12 : decode cX7_mayMove 12 = .ok (.iconst 0, 1) := by decide +kernel
theorem dX7_mayMove_13 : decode cX7_mayMove 13 = .ok (.istore 7, 2) := by decide +kernel
theorem dX7_mayMove_15 : decode cX7_mayMove 15 = .ok (.iload 7, 2) := by decide +kernel
theorem dX7_mayMove_17 : decode cX7_mayMove 17 = .ok (.iload_n 3, 1) := by decide +kernel
theorem dX7_mayMove_18 : decode cX7_mayMove 18 = .ok (.if_icmp .ge 38, 3) := by decide +kernel
theorem dX7_mayMove_21 : decode cX7_mayMove 21 = .ok (.iload 4, 2) := by decide +kernel
theorem dX7_mayMove_23 : decode cX7_mayMove 23 = .ok (.aload_n 0, 1) := by decide +kernel
theorem dX7_mayMove_24 : decode cX7_mayMove 24 = .ok (.iload 6, 2) := by decide +kernel
theorem dX7_mayMove_26 : decode cX7_mayMove 26 = .ok (.iload_n 1, 1) := by decide +kernel
theorem dX7_mayMove_27 : decode cX7_mayMove 27 = .ok (.iload 7, 2) := by decide +kernel
theorem dX7_mayMove_29 : decode cX7_mayMove 29 = .ok (.invokevirtual 108, 3) := by decide +kernel
theorem dX7_mayMove_32 : decode cX7_mayMove 32 = .ok (.imul, 1) := by decide +kernel
theorem dX7_mayMove_33 : decode cX7_mayMove 33 = .ok (.iload 5, 2) := by decide +kernel
theorem dX7_mayMove_35 : decode cX7_mayMove 35 = .ok (.aload_n 0, 1) := by decide +kernel
theorem dX7_mayMove_36 : decode cX7_mayMove 36 = .ok (.iload 6, 2) := by decide +kernel
theorem dX7_mayMove_38 : decode cX7_mayMove 38 = .ok (.iload_n 2, 1) := by decide +kernel
theorem dX7_mayMove_39 : decode cX7_mayMove 39 = .ok (.iload 7, 2) := by decide +kernel
theorem dX7_mayMove_41 : decode cX7_mayMove 41 = .ok (.invokevirtual 108, 3) := by decide +kernel
theorem dX7_mayMove_44 : decode cX7_mayMove 44 = .ok (.imul, 1) := by decide +kernel
theorem dX7_mayMove_45 : decode cX7_mayMove 45 = .ok (.if_icmp .le 5, 3) := by decide +kernel
theorem dX7_mayMove_48 : decode cX7_mayMove 48 = .ok (.iconst 0, 1) := by decide +kernel
theorem dX7_mayMove_49 : decode cX7_mayMove 49 = .ok (.ireturn, 1) := by decide +kernel
theorem dX7_mayMove_50 : decode cX7_mayMove 50 = .ok (.iinc 7 1, 3) := by decide +kernel
theorem dX7_mayMove_53 : decode cX7_mayMove 53 = .ok (.goto (-38), 3) := by decide +kernel
theorem dX7_mayMove_56 : decode cX7_mayMove 56 = .ok (.iinc 6 1, 3) := by decide +kernel
theorem dX7_mayMove_59 : decode cX7_mayMove 59 = .ok (.goto (-56), 3) := by decide +kernel
theorem dX7_mayMove_62 : decode cX7_mayMove 62 = .ok (.iconst 1, 1) := by decide +kernel
theorem dX7_mayMove_63 : decode cX7_mayMove 63 = .ok (.ireturn, 1) := by decide +kernel
theorem dX7_reading_0 : decode cX7_reading 0 = .ok (.sipush 606, 3) := by decide +kernel
theorem dX7_reading_3 : decode cX7_reading 3 = .ok (.iconst 2, 1) := by decide +kernel
theorem dX7_reading_4 : decode cX7_reading 4 = .ok (.bipush 24, 2) := by decide +kernel
theorem dX7_reading_6 : decode cX7_reading 6 = .ok (.iload_n 1, 1) := by decide +kernel
theorem dX7_reading_7 : decode cX7_reading 7 = .ok (.imul, 1) := by decide +kernel
theorem dX7_reading_8 : decode cX7_reading 8 = .ok (.iload_n 2, 1) := by decide +kernel
theorem dX7_reading_9 : decode cX7_reading 9 = .ok (.iadd, 1) := by decide +kernel
theorem dX7_reading_10 : decode cX7_reading 10 = .ok (.imul, 1) := by decide +kernel
theorem dX7_reading_11 : decode cX7_reading 11 = .ok (.iadd, 1) := by decide +kernel
theorem dX7_reading_12 : decode cX7_reading 12 = .ok (.ireturn, 1) := by decide +kernel
theorem dX7_read_0 : decode cX7_read 0 = .ok (.aload_n 0, 1) := by decide +kernel
theorem dX7_read_1 : decode cX7_read 1 = .ok (.iload_n 1, 1) := by decide +kernel
theorem dX7_read_2 : decode cX7_read 2 = .ok (.invokevirtual 68, 3) := by decide +kernel
theorem dX7_read_5 : decode cX7_read 5 = .ok (.ifCond .eq 21, 3) := by decide +kernel
theorem dX7_read_8 : decode cX7_read 8 = .ok (.iload_n 2, 1) := by decide +kernel
theorem dX7_read_9 : decode cX7_read 9 = .ok (.invokestatic 98, 3) := by decide +kernel
theorem dX7_read_12 : decode cX7_read 12 = .ok (.ifCond .eq 14, 3) := by decide +kernel
theorem dX7_read_15 : decode cX7_read 15 = .ok (.iload_n 3, 1) := by decide +kernel
theorem dX7_read_16 : decode cX7_read 16 = .ok (.ldc 139, 2) := by decide +kernel
theorem dX7_read_18 : decode cX7_read 18 = .ok (.ldc 140, 2) := by decide +kernel
theorem dX7_read_20 : decode cX7_read 20 = .ok (.invokestatic 48, 3) := by decide +kernel
theorem dX7_read_23 : decode cX7_read 23 = .ok (.ifCond .ne 10, 3) := by decide +kernel
theorem dX7_read_26 : decode cX7_read 26 = .ok (.aload_n 0, 1) := by decide +kernel
theorem dX7_read_27 : decode cX7_read 27 = .ok (.ldc 62, 2) := by decide +kernel
theorem dX7_read_29 : decode cX7_read 29 = .ok (.invokevirtual 63, 3) := by decide +kernel
theorem dX7_read_32 : decode cX7_read 32 = .ok (.ireturn, 1) := by decide +kernel
theorem dX7_read_33 : decode cX7_read 33 = .ok (.aload_n 0, 1) := by decide +kernel
theorem dX7_read_34 : decode cX7_read 34 = .ok (.iload_n 1, 1) := by decide +kernel
theorem dX7_read_35 : decode cX7_read 35 = .ok (.iload_n 2, 1) := by decide +kernel
theorem dX7_read_36 : decode cX7_read 36 = .ok (.invokevirtual 141, 3) := by decide +kernel
theorem dX7_read_39 : decode cX7_read 39 = .ok (.istore 4, 2) := by decide +kernel
theorem dX7_read_41 : decode cX7_read 41 = .ok (.aload_n 0, 1) := by decide +kernel
theorem dX7_read_42 : decode cX7_read 42 = .ok (.getfield 7, 3) := by decide +kernel
theorem dX7_read_45 : decode cX7_read 45 = .ok (.iload 4, 2) := by decide +kernel
theorem dX7_read_47 : decode cX7_read 47 = .ok (.iaload, 1) := by decide +kernel
theorem dX7_read_48 : decode cX7_read 48 = .ok (.ifCond .ne 23, 3) := by decide +kernel
theorem dX7_read_51 : decode cX7_read 51 = .ok (.aload_n 0, 1) := by decide +kernel
theorem dX7_read_52 : decode cX7_read 52 = .ok (.getfield 7, 3) := by decide +kernel
theorem dX7_read_55 : decode cX7_read 55 = .ok (.sipush 1088, 3) := by decide +kernel
theorem dX7_read_58 : decode cX7_read 58 = .ok (.iaload, 1) := by decide +kernel
theorem dX7_read_59 : decode cX7_read 59 = .ok (.bipush 40, 2) := by decide +kernel
theorem dX7_read_61 : decode cX7_read 61 = .ok (.if_icmp .ne 10, 3) := by decide +kernel
theorem dX7_read_64 : decode cX7_read 64 = .ok (.aload_n 0, 1) := by decide +kernel
theorem dX7_read_65 : decode cX7_read 65 = .ok (.ldc 67, 2) := by decide +kernel
theorem dX7_read_67 : decode cX7_read 67 = .ok (.invokevirtual 63, 3) := by decide +kernel
theorem dX7_read_70 : decode cX7_read 70 = .ok (.ireturn, 1) := by decide +kernel
theorem dX7_read_71 : decode cX7_read 71 = .ok (.aload_n 0, 1) := by decide +kernel
theorem dX7_read_72 : decode cX7_read 72 = .ok (.getfield 7, 3) := by decide +kernel
theorem dX7_read_75 : decode cX7_read 75 = .ok (.sipush 1088, 3) := by decide +kernel
theorem dX7_read_78 : decode cX7_read 78 = .ok (.dup2, 1) := by decide +kernel
theorem dX7_read_79 : decode cX7_read 79 = .ok (.iaload, 1) := by decide +kernel
theorem dX7_read_80 : decode cX7_read 80 = .ok (.iconst 1, 1) := by decide +kernel
theorem dX7_read_81 : decode cX7_read 81 = .ok (.aload_n 0, 1) := by decide +kernel
theorem dX7_read_82 : decode cX7_read 82 = .ok (.getfield 7, 3) := by decide +kernel
theorem dX7_read_85 : decode cX7_read 85 = .ok (.iload 4, 2) := by decide +kernel
theorem dX7_read_87 : decode cX7_read 87 = .ok (.iaload, 1) := by decide +kernel
theorem dX7_read_88 : decode cX7_read 88 = .ok (.isub, 1) := by decide +kernel
theorem dX7_read_89 : decode cX7_read 89 = .ok (.iadd, 1) := by decide +kernel
theorem dX7_read_90 : decode cX7_read 90 = .ok (.iastore, 1) := by decide +kernel
theorem dX7_read_91 : decode cX7_read 91 = .ok (.aload_n 0, 1) := by decide +kernel
theorem dX7_read_92 : decode cX7_read 92 = .ok (.getfield 7, 3) := by decide +kernel
theorem dX7_read_95 : decode cX7_read 95 = .ok (.iload 4, 2) := by decide +kernel
theorem dX7_read_97 : decode cX7_read 97 = .ok (.iconst 1, 1) := by decide +kernel
theorem dX7_read_98 : decode cX7_read 98 = .ok (.iastore, 1) := by decide +kernel
theorem dX7_read_99 : decode cX7_read 99 = .ok (.aload_n 0, 1) := by decide +kernel
theorem dX7_read_100 : decode cX7_read 100 = .ok (.getfield 7, 3) := by decide +kernel
theorem dX7_read_103 : decode cX7_read 103 = .ok (.iload 4, 2) := by decide +kernel
theorem dX7_read_105 : decode cX7_read 105 = .ok (.iconst 1, 1) := by decide +kernel
theorem dX7_read_106 : decode cX7_read 106 = .ok (.iadd, 1) := by decide +kernel
theorem dX7_read_107 : decode cX7_read 107 = .ok (.iload_n 3, 1) := by decide +kernel
theorem dX7_read_108 : decode cX7_read 108 = .ok (.iastore, 1) := by decide +kernel
theorem dX7_read_109 : decode cX7_read 109 = .ok (.aload_n 0, 1) := by decide +kernel
theorem dX7_read_110 : decode cX7_read 110 = .ok (.getfield 7, 3) := by decide +kernel
theorem dX7_read_113 : decode cX7_read 113 = .ok (.sipush 1088, 3) := by decide +kernel
theorem dX7_read_116 : decode cX7_read 116 = .ok (.iaload, 1) := by decide +kernel
theorem dX7_read_117 : decode cX7_read 117 = .ok (.ireturn, 1) := by decide +kernel
theorem dX7_differ_0 : decode cX7_differ 0 = .ok (.aload_n 0, 1) := by decide +kernel
theorem dX7_differ_1 : decode cX7_differ 1 = .ok (.iload_n 1, 1) := by decide +kernel
theorem dX7_differ_2 : decode cX7_differ 2 = .ok (.invokevirtual 68, 3) := by decide +kernel
theorem dX7_differ_5 : decode cX7_differ 5 = .ok (.ifCond .eq 10, 3) := by decide +kernel
theorem dX7_differ_8 : decode cX7_differ 8 = .ok (.iload_n 2, 1) := by decide +kernel
theorem dX7_differ_9 : decode cX7_differ 9 = .ok (.invokestatic 98, 3) := by decide +kernel
theorem dX7_differ_12 : decode cX7_differ 12 = .ok (.ifCond .ne 10, 3) := by decide +kernel
theorem dX7_differ_15 : decode cX7_differ 15 = .ok (.aload_n 0, 1) := by decide +kernel
theorem dX7_differ_16 : decode cX7_differ 16 = .ok (.ldc 62, 2) := by decide +kernel
theorem dX7_differ_18 : decode cX7_differ 18 = .ok (.invokevirtual 63, 3) := by decide +kernel
theorem dX7_differ_21 : decode cX7_differ 21 = .ok (.ireturn, 1) := by decide +kernel
theorem dX7_differ_22 : decode cX7_differ 22 = .ok (.aload_n 0, 1) := by decide +kernel
theorem dX7_differ_23 : decode cX7_differ 23 = .ok (.iload_n 1, 1) := by decide +kernel
theorem dX7_differ_24 : decode cX7_differ 24 = .ok (.iload_n 2, 1) := by decide +kernel
theorem dX7_differ_25 : decode cX7_differ 25 = .ok (.invokevirtual 141, 3) := by decide +kernel
theorem dX7_differ_28 : decode cX7_differ 28 = .ok (.istore_n 3, 1) := by decide +kernel
theorem dX7_differ_29 : decode cX7_differ 29 = .ok (.aload_n 0, 1) := by decide +kernel
theorem dX7_differ_30 : decode cX7_differ 30 = .ok (.getfield 7, 3) := by decide +kernel
theorem dX7_differ_33 : decode cX7_differ 33 = .ok (.iload_n 3, 1) := by decide +kernel
theorem dX7_differ_34 : decode cX7_differ 34 = .ok (.iaload, 1) := by decide +kernel
theorem dX7_differ_35 : decode cX7_differ 35 = .ok (.ifCond .ne 12, 3) := by decide +kernel
theorem dX7_differ_38 : decode cX7_differ 38 = .ok (.aload_n 0, 1) := by decide +kernel
theorem dX7_differ_39 : decode cX7_differ 39 = .ok (.ldc 121, 2) := by decide +kernel
theorem dX7_differ_41 : decode cX7_differ 41 = .ok (.invokevirtual 63, 3) := by decide +kernel
theorem dX7_differ_44 : decode cX7_differ 44 = .ok (.goto 18, 3) := by decide +kernel
theorem dX7_differ_47 : decode cX7_differ 47 = .ok (.aload_n 0, 1) := by decide +kernel
theorem dX7_differ_48 : decode cX7_differ 48 = .ok (.getfield 7, 3) := by decide +kernel
theorem dX7_differ_51 : decode cX7_differ 51 = .ok (.iload_n 3, 1) := by decide +kernel
theorem dX7_differ_52 : decode cX7_differ 52 = .ok (.iconst 1, 1) := by decide +kernel
theorem dX7_differ_53 : decode cX7_differ 53 = .ok (.iadd, 1) := by decide +kernel
theorem dX7_differ_54 : decode cX7_differ 54 = .ok (.iaload, 1) := by decide +kernel
theorem dX7_differ_55 : decode cX7_differ 55 = .ok (.aload_n 0, 1) := by decide +kernel
theorem dX7_differ_56 : decode cX7_differ 56 = .ok (.iload_n 1, 1) := by decide +kernel
theorem dX7_differ_57 : decode cX7_differ 57 = .ok (.iload_n 2, 1) := by decide +kernel
theorem dX7_differ_58 : decode cX7_differ 58 = .ok (.invokevirtual 118, 3) := by decide +kernel
theorem dX7_differ_61 : decode cX7_differ 61 = .ok (.isub, 1) := by decide +kernel
theorem dX7_differ_62 : decode cX7_differ 62 = .ok (.ireturn, 1) := by decide +kernel
theorem dX7_squaresNow_0 : decode cX7_squaresNow 0 = .ok (.lconst 0, 1) := by decide +kernel
theorem dX7_squaresNow_1 : decode cX7_squaresNow 1 = .ok (.lstore_n 1, 1) := by decide +kernel
theorem dX7_squaresNow_2 : decode cX7_squaresNow 2 = .ok (.iconst 0, 1) := by decide +kernel
theorem dX7_squaresNow_3 : decode cX7_squaresNow 3 = .ok (.istore_n 3, 1) := by decide +kernel
theorem dX7_squaresNow_4 : decode cX7_squaresNow 4 = .ok (.iload_n 3, 1) := by decide +kernel
theorem dX7_squaresNow_5 : decode cX7_squaresNow 5 = .ok (.aload_n 0, 1) := by decide +kernel
theorem dX7_squaresNow_6 : decode cX7_squaresNow 6 = .ok (.invokevirtual 44, 3) := by decide +kernel
theorem dX7_squaresNow_9 : decode cX7_squaresNow 9 = .ok (.if_icmp .ge 75, 3) := by decide +kernel
theorem dX7_squaresNow_12 : decode cX7_squaresNow 12 = .ok (.iconst 0, 1) := by decide +kernel
theorem dX7_squaresNow_13 : decode cX7_squaresNow 13 = .ok (.istore 4, 2) := by decide +kernel
theorem dX7_squaresNow_15 : decode cX7_squaresNow 15 = .ok (.iload 4, 2) := by decide +kernel
theorem dX7_squaresNow_17 : decode cX7_squaresNow 17 = .ok (.bipush 24, 2) := by decide +kernel
theorem dX7_squaresNow_19 : decode cX7_squaresNow 19 = .ok (.if_icmp .ge 59, 3) := by decide +kernel
theorem dX7_squaresNow_22 : decode cX7_squaresNow 22 = .ok (.aload_n 0, 1) := by decide +kernel
theorem dX7_squaresNow_23 : decode cX7_squaresNow 23 = .ok (.iload_n 3, 1) := by decide +kernel
theorem dX7_squaresNow_24 : decode cX7_squaresNow 24 = .ok (.iload 4, 2) := by decide +kernel
theorem dX7_squaresNow_26 : decode cX7_squaresNow 26 = .ok (.invokevirtual 141, 3) := by decide +kernel
theorem dX7_squaresNow_29 : decode cX7_squaresNow 29 = .ok (.istore 5, 2) := by decide +kernel
theorem dX7_squaresNow_31 : decode cX7_squaresNow 31 = .ok (.aload_n 0, 1) := by decide +kernel
theorem dX7_squaresNow_32 : decode cX7_squaresNow 32 = .ok (.getfield 7, 3) := by decide +kernel
theorem dX7_squaresNow_35 : decode cX7_squaresNow 35 = .ok (.iload 5, 2) := by decide +kernel
theorem dX7_squaresNow_37 : decode cX7_squaresNow 37 = .ok (.iaload, 1) := by decide +kernel
theorem dX7_squaresNow_38 : decode cX7_squaresNow 38 = .ok (.ifCond .ne 6, 3) := by decide +kernel
theorem dX7_squaresNow_41 : decode cX7_squaresNow 41 = .ok (.goto 31, 3) := by decide +kernel
theorem dX7_squaresNow_44 : decode cX7_squaresNow 44 = .ok (.aload_n 0, 1) := by decide +kernel
theorem dX7_squaresNow_45 : decode cX7_squaresNow 45 = .ok (.getfield 7, 3) := by decide +kernel
theorem dX7_squaresNow_48 : decode cX7_squaresNow 48 = .ok (.iload 5, 2) := by decide +kernel
theorem dX7_squaresNow_50 : decode cX7_squaresNow 50 = .ok (.iconst 1, 1) := by decide +kernel
theorem dX7_squaresNow_51 : decode cX7_squaresNow 51 = .ok (.iadd, 1) := by decide +kernel
theorem dX7_squaresNow_52 : decode cX7_squaresNow 52 = .ok (.iaload, 1) := by decide +kernel
theorem dX7_squaresNow_53 : decode cX7_squaresNow 53 = .ok (.aload_n 0, 1) := by decide +kernel
theorem dX7_squaresNow_54 : decode cX7_squaresNow 54 = .ok (.iload_n 3, 1) := by decide +kernel
theorem dX7_squaresNow_55 : decode cX7_squaresNow 55 = .ok (.iload 4, 2) := by decide +kernel
theorem dX7_squaresNow_57 : decode cX7_squaresNow 57 = .ok (.invokevirtual 118, 3) := by decide +kernel
theorem dX7_squaresNow_60 : decode cX7_squaresNow 60 = .ok (.isub, 1) := by decide +kernel
theorem dX7_squaresNow_61 : decode cX7_squaresNow 61 = .ok (.i2l, 1) := by decide +kernel
theorem dX7_squaresNow_62 : decode cX7_squaresNow 62 = .ok (.lstore 6, 2) := by decide +kernel
theorem dX7_squaresNow_64 : decode cX7_squaresNow 64 = .ok (.lload_n 1, 1) := by decide +kernel
theorem dX7_squaresNow_65 : decode cX7_squaresNow 65 = .ok (.lload 6, 2) := by decide +kernel
theorem dX7_squaresNow_67 : decode cX7_squaresNow 67 = .ok (.lload 6, 2) := by decide +kernel
theorem dX7_squaresNow_69 : decode cX7_squaresNow 69 = .ok (.lmul, 1) := by decide +kernel
theorem dX7_squaresNow_70 : decode cX7_squaresNow 70 = .ok (.ladd, 1) := by decide +kernel
theorem dX7_squaresNow_71 : decode cX7_squaresNow 71 = .ok (.lstore_n 1, 1) := by decide +kernel
theorem dX7_squaresNow_72 : decode cX7_squaresNow 72 = .ok (.iinc 4 1, 3) := by decide +kernel
theorem dX7_squaresNow_75 : decode cX7_squaresNow 75 = .ok (.goto (-60), 3) := by decide +kernel
theorem dX7_squaresNow_78 : decode cX7_squaresNow 78 = .ok (.iinc 3 1, 3) := by decide +kernel
theorem dX7_squaresNow_81 : decode cX7_squaresNow 81 = .ok (.goto (-77), 3) := by decide +kernel
theorem dX7_squaresNow_84 : decode cX7_squaresNow 84 = .ok (.lload_n 1, 1) := by decide +kernel
theorem dX7_squaresNow_85 : decode cX7_squaresNow 85 = .ok (.lreturn, 1) := by decide +kernel
theorem dX7_times_0 : decode cX7_times 0 = .ok (.iconst 0, 1) := by decide +kernel
theorem dX7_times_1 : decode cX7_times 1 = .ok (.istore 4, 2) := by decide +kernel
theorem dX7_times_3 : decode cX7_times 3 = .ok (.iload 4, 2) := by decide +kernel
theorem dX7_times_5 : decode cX7_times 5 = .ok (.bipush 10, 2) := by decide +kernel
theorem dX7_times_7 : decode cX7_times 7 = .ok (.if_icmp .ge 51, 3) := by decide +kernel
theorem dX7_times_10 : decode cX7_times 10 = .ok (.aload_n 0, 1) := by decide +kernel
theorem dX7_times_11 : decode cX7_times 11 = .ok (.getfield 37, 3) := by decide +kernel
theorem dX7_times_14 : decode cX7_times 14 = .ok (.iload 4, 2) := by decide +kernel
theorem dX7_times_16 : decode cX7_times 16 = .ok (.iaload, 1) := by decide +kernel
theorem dX7_times_17 : decode cX7_times 17 = .ok (.iload_n 3, 1) := by decide +kernel
theorem dX7_times_18 : decode cX7_times 18 = .ok (.imul, 1) := by decide +kernel
theorem dX7_times_19 : decode cX7_times 19 = .ok (.bipush 100, 2) := by decide +kernel
theorem dX7_times_21 : decode cX7_times 21 = .ok (.idiv, 1) := by decide +kernel
theorem dX7_times_22 : decode cX7_times 22 = .ok (.istore 5, 2) := by decide +kernel
theorem dX7_times_24 : decode cX7_times 24 = .ok (.aload_n 0, 1) := by decide +kernel
theorem dX7_times_25 : decode cX7_times 25 = .ok (.getfield 7, 3) := by decide +kernel
theorem dX7_times_28 : decode cX7_times 28 = .ok (.iload_n 1, 1) := by decide +kernel
theorem dX7_times_29 : decode cX7_times 29 = .ok (.iload 4, 2) := by decide +kernel
theorem dX7_times_31 : decode cX7_times 31 = .ok (.iload_n 2, 1) := by decide +kernel
theorem dX7_times_32 : decode cX7_times 32 = .ok (.invokestatic 81, 3) := by decide +kernel
theorem dX7_times_35 : decode cX7_times 35 = .ok (.iload 5, 2) := by decide +kernel
theorem dX7_times_37 : decode cX7_times 37 = .ok (.sipush 1000, 3) := by decide +kernel
theorem dX7_times_40 : decode cX7_times 40 = .ok (.if_icmp .le 9, 3) := by decide +kernel
theorem dX7_times_43 : decode cX7_times 43 = .ok (.sipush 1000, 3) := by decide +kernel
theorem dX7_times_46 : decode cX7_times 46 = .ok (.goto 5, 3) := by decide +kernel
theorem dX7_times_49 : decode cX7_times 49 = .ok (.iload 5, 2) := by decide +kernel
theorem dX7_times_51 : decode cX7_times 51 = .ok (.iastore, 1) := by decide +kernel
theorem dX7_times_52 : decode cX7_times 52 = .ok (.iinc 4 1, 3) := by decide +kernel
theorem dX7_times_55 : decode cX7_times 55 = .ok (.goto (-52), 3) := by decide +kernel
theorem dX7_times_58 : decode cX7_times 58 = .ok (.return_, 1) := by decide +kernel
theorem dX7_fit_0 : decode cX7_fit 0 = .ok (.iload_n 1, 1) := by decide +kernel
theorem dX7_fit_1 : decode cX7_fit 1 = .ok (.iconst 0, 1) := by decide +kernel
theorem dX7_fit_2 : decode cX7_fit 2 = .ok (.iconst 1, 1) := by decide +kernel
theorem dX7_fit_3 : decode cX7_fit 3 = .ok (.invokestatic 48, 3) := by decide +kernel
theorem dX7_fit_6 : decode cX7_fit 6 = .ok (.ifCond .eq 13, 3) := by decide +kernel
theorem dX7_fit_9 : decode cX7_fit 9 = .ok (.iload_n 2, 1) := by decide +kernel
theorem dX7_fit_10 : decode cX7_fit 10 = .ok (.iconst 0, 1) := by decide +kernel
theorem dX7_fit_11 : decode cX7_fit 11 = .ok (.bipush 11, 2) := by decide +kernel
theorem dX7_fit_13 : decode cX7_fit 13 = .ok (.invokestatic 48, 3) := by decide +kernel
theorem dX7_fit_16 : decode cX7_fit 16 = .ok (.ifCond .ne 10, 3) := by decide +kernel
theorem dX7_fit_19 : decode cX7_fit 19 = .ok (.aload_n 0, 1) := by decide +kernel
end
section
theorem dX7_fit_20 : decode cX7_fit 20 = .ok (.ldc 62, 2) := by decide +kernel
theorem dX7_fit_22 : decode cX7_fit 22 = .ok (.invokevirtual 63, 3) := by decide +kernel
theorem dX7_fit_25 : decode cX7_fit 25 = .ok (.ireturn, 1) := by decide +kernel
theorem dX7_fit_26 : decode cX7_fit 26 = .ok (.aload_n 0, 1) := by decide +kernel
theorem dX7_fit_27 : decode cX7_fit 27 = .ok (.getfield 7, 3) := by decide +kernel
theorem dX7_fit_30 : decode cX7_fit 30 = .ok (.sipush 1088, 3) := by decide +kernel
theorem dX7_fit_33 : decode cX7_fit 33 = .ok (.iaload, 1) := by decide +kernel
theorem dX7_fit_34 : decode cX7_fit 34 = .ok (.ifCond .ne 10, 3) := by decide +kernel
theorem dX7_fit_37 : decode cX7_fit 37 = .ok (.aload_n 0, 1) := by decide +kernel
theorem dX7_fit_38 : decode cX7_fit 38 = .ok (.ldc 121, 2) := by decide +kernel
theorem dX7_fit_40 : decode cX7_fit 40 = .ok (.invokevirtual 63, 3) := by decide +kernel
theorem dX7_fit_43 : decode cX7_fit 43 = .ok (.ireturn, 1) := by decide +kernel
theorem dX7_fit_44 : decode cX7_fit 44 = .ok (.iconst 0, 1) := by decide +kernel
theorem dX7_fit_45 : decode cX7_fit 45 = .ok (.istore_n 3, 1) := by decide +kernel
theorem dX7_fit_46 : decode cX7_fit 46 = .ok (.iload_n 3, 1) := by decide +kernel
theorem dX7_fit_47 : decode cX7_fit 47 = .ok (.bipush 10, 2) := by decide +kernel
theorem dX7_fit_49 : decode cX7_fit 49 = .ok (.if_icmp .ge 26, 3) := by decide +kernel
theorem dX7_fit_52 : decode cX7_fit 52 = .ok (.aload_n 0, 1) := by decide +kernel
theorem dX7_fit_53 : decode cX7_fit 53 = .ok (.getfield 37, 3) := by decide +kernel
theorem dX7_fit_56 : decode cX7_fit 56 = .ok (.iload_n 3, 1) := by decide +kernel
theorem dX7_fit_57 : decode cX7_fit 57 = .ok (.aload_n 0, 1) := by decide +kernel
theorem dX7_fit_58 : decode cX7_fit 58 = .ok (.getfield 7, 3) := by decide +kernel
theorem dX7_fit_61 : decode cX7_fit 61 = .ok (.iload_n 1, 1) := by decide +kernel
theorem dX7_fit_62 : decode cX7_fit 62 = .ok (.iload_n 3, 1) := by decide +kernel
theorem dX7_fit_63 : decode cX7_fit 63 = .ok (.iload_n 2, 1) := by decide +kernel
theorem dX7_fit_64 : decode cX7_fit 64 = .ok (.invokestatic 81, 3) := by decide +kernel
theorem dX7_fit_67 : decode cX7_fit 67 = .ok (.iaload, 1) := by decide +kernel
theorem dX7_fit_68 : decode cX7_fit 68 = .ok (.iastore, 1) := by decide +kernel
theorem dX7_fit_69 : decode cX7_fit 69 = .ok (.iinc 3 1, 3) := by decide +kernel
theorem dX7_fit_72 : decode cX7_fit 72 = .ok (.goto (-26), 3) := by decide +kernel
theorem dX7_fit_75 : decode cX7_fit 75 = .ok (.lconst 0, 1) := by decide +kernel
theorem dX7_fit_76 : decode cX7_fit 76 = .ok (.lstore_n 3, 1) := by decide +kernel
theorem dX7_fit_77 : decode cX7_fit 77 = .ok (.iconst 0, 1) := by decide +kernel
theorem dX7_fit_78 : decode cX7_fit 78 = .ok (.istore 5, 2) := by decide +kernel
theorem dX7_fit_80 : decode cX7_fit 80 = .ok (.bipush 50, 2) := by decide +kernel
theorem dX7_fit_82 : decode cX7_fit 82 = .ok (.istore 6, 2) := by decide +kernel
theorem dX7_fit_84 : decode cX7_fit 84 = .ok (.iload 6, 2) := by decide +kernel
theorem dX7_fit_86 : decode cX7_fit 86 = .ok (.sipush 150, 3) := by decide +kernel
theorem dX7_fit_89 : decode cX7_fit 89 = .ok (.if_icmp .gt 45, 3) := by decide +kernel
theorem dX7_fit_92 : decode cX7_fit 92 = .ok (.aload_n 0, 1) := by decide +kernel
theorem dX7_fit_93 : decode cX7_fit 93 = .ok (.iload_n 1, 1) := by decide +kernel
theorem dX7_fit_94 : decode cX7_fit 94 = .ok (.iload_n 2, 1) := by decide +kernel
theorem dX7_fit_95 : decode cX7_fit 95 = .ok (.iload 6, 2) := by decide +kernel
theorem dX7_fit_97 : decode cX7_fit 97 = .ok (.invokevirtual 144, 3) := by decide +kernel
theorem dX7_fit_100 : decode cX7_fit 100 = .ok (.aload_n 0, 1) := by decide +kernel
theorem dX7_fit_101 : decode cX7_fit 101 = .ok (.invokevirtual 148, 3) := by decide +kernel
theorem dX7_fit_104 : decode cX7_fit 104 = .ok (.lstore 7, 2) := by decide +kernel
theorem dX7_fit_106 : decode cX7_fit 106 = .ok (.iload 5, 2) := by decide +kernel
theorem dX7_fit_108 : decode cX7_fit 108 = .ok (.ifCond .eq 13, 3) := by decide +kernel
theorem dX7_fit_111 : decode cX7_fit 111 = .ok (.lload 7, 2) := by decide +kernel
theorem dX7_fit_113 : decode cX7_fit 113 = .ok (.lload_n 3, 1) := by decide +kernel
theorem dX7_fit_114 : decode cX7_fit 114 = .ok (.lcmp, 1) := by decide +kernel
theorem dX7_fit_115 : decode cX7_fit 115 = .ok (.ifCond .lt 6, 3) := by decide +kernel
theorem dX7_fit_118 : decode cX7_fit 118 = .ok (.goto 10, 3) := by decide +kernel
theorem dX7_fit_121 : decode cX7_fit 121 = .ok (.lload 7, 2) := by decide +kernel
theorem dX7_fit_123 : decode cX7_fit 123 = .ok (.lstore_n 3, 1) := by decide +kernel
theorem dX7_fit_124 : decode cX7_fit 124 = .ok (.iload 6, 2) := by decide +kernel
theorem dX7_fit_126 : decode cX7_fit 126 = .ok (.istore 5, 2) := by decide +kernel
theorem dX7_fit_128 : decode cX7_fit 128 = .ok (.iinc 6 10, 3) := by decide +kernel
theorem dX7_fit_131 : decode cX7_fit 131 = .ok (.goto (-47), 3) := by decide +kernel
theorem dX7_fit_134 : decode cX7_fit 134 = .ok (.aload_n 0, 1) := by decide +kernel
theorem dX7_fit_135 : decode cX7_fit 135 = .ok (.iload_n 1, 1) := by decide +kernel
theorem dX7_fit_136 : decode cX7_fit 136 = .ok (.iload_n 2, 1) := by decide +kernel
theorem dX7_fit_137 : decode cX7_fit 137 = .ok (.iload 5, 2) := by decide +kernel
theorem dX7_fit_139 : decode cX7_fit 139 = .ok (.invokevirtual 144, 3) := by decide +kernel
theorem dX7_fit_142 : decode cX7_fit 142 = .ok (.iload 5, 2) := by decide +kernel
theorem dX7_fit_144 : decode cX7_fit 144 = .ok (.ireturn, 1) := by decide +kernel
theorem dX7_squares_0 : decode cX7_squares 0 = .ok (.aload_n 0, 1) := by decide +kernel
theorem dX7_squares_1 : decode cX7_squares 1 = .ok (.invokevirtual 148, 3) := by decide +kernel
theorem dX7_squares_4 : decode cX7_squares 4 = .ok (.lreturn, 1) := by decide +kernel
theorem dX7_keep_0 : decode cX7_keep 0 = .ok (.iconst 0, 1) := by decide +kernel
theorem dX7_keep_1 : decode cX7_keep 1 = .ok (.istore_n 1, 1) := by decide +kernel
theorem dX7_keep_2 : decode cX7_keep 2 = .ok (.iload_n 1, 1) := by decide +kernel
theorem dX7_keep_3 : decode cX7_keep 3 = .ok (.sipush 1090, 3) := by decide +kernel
theorem dX7_keep_6 : decode cX7_keep 6 = .ok (.if_icmp .ge 21, 3) := by decide +kernel
theorem dX7_keep_9 : decode cX7_keep 9 = .ok (.aload_n 0, 1) := by decide +kernel
theorem dX7_keep_10 : decode cX7_keep 10 = .ok (.getfield 13, 3) := by decide +kernel
theorem dX7_keep_13 : decode cX7_keep 13 = .ok (.iload_n 1, 1) := by decide +kernel
theorem dX7_keep_14 : decode cX7_keep 14 = .ok (.aload_n 0, 1) := by decide +kernel
theorem dX7_keep_15 : decode cX7_keep 15 = .ok (.getfield 7, 3) := by decide +kernel
theorem dX7_keep_18 : decode cX7_keep 18 = .ok (.iload_n 1, 1) := by decide +kernel
theorem dX7_keep_19 : decode cX7_keep 19 = .ok (.iaload, 1) := by decide +kernel
theorem dX7_keep_20 : decode cX7_keep 20 = .ok (.iastore, 1) := by decide +kernel
theorem dX7_keep_21 : decode cX7_keep 21 = .ok (.iinc 1 1, 3) := by decide +kernel
theorem dX7_keep_24 : decode cX7_keep 24 = .ok (.goto (-22), 3) := by decide +kernel
theorem dX7_keep_27 : decode cX7_keep 27 = .ok (.aload_n 0, 1) := by decide +kernel
theorem dX7_keep_28 : decode cX7_keep 28 = .ok (.iconst 1, 1) := by decide +kernel
theorem dX7_keep_29 : decode cX7_keep 29 = .ok (.putfield 152, 3) := by decide +kernel
theorem dX7_keep_32 : decode cX7_keep 32 = .ok (.aload_n 0, 1) := by decide +kernel
theorem dX7_keep_33 : decode cX7_keep 33 = .ok (.invokevirtual 44, 3) := by decide +kernel
theorem dX7_keep_36 : decode cX7_keep 36 = .ok (.ireturn, 1) := by decide +kernel
theorem dX7_back_0 : decode cX7_back 0 = .ok (.aload_n 0, 1) := by decide +kernel
theorem dX7_back_1 : decode cX7_back 1 = .ok (.getfield 152, 3) := by decide +kernel
theorem dX7_back_4 : decode cX7_back 4 = .ok (.ifCond .ne 10, 3) := by decide +kernel
theorem dX7_back_7 : decode cX7_back 7 = .ok (.aload_n 0, 1) := by decide +kernel
theorem dX7_back_8 : decode cX7_back 8 = .ok (.ldc 121, 2) := by decide +kernel
theorem dX7_back_10 : decode cX7_back 10 = .ok (.invokevirtual 63, 3) := by decide +kernel
theorem dX7_back_13 : decode cX7_back 13 = .ok (.ireturn, 1) := by decide +kernel
theorem dX7_back_14 : decode cX7_back 14 = .ok (.iconst 0, 1) := by decide +kernel
theorem dX7_back_15 : decode cX7_back 15 = .ok (.istore_n 1, 1) := by decide +kernel
theorem dX7_back_16 : decode cX7_back 16 = .ok (.iload_n 1, 1) := by decide +kernel
theorem dX7_back_17 : decode cX7_back 17 = .ok (.sipush 1090, 3) := by decide +kernel
theorem dX7_back_20 : decode cX7_back 20 = .ok (.if_icmp .ge 21, 3) := by decide +kernel
theorem dX7_back_23 : decode cX7_back 23 = .ok (.aload_n 0, 1) := by decide +kernel
theorem dX7_back_24 : decode cX7_back 24 = .ok (.getfield 7, 3) := by decide +kernel
theorem dX7_back_27 : decode cX7_back 27 = .ok (.iload_n 1, 1) := by decide +kernel
theorem dX7_back_28 : decode cX7_back 28 = .ok (.aload_n 0, 1) := by decide +kernel
theorem dX7_back_29 : decode cX7_back 29 = .ok (.getfield 13, 3) := by decide +kernel
theorem dX7_back_32 : decode cX7_back 32 = .ok (.iload_n 1, 1) := by decide +kernel
theorem dX7_back_33 : decode cX7_back 33 = .ok (.iaload, 1) := by decide +kernel
theorem dX7_back_34 : decode cX7_back 34 = .ok (.iastore, 1) := by decide +kernel
theorem dX7_back_35 : decode cX7_back 35 = .ok (.iinc 1 1, 3) := by decide +kernel
theorem dX7_back_38 : decode cX7_back 38 = .ok (.goto (-22), 3) := by decide +kernel
theorem dX7_back_41 : decode cX7_back 41 = .ok (.aload_n 0, 1) := by decide +kernel
theorem dX7_back_42 : decode cX7_back 42 = .ok (.invokevirtual 44, 3) := by decide +kernel
theorem dX7_back_45 : decode cX7_back 45 = .ok (.ireturn, 1) := by decide +kernel
theorem dX7_told_0 : decode cX7_told 0 = .ok (.iload_n 1, 1) := by decide +kernel
theorem dX7_told_1 : decode cX7_told 1 = .ok (.ifCond .ne 10, 3) := by decide +kernel
theorem dX7_told_4 : decode cX7_told 4 = .ok (.aload_n 0, 1) := by decide +kernel
theorem dX7_told_5 : decode cX7_told 5 = .ok (.invokevirtual 44, 3) := by decide +kernel
theorem dX7_told_8 : decode cX7_told 8 = .ok (.goto 53, 3) := by decide +kernel
theorem dX7_told_11 : decode cX7_told 11 = .ok (.iload_n 1, 1) := by decide +kernel
theorem dX7_told_12 : decode cX7_told 12 = .ok (.iconst 1, 1) := by decide +kernel
theorem dX7_told_13 : decode cX7_told 13 = .ok (.if_icmp .ne 14, 3) := by decide +kernel
theorem dX7_told_16 : decode cX7_told 16 = .ok (.aload_n 0, 1) := by decide +kernel
theorem dX7_told_17 : decode cX7_told 17 = .ok (.getfield 7, 3) := by decide +kernel
theorem dX7_told_20 : decode cX7_told 20 = .ok (.sipush 1087, 3) := by decide +kernel
theorem dX7_told_23 : decode cX7_told 23 = .ok (.iaload, 1) := by decide +kernel
theorem dX7_told_24 : decode cX7_told 24 = .ok (.goto 37, 3) := by decide +kernel
theorem dX7_told_27 : decode cX7_told 27 = .ok (.iload_n 1, 1) := by decide +kernel
theorem dX7_told_28 : decode cX7_told 28 = .ok (.iconst 2, 1) := by decide +kernel
theorem dX7_told_29 : decode cX7_told 29 = .ok (.if_icmp .ne 14, 3) := by decide +kernel
theorem dX7_told_32 : decode cX7_told 32 = .ok (.aload_n 0, 1) := by decide +kernel
theorem dX7_told_33 : decode cX7_told 33 = .ok (.getfield 7, 3) := by decide +kernel
theorem dX7_told_36 : decode cX7_told 36 = .ok (.sipush 1088, 3) := by decide +kernel
theorem dX7_told_39 : decode cX7_told 39 = .ok (.iaload, 1) := by decide +kernel
theorem dX7_told_40 : decode cX7_told 40 = .ok (.goto 21, 3) := by decide +kernel
theorem dX7_told_43 : decode cX7_told 43 = .ok (.iload_n 1, 1) := by decide +kernel
theorem dX7_told_44 : decode cX7_told 44 = .ok (.iconst 3, 1) := by decide +kernel
theorem dX7_told_45 : decode cX7_told 45 = .ok (.if_icmp .ne 10, 3) := by decide +kernel
theorem dX7_told_48 : decode cX7_told 48 = .ok (.aload_n 0, 1) := by decide +kernel
theorem dX7_told_49 : decode cX7_told 49 = .ok (.getfield 40, 3) := by decide +kernel
theorem dX7_told_52 : decode cX7_told 52 = .ok (.goto 9, 3) := by decide +kernel
theorem dX7_told_55 : decode cX7_told 55 = .ok (.aload_n 0, 1) := by decide +kernel
theorem dX7_told_56 : decode cX7_told 56 = .ok (.ldc 62, 2) := by decide +kernel
theorem dX7_told_58 : decode cX7_told 58 = .ok (.invokevirtual 63, 3) := by decide +kernel
theorem dX7_told_61 : decode cX7_told 61 = .ok (.ireturn, 1) := by decide +kernel
theorem dL_law_0 : decode cL_law 0 = .ok (.new 7, 3) := by decide +kernel
theorem dL_law_3 : decode cL_law 3 = .ok (.dup, 1) := by decide +kernel
theorem dL_law_4 : decode cL_law 4 = .ok (.invokespecial 9, 3) := by decide +kernel
theorem dL_law_7 : decode cL_law 7 = .ok (.astore_n 1, 1) := by decide +kernel
theorem dL_law_8 : decode cL_law 8 = .ok (.new 10, 3) := by decide +kernel
theorem dL_law_11 : decode cL_law 11 = .ok (.dup, 1) := by decide +kernel
theorem dL_law_12 : decode cL_law 12 = .ok (.invokespecial 12, 3) := by decide +kernel
theorem dL_law_15 : decode cL_law 15 = .ok (.astore_n 2, 1) := by decide +kernel
theorem dL_law_16 : decode cL_law 16 = .ok (.iconst 0, 1) := by decide +kernel
theorem dL_law_17 : decode cL_law 17 = .ok (.istore_n 3, 1) := by decide +kernel
theorem dL_law_18 : decode cL_law 18 = .ok (.iload_n 3, 1) := by decide +kernel
theorem dL_law_19 : decode cL_law 19 = .ok (.aload_n 0, 1) := by decide +kernel
theorem dL_law_20 : decode cL_law 20 = .ok (.arraylength, 1) := by decide +kernel
theorem dL_law_21 : decode cL_law 21 = .ok (.bipush 6, 2) := by decide +kernel
theorem dL_law_23 : decode cL_law 23 = .ok (.isub, 1) := by decide +kernel
theorem dL_law_24 : decode cL_law 24 = .ok (.if_icmp .gt 1449, 3) := by decide +kernel
theorem dL_law_27 : decode cL_law 27 = .ok (.aload_n 0, 1) := by decide +kernel
theorem dL_law_28 : decode cL_law 28 = .ok (.iload_n 3, 1) := by decide +kernel
theorem dL_law_29 : decode cL_law 29 = .ok (.iaload, 1) := by decide +kernel
theorem dL_law_30 : decode cL_law 30 = .ok (.bipush 63, 2) := by decide +kernel
theorem dL_law_32 : decode cL_law 32 = .ok (.iand, 1) := by decide +kernel
theorem dL_law_33 : decode cL_law 33 = .ok (.tableswitch 1434 0 35 #[159, 212, 245, 278, 311, 344, 397, 430, 473, 516, 579, 622, 665, 698, 731, 744, 777, 820, 853, 886, 919, 952, 975, 1028, 1061, 1104, 1127, 1176, 1219, 1262, 1305, 1338, 1371, 1385, 1398, 1411], 159) := by decide +kernel
theorem dL_law_192 : decode cL_law 192 = .ok (.aload_n 1, 1) := by decide +kernel
theorem dL_law_193 : decode cL_law 193 = .ok (.aload_n 0, 1) := by decide +kernel
theorem dL_law_194 : decode cL_law 194 = .ok (.iload_n 3, 1) := by decide +kernel
theorem dL_law_195 : decode cL_law 195 = .ok (.iconst 1, 1) := by decide +kernel
theorem dL_law_196 : decode cL_law 196 = .ok (.iadd, 1) := by decide +kernel
theorem dL_law_197 : decode cL_law 197 = .ok (.iaload, 1) := by decide +kernel
theorem dL_law_198 : decode cL_law 198 = .ok (.aload_n 0, 1) := by decide +kernel
theorem dL_law_199 : decode cL_law 199 = .ok (.iload_n 3, 1) := by decide +kernel
theorem dL_law_200 : decode cL_law 200 = .ok (.iconst 2, 1) := by decide +kernel
theorem dL_law_201 : decode cL_law 201 = .ok (.iadd, 1) := by decide +kernel
theorem dL_law_202 : decode cL_law 202 = .ok (.iaload, 1) := by decide +kernel
theorem dL_law_203 : decode cL_law 203 = .ok (.aload_n 0, 1) := by decide +kernel
theorem dL_law_204 : decode cL_law 204 = .ok (.iload_n 3, 1) := by decide +kernel
theorem dL_law_205 : decode cL_law 205 = .ok (.iconst 3, 1) := by decide +kernel
theorem dL_law_206 : decode cL_law 206 = .ok (.iadd, 1) := by decide +kernel
theorem dL_law_207 : decode cL_law 207 = .ok (.iaload, 1) := by decide +kernel
theorem dL_law_208 : decode cL_law 208 = .ok (.aload_n 0, 1) := by decide +kernel
theorem dL_law_209 : decode cL_law 209 = .ok (.iload_n 3, 1) := by decide +kernel
theorem dL_law_210 : decode cL_law 210 = .ok (.iconst 4, 1) := by decide +kernel
theorem dL_law_211 : decode cL_law 211 = .ok (.iadd, 1) := by decide +kernel
theorem dL_law_212 : decode cL_law 212 = .ok (.iaload, 1) := by decide +kernel
theorem dL_law_213 : decode cL_law 213 = .ok (.invokevirtual 13, 3) := by decide +kernel
theorem dL_law_216 : decode cL_law 216 = .ok (.aload_n 2, 1) := by decide +kernel
theorem dL_law_217 : decode cL_law 217 = .ok (.aload_n 0, 1) := by decide +kernel
theorem dL_law_218 : decode cL_law 218 = .ok (.iload_n 3, 1) := by decide +kernel
theorem dL_law_219 : decode cL_law 219 = .ok (.iconst 1, 1) := by decide +kernel
theorem dL_law_220 : decode cL_law 220 = .ok (.iadd, 1) := by decide +kernel
theorem dL_law_221 : decode cL_law 221 = .ok (.iaload, 1) := by decide +kernel
theorem dL_law_222 : decode cL_law 222 = .ok (.aload_n 0, 1) := by decide +kernel
theorem dL_law_223 : decode cL_law 223 = .ok (.iload_n 3, 1) := by decide +kernel
theorem dL_law_224 : decode cL_law 224 = .ok (.iconst 2, 1) := by decide +kernel
theorem dL_law_225 : decode cL_law 225 = .ok (.iadd, 1) := by decide +kernel
theorem dL_law_226 : decode cL_law 226 = .ok (.iaload, 1) := by decide +kernel
theorem dL_law_227 : decode cL_law 227 = .ok (.aload_n 0, 1) := by decide +kernel
theorem dL_law_228 : decode cL_law 228 = .ok (.iload_n 3, 1) := by decide +kernel
theorem dL_law_229 : decode cL_law 229 = .ok (.iconst 3, 1) := by decide +kernel
theorem dL_law_230 : decode cL_law 230 = .ok (.iadd, 1) := by decide +kernel
theorem dL_law_231 : decode cL_law 231 = .ok (.iaload, 1) := by decide +kernel
theorem dL_law_232 : decode cL_law 232 = .ok (.aload_n 0, 1) := by decide +kernel
theorem dL_law_233 : decode cL_law 233 = .ok (.iload_n 3, 1) := by decide +kernel
theorem dL_law_234 : decode cL_law 234 = .ok (.iconst 4, 1) := by decide +kernel
theorem dL_law_235 : decode cL_law 235 = .ok (.iadd, 1) := by decide +kernel
theorem dL_law_236 : decode cL_law 236 = .ok (.iaload, 1) := by decide +kernel
theorem dL_law_237 : decode cL_law 237 = .ok (.invokevirtual 17, 3) := by decide +kernel
theorem dL_law_240 : decode cL_law 240 = .ok (.if_icmp .eq 1227, 3) := by decide +kernel
theorem dL_law_243 : decode cL_law 243 = .ok (.iconst 0, 1) := by decide +kernel
theorem dL_law_244 : decode cL_law 244 = .ok (.ireturn, 1) := by decide +kernel
theorem dL_law_245 : decode cL_law 245 = .ok (.aload_n 1, 1) := by decide +kernel
theorem dL_law_246 : decode cL_law 246 = .ok (.aload_n 0, 1) := by decide +kernel
theorem dL_law_247 : decode cL_law 247 = .ok (.iload_n 3, 1) := by decide +kernel
theorem dL_law_248 : decode cL_law 248 = .ok (.iconst 1, 1) := by decide +kernel
theorem dL_law_249 : decode cL_law 249 = .ok (.iadd, 1) := by decide +kernel
theorem dL_law_250 : decode cL_law 250 = .ok (.iaload, 1) := by decide +kernel
theorem dL_law_251 : decode cL_law 251 = .ok (.aload_n 0, 1) := by decide +kernel
theorem dL_law_252 : decode cL_law 252 = .ok (.iload_n 3, 1) := by decide +kernel
theorem dL_law_253 : decode cL_law 253 = .ok (.iconst 2, 1) := by decide +kernel
theorem dL_law_254 : decode cL_law 254 = .ok (.iadd, 1) := by decide +kernel
theorem dL_law_255 : decode cL_law 255 = .ok (.iaload, 1) := by decide +kernel
theorem dL_law_256 : decode cL_law 256 = .ok (.invokevirtual 18, 3) := by decide +kernel
theorem dL_law_259 : decode cL_law 259 = .ok (.aload_n 2, 1) := by decide +kernel
theorem dL_law_260 : decode cL_law 260 = .ok (.aload_n 0, 1) := by decide +kernel
theorem dL_law_261 : decode cL_law 261 = .ok (.iload_n 3, 1) := by decide +kernel
theorem dL_law_262 : decode cL_law 262 = .ok (.iconst 1, 1) := by decide +kernel
theorem dL_law_263 : decode cL_law 263 = .ok (.iadd, 1) := by decide +kernel
theorem dL_law_264 : decode cL_law 264 = .ok (.iaload, 1) := by decide +kernel
theorem dL_law_265 : decode cL_law 265 = .ok (.aload_n 0, 1) := by decide +kernel
theorem dL_law_266 : decode cL_law 266 = .ok (.iload_n 3, 1) := by decide +kernel
theorem dL_law_267 : decode cL_law 267 = .ok (.iconst 2, 1) := by decide +kernel
theorem dL_law_268 : decode cL_law 268 = .ok (.iadd, 1) := by decide +kernel
theorem dL_law_269 : decode cL_law 269 = .ok (.iaload, 1) := by decide +kernel
theorem dL_law_270 : decode cL_law 270 = .ok (.invokevirtual 22, 3) := by decide +kernel
theorem dL_law_273 : decode cL_law 273 = .ok (.if_icmp .eq 1194, 3) := by decide +kernel
theorem dL_law_276 : decode cL_law 276 = .ok (.iconst 0, 1) := by decide +kernel
theorem dL_law_277 : decode cL_law 277 = .ok (.ireturn, 1) := by decide +kernel
theorem dL_law_278 : decode cL_law 278 = .ok (.aload_n 1, 1) := by decide +kernel
theorem dL_law_279 : decode cL_law 279 = .ok (.aload_n 0, 1) := by decide +kernel
theorem dL_law_280 : decode cL_law 280 = .ok (.iload_n 3, 1) := by decide +kernel
theorem dL_law_281 : decode cL_law 281 = .ok (.iconst 1, 1) := by decide +kernel
theorem dL_law_282 : decode cL_law 282 = .ok (.iadd, 1) := by decide +kernel
theorem dL_law_283 : decode cL_law 283 = .ok (.iaload, 1) := by decide +kernel
theorem dL_law_284 : decode cL_law 284 = .ok (.aload_n 0, 1) := by decide +kernel
theorem dL_law_285 : decode cL_law 285 = .ok (.iload_n 3, 1) := by decide +kernel
theorem dL_law_286 : decode cL_law 286 = .ok (.iconst 2, 1) := by decide +kernel
theorem dL_law_287 : decode cL_law 287 = .ok (.iadd, 1) := by decide +kernel
theorem dL_law_288 : decode cL_law 288 = .ok (.iaload, 1) := by decide +kernel
theorem dL_law_289 : decode cL_law 289 = .ok (.invokevirtual 23, 3) := by decide +kernel
theorem dL_law_292 : decode cL_law 292 = .ok (.aload_n 2, 1) := by decide +kernel
theorem dL_law_293 : decode cL_law 293 = .ok (.aload_n 0, 1) := by decide +kernel
theorem dL_law_294 : decode cL_law 294 = .ok (.iload_n 3, 1) := by decide +kernel
theorem dL_law_295 : decode cL_law 295 = .ok (.iconst 1, 1) := by decide +kernel
theorem dL_law_296 : decode cL_law 296 = .ok (.iadd, 1) := by decide +kernel
theorem dL_law_297 : decode cL_law 297 = .ok (.iaload, 1) := by decide +kernel
theorem dL_law_298 : decode cL_law 298 = .ok (.aload_n 0, 1) := by decide +kernel
theorem dL_law_299 : decode cL_law 299 = .ok (.iload_n 3, 1) := by decide +kernel
theorem dL_law_300 : decode cL_law 300 = .ok (.iconst 2, 1) := by decide +kernel
theorem dL_law_301 : decode cL_law 301 = .ok (.iadd, 1) := by decide +kernel
theorem dL_law_302 : decode cL_law 302 = .ok (.iaload, 1) := by decide +kernel
theorem dL_law_303 : decode cL_law 303 = .ok (.invokevirtual 26, 3) := by decide +kernel
theorem dL_law_306 : decode cL_law 306 = .ok (.if_icmp .eq 1161, 3) := by decide +kernel
theorem dL_law_309 : decode cL_law 309 = .ok (.iconst 0, 1) := by decide +kernel
theorem dL_law_310 : decode cL_law 310 = .ok (.ireturn, 1) := by decide +kernel
theorem dL_law_311 : decode cL_law 311 = .ok (.aload_n 1, 1) := by decide +kernel
theorem dL_law_312 : decode cL_law 312 = .ok (.aload_n 0, 1) := by decide +kernel
theorem dL_law_313 : decode cL_law 313 = .ok (.iload_n 3, 1) := by decide +kernel
theorem dL_law_314 : decode cL_law 314 = .ok (.iconst 1, 1) := by decide +kernel
theorem dL_law_315 : decode cL_law 315 = .ok (.iadd, 1) := by decide +kernel
theorem dL_law_316 : decode cL_law 316 = .ok (.iaload, 1) := by decide +kernel
theorem dL_law_317 : decode cL_law 317 = .ok (.aload_n 0, 1) := by decide +kernel
theorem dL_law_318 : decode cL_law 318 = .ok (.iload_n 3, 1) := by decide +kernel
theorem dL_law_319 : decode cL_law 319 = .ok (.iconst 2, 1) := by decide +kernel
theorem dL_law_320 : decode cL_law 320 = .ok (.iadd, 1) := by decide +kernel
theorem dL_law_321 : decode cL_law 321 = .ok (.iaload, 1) := by decide +kernel
theorem dL_law_322 : decode cL_law 322 = .ok (.invokevirtual 27, 3) := by decide +kernel
theorem dL_law_325 : decode cL_law 325 = .ok (.aload_n 2, 1) := by decide +kernel
theorem dL_law_326 : decode cL_law 326 = .ok (.aload_n 0, 1) := by decide +kernel
theorem dL_law_327 : decode cL_law 327 = .ok (.iload_n 3, 1) := by decide +kernel
theorem dL_law_328 : decode cL_law 328 = .ok (.iconst 1, 1) := by decide +kernel
theorem dL_law_329 : decode cL_law 329 = .ok (.iadd, 1) := by decide +kernel
theorem dL_law_330 : decode cL_law 330 = .ok (.iaload, 1) := by decide +kernel
theorem dL_law_331 : decode cL_law 331 = .ok (.aload_n 0, 1) := by decide +kernel
theorem dL_law_332 : decode cL_law 332 = .ok (.iload_n 3, 1) := by decide +kernel
theorem dL_law_333 : decode cL_law 333 = .ok (.iconst 2, 1) := by decide +kernel
theorem dL_law_334 : decode cL_law 334 = .ok (.iadd, 1) := by decide +kernel
theorem dL_law_335 : decode cL_law 335 = .ok (.iaload, 1) := by decide +kernel
theorem dL_law_336 : decode cL_law 336 = .ok (.invokevirtual 30, 3) := by decide +kernel
theorem dL_law_339 : decode cL_law 339 = .ok (.if_icmp .eq 1128, 3) := by decide +kernel
theorem dL_law_342 : decode cL_law 342 = .ok (.iconst 0, 1) := by decide +kernel
theorem dL_law_343 : decode cL_law 343 = .ok (.ireturn, 1) := by decide +kernel
theorem dL_law_344 : decode cL_law 344 = .ok (.aload_n 1, 1) := by decide +kernel
theorem dL_law_345 : decode cL_law 345 = .ok (.aload_n 0, 1) := by decide +kernel
theorem dL_law_346 : decode cL_law 346 = .ok (.iload_n 3, 1) := by decide +kernel
theorem dL_law_347 : decode cL_law 347 = .ok (.iconst 1, 1) := by decide +kernel
theorem dL_law_348 : decode cL_law 348 = .ok (.iadd, 1) := by decide +kernel
theorem dL_law_349 : decode cL_law 349 = .ok (.iaload, 1) := by decide +kernel
theorem dL_law_350 : decode cL_law 350 = .ok (.aload_n 0, 1) := by decide +kernel
theorem dL_law_351 : decode cL_law 351 = .ok (.iload_n 3, 1) := by decide +kernel
theorem dL_law_352 : decode cL_law 352 = .ok (.iconst 2, 1) := by decide +kernel
theorem dL_law_353 : decode cL_law 353 = .ok (.iadd, 1) := by decide +kernel
theorem dL_law_354 : decode cL_law 354 = .ok (.iaload, 1) := by decide +kernel
theorem dL_law_355 : decode cL_law 355 = .ok (.invokevirtual 31, 3) := by decide +kernel
theorem dL_law_358 : decode cL_law 358 = .ok (.aload_n 2, 1) := by decide +kernel
theorem dL_law_359 : decode cL_law 359 = .ok (.aload_n 0, 1) := by decide +kernel
theorem dL_law_360 : decode cL_law 360 = .ok (.iload_n 3, 1) := by decide +kernel
theorem dL_law_361 : decode cL_law 361 = .ok (.iconst 1, 1) := by decide +kernel
theorem dL_law_362 : decode cL_law 362 = .ok (.iadd, 1) := by decide +kernel
theorem dL_law_363 : decode cL_law 363 = .ok (.iaload, 1) := by decide +kernel
theorem dL_law_364 : decode cL_law 364 = .ok (.aload_n 0, 1) := by decide +kernel
theorem dL_law_365 : decode cL_law 365 = .ok (.iload_n 3, 1) := by decide +kernel
theorem dL_law_366 : decode cL_law 366 = .ok (.iconst 2, 1) := by decide +kernel
theorem dL_law_367 : decode cL_law 367 = .ok (.iadd, 1) := by decide +kernel
theorem dL_law_368 : decode cL_law 368 = .ok (.iaload, 1) := by decide +kernel
theorem dL_law_369 : decode cL_law 369 = .ok (.invokevirtual 34, 3) := by decide +kernel
theorem dL_law_372 : decode cL_law 372 = .ok (.if_icmp .eq 1095, 3) := by decide +kernel
theorem dL_law_375 : decode cL_law 375 = .ok (.iconst 0, 1) := by decide +kernel
theorem dL_law_376 : decode cL_law 376 = .ok (.ireturn, 1) := by decide +kernel
theorem dL_law_377 : decode cL_law 377 = .ok (.aload_n 1, 1) := by decide +kernel
theorem dL_law_378 : decode cL_law 378 = .ok (.aload_n 0, 1) := by decide +kernel
theorem dL_law_379 : decode cL_law 379 = .ok (.iload_n 3, 1) := by decide +kernel
theorem dL_law_380 : decode cL_law 380 = .ok (.iconst 1, 1) := by decide +kernel
theorem dL_law_381 : decode cL_law 381 = .ok (.iadd, 1) := by decide +kernel
theorem dL_law_382 : decode cL_law 382 = .ok (.iaload, 1) := by decide +kernel
theorem dL_law_383 : decode cL_law 383 = .ok (.aload_n 0, 1) := by decide +kernel
theorem dL_law_384 : decode cL_law 384 = .ok (.iload_n 3, 1) := by decide +kernel
theorem dL_law_385 : decode cL_law 385 = .ok (.iconst 2, 1) := by decide +kernel
theorem dL_law_386 : decode cL_law 386 = .ok (.iadd, 1) := by decide +kernel
theorem dL_law_387 : decode cL_law 387 = .ok (.iaload, 1) := by decide +kernel
theorem dL_law_388 : decode cL_law 388 = .ok (.aload_n 0, 1) := by decide +kernel
theorem dL_law_389 : decode cL_law 389 = .ok (.iload_n 3, 1) := by decide +kernel
theorem dL_law_390 : decode cL_law 390 = .ok (.iconst 3, 1) := by decide +kernel
theorem dL_law_391 : decode cL_law 391 = .ok (.iadd, 1) := by decide +kernel
theorem dL_law_392 : decode cL_law 392 = .ok (.iaload, 1) := by decide +kernel
theorem dL_law_393 : decode cL_law 393 = .ok (.aload_n 0, 1) := by decide +kernel
theorem dL_law_394 : decode cL_law 394 = .ok (.iload_n 3, 1) := by decide +kernel
theorem dL_law_395 : decode cL_law 395 = .ok (.iconst 4, 1) := by decide +kernel
theorem dL_law_396 : decode cL_law 396 = .ok (.iadd, 1) := by decide +kernel
theorem dL_law_397 : decode cL_law 397 = .ok (.iaload, 1) := by decide +kernel
theorem dL_law_398 : decode cL_law 398 = .ok (.invokevirtual 35, 3) := by decide +kernel
theorem dL_law_401 : decode cL_law 401 = .ok (.aload_n 2, 1) := by decide +kernel
theorem dL_law_402 : decode cL_law 402 = .ok (.aload_n 0, 1) := by decide +kernel
theorem dL_law_403 : decode cL_law 403 = .ok (.iload_n 3, 1) := by decide +kernel
theorem dL_law_404 : decode cL_law 404 = .ok (.iconst 1, 1) := by decide +kernel
theorem dL_law_405 : decode cL_law 405 = .ok (.iadd, 1) := by decide +kernel
theorem dL_law_406 : decode cL_law 406 = .ok (.iaload, 1) := by decide +kernel
theorem dL_law_407 : decode cL_law 407 = .ok (.aload_n 0, 1) := by decide +kernel
theorem dL_law_408 : decode cL_law 408 = .ok (.iload_n 3, 1) := by decide +kernel
theorem dL_law_409 : decode cL_law 409 = .ok (.iconst 2, 1) := by decide +kernel
theorem dL_law_410 : decode cL_law 410 = .ok (.iadd, 1) := by decide +kernel
theorem dL_law_411 : decode cL_law 411 = .ok (.iaload, 1) := by decide +kernel
theorem dL_law_412 : decode cL_law 412 = .ok (.aload_n 0, 1) := by decide +kernel
theorem dL_law_413 : decode cL_law 413 = .ok (.iload_n 3, 1) := by decide +kernel
theorem dL_law_414 : decode cL_law 414 = .ok (.iconst 3, 1) := by decide +kernel
theorem dL_law_415 : decode cL_law 415 = .ok (.iadd, 1) := by decide +kernel
theorem dL_law_416 : decode cL_law 416 = .ok (.iaload, 1) := by decide +kernel
theorem dL_law_417 : decode cL_law 417 = .ok (.aload_n 0, 1) := by decide +kernel
theorem dL_law_418 : decode cL_law 418 = .ok (.iload_n 3, 1) := by decide +kernel
theorem dL_law_419 : decode cL_law 419 = .ok (.iconst 4, 1) := by decide +kernel
theorem dL_law_420 : decode cL_law 420 = .ok (.iadd, 1) := by decide +kernel
theorem dL_law_421 : decode cL_law 421 = .ok (.iaload, 1) := by decide +kernel
theorem dL_law_422 : decode cL_law 422 = .ok (.invokevirtual 38, 3) := by decide +kernel
theorem dL_law_425 : decode cL_law 425 = .ok (.if_icmp .eq 1042, 3) := by decide +kernel
theorem dL_law_428 : decode cL_law 428 = .ok (.iconst 0, 1) := by decide +kernel
theorem dL_law_429 : decode cL_law 429 = .ok (.ireturn, 1) := by decide +kernel
theorem dL_law_430 : decode cL_law 430 = .ok (.aload_n 1, 1) := by decide +kernel
theorem dL_law_431 : decode cL_law 431 = .ok (.aload_n 0, 1) := by decide +kernel
theorem dL_law_432 : decode cL_law 432 = .ok (.iload_n 3, 1) := by decide +kernel
theorem dL_law_433 : decode cL_law 433 = .ok (.iconst 1, 1) := by decide +kernel
theorem dL_law_434 : decode cL_law 434 = .ok (.iadd, 1) := by decide +kernel
theorem dL_law_435 : decode cL_law 435 = .ok (.iaload, 1) := by decide +kernel
theorem dL_law_436 : decode cL_law 436 = .ok (.aload_n 0, 1) := by decide +kernel
theorem dL_law_437 : decode cL_law 437 = .ok (.iload_n 3, 1) := by decide +kernel
theorem dL_law_438 : decode cL_law 438 = .ok (.iconst 2, 1) := by decide +kernel
theorem dL_law_439 : decode cL_law 439 = .ok (.iadd, 1) := by decide +kernel
theorem dL_law_440 : decode cL_law 440 = .ok (.iaload, 1) := by decide +kernel
theorem dL_law_441 : decode cL_law 441 = .ok (.invokevirtual 39, 3) := by decide +kernel
theorem dL_law_444 : decode cL_law 444 = .ok (.aload_n 2, 1) := by decide +kernel
theorem dL_law_445 : decode cL_law 445 = .ok (.aload_n 0, 1) := by decide +kernel
theorem dL_law_446 : decode cL_law 446 = .ok (.iload_n 3, 1) := by decide +kernel
theorem dL_law_447 : decode cL_law 447 = .ok (.iconst 1, 1) := by decide +kernel
theorem dL_law_448 : decode cL_law 448 = .ok (.iadd, 1) := by decide +kernel
theorem dL_law_449 : decode cL_law 449 = .ok (.iaload, 1) := by decide +kernel
theorem dL_law_450 : decode cL_law 450 = .ok (.aload_n 0, 1) := by decide +kernel
theorem dL_law_451 : decode cL_law 451 = .ok (.iload_n 3, 1) := by decide +kernel
theorem dL_law_452 : decode cL_law 452 = .ok (.iconst 2, 1) := by decide +kernel
theorem dL_law_453 : decode cL_law 453 = .ok (.iadd, 1) := by decide +kernel
theorem dL_law_454 : decode cL_law 454 = .ok (.iaload, 1) := by decide +kernel
theorem dL_law_455 : decode cL_law 455 = .ok (.invokevirtual 42, 3) := by decide +kernel
theorem dL_law_458 : decode cL_law 458 = .ok (.if_icmp .eq 1009, 3) := by decide +kernel
theorem dL_law_461 : decode cL_law 461 = .ok (.iconst 0, 1) := by decide +kernel
theorem dL_law_462 : decode cL_law 462 = .ok (.ireturn, 1) := by decide +kernel
theorem dL_law_463 : decode cL_law 463 = .ok (.aload_n 1, 1) := by decide +kernel
theorem dL_law_464 : decode cL_law 464 = .ok (.aload_n 0, 1) := by decide +kernel
theorem dL_law_465 : decode cL_law 465 = .ok (.iload_n 3, 1) := by decide +kernel
theorem dL_law_466 : decode cL_law 466 = .ok (.iconst 1, 1) := by decide +kernel
theorem dL_law_467 : decode cL_law 467 = .ok (.iadd, 1) := by decide +kernel
theorem dL_law_468 : decode cL_law 468 = .ok (.iaload, 1) := by decide +kernel
theorem dL_law_469 : decode cL_law 469 = .ok (.aload_n 0, 1) := by decide +kernel
theorem dL_law_470 : decode cL_law 470 = .ok (.iload_n 3, 1) := by decide +kernel
theorem dL_law_471 : decode cL_law 471 = .ok (.iconst 2, 1) := by decide +kernel
theorem dL_law_472 : decode cL_law 472 = .ok (.iadd, 1) := by decide +kernel
theorem dL_law_473 : decode cL_law 473 = .ok (.iaload, 1) := by decide +kernel
theorem dL_law_474 : decode cL_law 474 = .ok (.aload_n 0, 1) := by decide +kernel
theorem dL_law_475 : decode cL_law 475 = .ok (.iload_n 3, 1) := by decide +kernel
theorem dL_law_476 : decode cL_law 476 = .ok (.iconst 3, 1) := by decide +kernel
theorem dL_law_477 : decode cL_law 477 = .ok (.iadd, 1) := by decide +kernel
theorem dL_law_478 : decode cL_law 478 = .ok (.iaload, 1) := by decide +kernel
theorem dL_law_479 : decode cL_law 479 = .ok (.invokevirtual 43, 3) := by decide +kernel
theorem dL_law_482 : decode cL_law 482 = .ok (.aload_n 2, 1) := by decide +kernel
theorem dL_law_483 : decode cL_law 483 = .ok (.aload_n 0, 1) := by decide +kernel
theorem dL_law_484 : decode cL_law 484 = .ok (.iload_n 3, 1) := by decide +kernel
theorem dL_law_485 : decode cL_law 485 = .ok (.iconst 1, 1) := by decide +kernel
theorem dL_law_486 : decode cL_law 486 = .ok (.iadd, 1) := by decide +kernel
theorem dL_law_487 : decode cL_law 487 = .ok (.iaload, 1) := by decide +kernel
theorem dL_law_488 : decode cL_law 488 = .ok (.aload_n 0, 1) := by decide +kernel
theorem dL_law_489 : decode cL_law 489 = .ok (.iload_n 3, 1) := by decide +kernel
theorem dL_law_490 : decode cL_law 490 = .ok (.iconst 2, 1) := by decide +kernel
theorem dL_law_491 : decode cL_law 491 = .ok (.iadd, 1) := by decide +kernel
theorem dL_law_492 : decode cL_law 492 = .ok (.iaload, 1) := by decide +kernel
theorem dL_law_493 : decode cL_law 493 = .ok (.aload_n 0, 1) := by decide +kernel
theorem dL_law_494 : decode cL_law 494 = .ok (.iload_n 3, 1) := by decide +kernel
theorem dL_law_495 : decode cL_law 495 = .ok (.iconst 3, 1) := by decide +kernel
theorem dL_law_496 : decode cL_law 496 = .ok (.iadd, 1) := by decide +kernel
theorem dL_law_497 : decode cL_law 497 = .ok (.iaload, 1) := by decide +kernel
theorem dL_law_498 : decode cL_law 498 = .ok (.invokevirtual 47, 3) := by decide +kernel
theorem dL_law_501 : decode cL_law 501 = .ok (.if_icmp .eq 966, 3) := by decide +kernel
theorem dL_law_504 : decode cL_law 504 = .ok (.iconst 0, 1) := by decide +kernel
theorem dL_law_505 : decode cL_law 505 = .ok (.ireturn, 1) := by decide +kernel
theorem dL_law_506 : decode cL_law 506 = .ok (.aload_n 1, 1) := by decide +kernel
theorem dL_law_507 : decode cL_law 507 = .ok (.aload_n 0, 1) := by decide +kernel
theorem dL_law_508 : decode cL_law 508 = .ok (.iload_n 3, 1) := by decide +kernel
theorem dL_law_509 : decode cL_law 509 = .ok (.iconst 1, 1) := by decide +kernel
theorem dL_law_510 : decode cL_law 510 = .ok (.iadd, 1) := by decide +kernel
theorem dL_law_511 : decode cL_law 511 = .ok (.iaload, 1) := by decide +kernel
theorem dL_law_512 : decode cL_law 512 = .ok (.aload_n 0, 1) := by decide +kernel
theorem dL_law_513 : decode cL_law 513 = .ok (.iload_n 3, 1) := by decide +kernel
theorem dL_law_514 : decode cL_law 514 = .ok (.iconst 2, 1) := by decide +kernel
theorem dL_law_515 : decode cL_law 515 = .ok (.iadd, 1) := by decide +kernel
theorem dL_law_516 : decode cL_law 516 = .ok (.iaload, 1) := by decide +kernel
theorem dL_law_517 : decode cL_law 517 = .ok (.aload_n 0, 1) := by decide +kernel
theorem dL_law_518 : decode cL_law 518 = .ok (.iload_n 3, 1) := by decide +kernel
theorem dL_law_519 : decode cL_law 519 = .ok (.iconst 3, 1) := by decide +kernel
theorem dL_law_520 : decode cL_law 520 = .ok (.iadd, 1) := by decide +kernel
theorem dL_law_521 : decode cL_law 521 = .ok (.iaload, 1) := by decide +kernel
theorem dL_law_522 : decode cL_law 522 = .ok (.invokevirtual 48, 3) := by decide +kernel
theorem dL_law_525 : decode cL_law 525 = .ok (.aload_n 2, 1) := by decide +kernel
theorem dL_law_526 : decode cL_law 526 = .ok (.aload_n 0, 1) := by decide +kernel
theorem dL_law_527 : decode cL_law 527 = .ok (.iload_n 3, 1) := by decide +kernel
theorem dL_law_528 : decode cL_law 528 = .ok (.iconst 1, 1) := by decide +kernel
theorem dL_law_529 : decode cL_law 529 = .ok (.iadd, 1) := by decide +kernel
theorem dL_law_530 : decode cL_law 530 = .ok (.iaload, 1) := by decide +kernel
theorem dL_law_531 : decode cL_law 531 = .ok (.aload_n 0, 1) := by decide +kernel
theorem dL_law_532 : decode cL_law 532 = .ok (.iload_n 3, 1) := by decide +kernel
theorem dL_law_533 : decode cL_law 533 = .ok (.iconst 2, 1) := by decide +kernel
theorem dL_law_534 : decode cL_law 534 = .ok (.iadd, 1) := by decide +kernel
theorem dL_law_535 : decode cL_law 535 = .ok (.iaload, 1) := by decide +kernel
theorem dL_law_536 : decode cL_law 536 = .ok (.aload_n 0, 1) := by decide +kernel
theorem dL_law_537 : decode cL_law 537 = .ok (.iload_n 3, 1) := by decide +kernel
theorem dL_law_538 : decode cL_law 538 = .ok (.iconst 3, 1) := by decide +kernel
theorem dL_law_539 : decode cL_law 539 = .ok (.iadd, 1) := by decide +kernel
theorem dL_law_540 : decode cL_law 540 = .ok (.iaload, 1) := by decide +kernel
theorem dL_law_541 : decode cL_law 541 = .ok (.invokevirtual 51, 3) := by decide +kernel
theorem dL_law_544 : decode cL_law 544 = .ok (.if_icmp .eq 923, 3) := by decide +kernel
theorem dL_law_547 : decode cL_law 547 = .ok (.iconst 0, 1) := by decide +kernel
theorem dL_law_548 : decode cL_law 548 = .ok (.ireturn, 1) := by decide +kernel
theorem dL_law_549 : decode cL_law 549 = .ok (.aload_n 1, 1) := by decide +kernel
theorem dL_law_550 : decode cL_law 550 = .ok (.aload_n 0, 1) := by decide +kernel
theorem dL_law_551 : decode cL_law 551 = .ok (.iload_n 3, 1) := by decide +kernel
theorem dL_law_552 : decode cL_law 552 = .ok (.iconst 1, 1) := by decide +kernel
theorem dL_law_553 : decode cL_law 553 = .ok (.iadd, 1) := by decide +kernel
theorem dL_law_554 : decode cL_law 554 = .ok (.iaload, 1) := by decide +kernel
theorem dL_law_555 : decode cL_law 555 = .ok (.aload_n 0, 1) := by decide +kernel
theorem dL_law_556 : decode cL_law 556 = .ok (.iload_n 3, 1) := by decide +kernel
theorem dL_law_557 : decode cL_law 557 = .ok (.iconst 2, 1) := by decide +kernel
theorem dL_law_558 : decode cL_law 558 = .ok (.iadd, 1) := by decide +kernel
theorem dL_law_559 : decode cL_law 559 = .ok (.iaload, 1) := by decide +kernel
theorem dL_law_560 : decode cL_law 560 = .ok (.aload_n 0, 1) := by decide +kernel
theorem dL_law_561 : decode cL_law 561 = .ok (.iload_n 3, 1) := by decide +kernel
theorem dL_law_562 : decode cL_law 562 = .ok (.iconst 3, 1) := by decide +kernel
theorem dL_law_563 : decode cL_law 563 = .ok (.iadd, 1) := by decide +kernel
theorem dL_law_564 : decode cL_law 564 = .ok (.iaload, 1) := by decide +kernel
theorem dL_law_565 : decode cL_law 565 = .ok (.aload_n 0, 1) := by decide +kernel
theorem dL_law_566 : decode cL_law 566 = .ok (.iload_n 3, 1) := by decide +kernel
theorem dL_law_567 : decode cL_law 567 = .ok (.iconst 4, 1) := by decide +kernel
theorem dL_law_568 : decode cL_law 568 = .ok (.iadd, 1) := by decide +kernel
theorem dL_law_569 : decode cL_law 569 = .ok (.iaload, 1) := by decide +kernel
theorem dL_law_570 : decode cL_law 570 = .ok (.aload_n 0, 1) := by decide +kernel
theorem dL_law_571 : decode cL_law 571 = .ok (.iload_n 3, 1) := by decide +kernel
theorem dL_law_572 : decode cL_law 572 = .ok (.iconst 5, 1) := by decide +kernel
theorem dL_law_573 : decode cL_law 573 = .ok (.iadd, 1) := by decide +kernel
theorem dL_law_574 : decode cL_law 574 = .ok (.iaload, 1) := by decide +kernel
theorem dL_law_575 : decode cL_law 575 = .ok (.invokevirtual 52, 3) := by decide +kernel
theorem dL_law_578 : decode cL_law 578 = .ok (.aload_n 2, 1) := by decide +kernel
theorem dL_law_579 : decode cL_law 579 = .ok (.aload_n 0, 1) := by decide +kernel
theorem dL_law_580 : decode cL_law 580 = .ok (.iload_n 3, 1) := by decide +kernel
theorem dL_law_581 : decode cL_law 581 = .ok (.iconst 1, 1) := by decide +kernel
theorem dL_law_582 : decode cL_law 582 = .ok (.iadd, 1) := by decide +kernel
theorem dL_law_583 : decode cL_law 583 = .ok (.iaload, 1) := by decide +kernel
theorem dL_law_584 : decode cL_law 584 = .ok (.aload_n 0, 1) := by decide +kernel
theorem dL_law_585 : decode cL_law 585 = .ok (.iload_n 3, 1) := by decide +kernel
theorem dL_law_586 : decode cL_law 586 = .ok (.iconst 2, 1) := by decide +kernel
theorem dL_law_587 : decode cL_law 587 = .ok (.iadd, 1) := by decide +kernel
theorem dL_law_588 : decode cL_law 588 = .ok (.iaload, 1) := by decide +kernel
theorem dL_law_589 : decode cL_law 589 = .ok (.aload_n 0, 1) := by decide +kernel
theorem dL_law_590 : decode cL_law 590 = .ok (.iload_n 3, 1) := by decide +kernel
theorem dL_law_591 : decode cL_law 591 = .ok (.iconst 3, 1) := by decide +kernel
theorem dL_law_592 : decode cL_law 592 = .ok (.iadd, 1) := by decide +kernel
theorem dL_law_593 : decode cL_law 593 = .ok (.iaload, 1) := by decide +kernel
theorem dL_law_594 : decode cL_law 594 = .ok (.aload_n 0, 1) := by decide +kernel
theorem dL_law_595 : decode cL_law 595 = .ok (.iload_n 3, 1) := by decide +kernel
theorem dL_law_596 : decode cL_law 596 = .ok (.iconst 4, 1) := by decide +kernel
theorem dL_law_597 : decode cL_law 597 = .ok (.iadd, 1) := by decide +kernel
theorem dL_law_598 : decode cL_law 598 = .ok (.iaload, 1) := by decide +kernel
theorem dL_law_599 : decode cL_law 599 = .ok (.aload_n 0, 1) := by decide +kernel
theorem dL_law_600 : decode cL_law 600 = .ok (.iload_n 3, 1) := by decide +kernel
theorem dL_law_601 : decode cL_law 601 = .ok (.iconst 5, 1) := by decide +kernel
theorem dL_law_602 : decode cL_law 602 = .ok (.iadd, 1) := by decide +kernel
theorem dL_law_603 : decode cL_law 603 = .ok (.iaload, 1) := by decide +kernel
theorem dL_law_604 : decode cL_law 604 = .ok (.invokevirtual 56, 3) := by decide +kernel
theorem dL_law_607 : decode cL_law 607 = .ok (.if_icmp .eq 860, 3) := by decide +kernel
theorem dL_law_610 : decode cL_law 610 = .ok (.iconst 0, 1) := by decide +kernel
theorem dL_law_611 : decode cL_law 611 = .ok (.ireturn, 1) := by decide +kernel
theorem dL_law_612 : decode cL_law 612 = .ok (.aload_n 1, 1) := by decide +kernel
theorem dL_law_613 : decode cL_law 613 = .ok (.aload_n 0, 1) := by decide +kernel
theorem dL_law_614 : decode cL_law 614 = .ok (.iload_n 3, 1) := by decide +kernel
theorem dL_law_615 : decode cL_law 615 = .ok (.iconst 1, 1) := by decide +kernel
theorem dL_law_616 : decode cL_law 616 = .ok (.iadd, 1) := by decide +kernel
theorem dL_law_617 : decode cL_law 617 = .ok (.iaload, 1) := by decide +kernel
theorem dL_law_618 : decode cL_law 618 = .ok (.aload_n 0, 1) := by decide +kernel
theorem dL_law_619 : decode cL_law 619 = .ok (.iload_n 3, 1) := by decide +kernel
theorem dL_law_620 : decode cL_law 620 = .ok (.iconst 2, 1) := by decide +kernel
theorem dL_law_621 : decode cL_law 621 = .ok (.iadd, 1) := by decide +kernel
theorem dL_law_622 : decode cL_law 622 = .ok (.iaload, 1) := by decide +kernel
theorem dL_law_623 : decode cL_law 623 = .ok (.aload_n 0, 1) := by decide +kernel
theorem dL_law_624 : decode cL_law 624 = .ok (.iload_n 3, 1) := by decide +kernel
theorem dL_law_625 : decode cL_law 625 = .ok (.iconst 3, 1) := by decide +kernel
theorem dL_law_626 : decode cL_law 626 = .ok (.iadd, 1) := by decide +kernel
theorem dL_law_627 : decode cL_law 627 = .ok (.iaload, 1) := by decide +kernel
theorem dL_law_628 : decode cL_law 628 = .ok (.invokevirtual 57, 3) := by decide +kernel
theorem dL_law_631 : decode cL_law 631 = .ok (.aload_n 2, 1) := by decide +kernel
theorem dL_law_632 : decode cL_law 632 = .ok (.aload_n 0, 1) := by decide +kernel
theorem dL_law_633 : decode cL_law 633 = .ok (.iload_n 3, 1) := by decide +kernel
theorem dL_law_634 : decode cL_law 634 = .ok (.iconst 1, 1) := by decide +kernel
theorem dL_law_635 : decode cL_law 635 = .ok (.iadd, 1) := by decide +kernel
theorem dL_law_636 : decode cL_law 636 = .ok (.iaload, 1) := by decide +kernel
theorem dL_law_637 : decode cL_law 637 = .ok (.aload_n 0, 1) := by decide +kernel
theorem dL_law_638 : decode cL_law 638 = .ok (.iload_n 3, 1) := by decide +kernel
theorem dL_law_639 : decode cL_law 639 = .ok (.iconst 2, 1) := by decide +kernel
theorem dL_law_640 : decode cL_law 640 = .ok (.iadd, 1) := by decide +kernel
theorem dL_law_641 : decode cL_law 641 = .ok (.iaload, 1) := by decide +kernel
theorem dL_law_642 : decode cL_law 642 = .ok (.aload_n 0, 1) := by decide +kernel
theorem dL_law_643 : decode cL_law 643 = .ok (.iload_n 3, 1) := by decide +kernel
theorem dL_law_644 : decode cL_law 644 = .ok (.iconst 3, 1) := by decide +kernel
theorem dL_law_645 : decode cL_law 645 = .ok (.iadd, 1) := by decide +kernel
theorem dL_law_646 : decode cL_law 646 = .ok (.iaload, 1) := by decide +kernel
theorem dL_law_647 : decode cL_law 647 = .ok (.invokevirtual 60, 3) := by decide +kernel
theorem dL_law_650 : decode cL_law 650 = .ok (.if_icmp .eq 817, 3) := by decide +kernel
theorem dL_law_653 : decode cL_law 653 = .ok (.iconst 0, 1) := by decide +kernel
theorem dL_law_654 : decode cL_law 654 = .ok (.ireturn, 1) := by decide +kernel
theorem dL_law_655 : decode cL_law 655 = .ok (.aload_n 1, 1) := by decide +kernel
theorem dL_law_656 : decode cL_law 656 = .ok (.aload_n 0, 1) := by decide +kernel
theorem dL_law_657 : decode cL_law 657 = .ok (.iload_n 3, 1) := by decide +kernel
theorem dL_law_658 : decode cL_law 658 = .ok (.iconst 1, 1) := by decide +kernel
theorem dL_law_659 : decode cL_law 659 = .ok (.iadd, 1) := by decide +kernel
theorem dL_law_660 : decode cL_law 660 = .ok (.iaload, 1) := by decide +kernel
theorem dL_law_661 : decode cL_law 661 = .ok (.aload_n 0, 1) := by decide +kernel
theorem dL_law_662 : decode cL_law 662 = .ok (.iload_n 3, 1) := by decide +kernel
theorem dL_law_663 : decode cL_law 663 = .ok (.iconst 2, 1) := by decide +kernel
theorem dL_law_664 : decode cL_law 664 = .ok (.iadd, 1) := by decide +kernel
theorem dL_law_665 : decode cL_law 665 = .ok (.iaload, 1) := by decide +kernel
theorem dL_law_666 : decode cL_law 666 = .ok (.aload_n 0, 1) := by decide +kernel
theorem dL_law_667 : decode cL_law 667 = .ok (.iload_n 3, 1) := by decide +kernel
theorem dL_law_668 : decode cL_law 668 = .ok (.iconst 3, 1) := by decide +kernel
theorem dL_law_669 : decode cL_law 669 = .ok (.iadd, 1) := by decide +kernel
theorem dL_law_670 : decode cL_law 670 = .ok (.iaload, 1) := by decide +kernel
theorem dL_law_671 : decode cL_law 671 = .ok (.invokevirtual 61, 3) := by decide +kernel
theorem dL_law_674 : decode cL_law 674 = .ok (.aload_n 2, 1) := by decide +kernel
theorem dL_law_675 : decode cL_law 675 = .ok (.aload_n 0, 1) := by decide +kernel
theorem dL_law_676 : decode cL_law 676 = .ok (.iload_n 3, 1) := by decide +kernel
theorem dL_law_677 : decode cL_law 677 = .ok (.iconst 1, 1) := by decide +kernel
theorem dL_law_678 : decode cL_law 678 = .ok (.iadd, 1) := by decide +kernel
theorem dL_law_679 : decode cL_law 679 = .ok (.iaload, 1) := by decide +kernel
theorem dL_law_680 : decode cL_law 680 = .ok (.aload_n 0, 1) := by decide +kernel
theorem dL_law_681 : decode cL_law 681 = .ok (.iload_n 3, 1) := by decide +kernel
theorem dL_law_682 : decode cL_law 682 = .ok (.iconst 2, 1) := by decide +kernel
theorem dL_law_683 : decode cL_law 683 = .ok (.iadd, 1) := by decide +kernel
theorem dL_law_684 : decode cL_law 684 = .ok (.iaload, 1) := by decide +kernel
theorem dL_law_685 : decode cL_law 685 = .ok (.aload_n 0, 1) := by decide +kernel
theorem dL_law_686 : decode cL_law 686 = .ok (.iload_n 3, 1) := by decide +kernel
theorem dL_law_687 : decode cL_law 687 = .ok (.iconst 3, 1) := by decide +kernel
theorem dL_law_688 : decode cL_law 688 = .ok (.iadd, 1) := by decide +kernel
theorem dL_law_689 : decode cL_law 689 = .ok (.iaload, 1) := by decide +kernel
theorem dL_law_690 : decode cL_law 690 = .ok (.invokevirtual 64, 3) := by decide +kernel
theorem dL_law_693 : decode cL_law 693 = .ok (.if_icmp .eq 774, 3) := by decide +kernel
theorem dL_law_696 : decode cL_law 696 = .ok (.iconst 0, 1) := by decide +kernel
theorem dL_law_697 : decode cL_law 697 = .ok (.ireturn, 1) := by decide +kernel
theorem dL_law_698 : decode cL_law 698 = .ok (.aload_n 1, 1) := by decide +kernel
theorem dL_law_699 : decode cL_law 699 = .ok (.aload_n 0, 1) := by decide +kernel
theorem dL_law_700 : decode cL_law 700 = .ok (.iload_n 3, 1) := by decide +kernel
theorem dL_law_701 : decode cL_law 701 = .ok (.iconst 1, 1) := by decide +kernel
theorem dL_law_702 : decode cL_law 702 = .ok (.iadd, 1) := by decide +kernel
theorem dL_law_703 : decode cL_law 703 = .ok (.iaload, 1) := by decide +kernel
theorem dL_law_704 : decode cL_law 704 = .ok (.aload_n 0, 1) := by decide +kernel
theorem dL_law_705 : decode cL_law 705 = .ok (.iload_n 3, 1) := by decide +kernel
theorem dL_law_706 : decode cL_law 706 = .ok (.iconst 2, 1) := by decide +kernel
theorem dL_law_707 : decode cL_law 707 = .ok (.iadd, 1) := by decide +kernel
theorem dL_law_708 : decode cL_law 708 = .ok (.iaload, 1) := by decide +kernel
theorem dL_law_709 : decode cL_law 709 = .ok (.invokevirtual 65, 3) := by decide +kernel
theorem dL_law_712 : decode cL_law 712 = .ok (.aload_n 2, 1) := by decide +kernel
theorem dL_law_713 : decode cL_law 713 = .ok (.aload_n 0, 1) := by decide +kernel
theorem dL_law_714 : decode cL_law 714 = .ok (.iload_n 3, 1) := by decide +kernel
theorem dL_law_715 : decode cL_law 715 = .ok (.iconst 1, 1) := by decide +kernel
theorem dL_law_716 : decode cL_law 716 = .ok (.iadd, 1) := by decide +kernel
theorem dL_law_717 : decode cL_law 717 = .ok (.iaload, 1) := by decide +kernel
theorem dL_law_718 : decode cL_law 718 = .ok (.aload_n 0, 1) := by decide +kernel
theorem dL_law_719 : decode cL_law 719 = .ok (.iload_n 3, 1) := by decide +kernel
theorem dL_law_720 : decode cL_law 720 = .ok (.iconst 2, 1) := by decide +kernel
theorem dL_law_721 : decode cL_law 721 = .ok (.iadd, 1) := by decide +kernel
theorem dL_law_722 : decode cL_law 722 = .ok (.iaload, 1) := by decide +kernel
theorem dL_law_723 : decode cL_law 723 = .ok (.invokevirtual 68, 3) := by decide +kernel
theorem dL_law_726 : decode cL_law 726 = .ok (.if_icmp .eq 741, 3) := by decide +kernel
theorem dL_law_729 : decode cL_law 729 = .ok (.iconst 0, 1) := by decide +kernel
theorem dL_law_730 : decode cL_law 730 = .ok (.ireturn, 1) := by decide +kernel
theorem dL_law_731 : decode cL_law 731 = .ok (.aload_n 1, 1) := by decide +kernel
theorem dL_law_732 : decode cL_law 732 = .ok (.aload_n 0, 1) := by decide +kernel
theorem dL_law_733 : decode cL_law 733 = .ok (.iload_n 3, 1) := by decide +kernel
theorem dL_law_734 : decode cL_law 734 = .ok (.iconst 1, 1) := by decide +kernel
theorem dL_law_735 : decode cL_law 735 = .ok (.iadd, 1) := by decide +kernel
theorem dL_law_736 : decode cL_law 736 = .ok (.iaload, 1) := by decide +kernel
theorem dL_law_737 : decode cL_law 737 = .ok (.aload_n 0, 1) := by decide +kernel
theorem dL_law_738 : decode cL_law 738 = .ok (.iload_n 3, 1) := by decide +kernel
theorem dL_law_739 : decode cL_law 739 = .ok (.iconst 2, 1) := by decide +kernel
theorem dL_law_740 : decode cL_law 740 = .ok (.iadd, 1) := by decide +kernel
theorem dL_law_741 : decode cL_law 741 = .ok (.iaload, 1) := by decide +kernel
theorem dL_law_742 : decode cL_law 742 = .ok (.invokevirtual 69, 3) := by decide +kernel
theorem dL_law_745 : decode cL_law 745 = .ok (.aload_n 2, 1) := by decide +kernel
theorem dL_law_746 : decode cL_law 746 = .ok (.aload_n 0, 1) := by decide +kernel
theorem dL_law_747 : decode cL_law 747 = .ok (.iload_n 3, 1) := by decide +kernel
theorem dL_law_748 : decode cL_law 748 = .ok (.iconst 1, 1) := by decide +kernel
theorem dL_law_749 : decode cL_law 749 = .ok (.iadd, 1) := by decide +kernel
theorem dL_law_750 : decode cL_law 750 = .ok (.iaload, 1) := by decide +kernel
theorem dL_law_751 : decode cL_law 751 = .ok (.aload_n 0, 1) := by decide +kernel
theorem dL_law_752 : decode cL_law 752 = .ok (.iload_n 3, 1) := by decide +kernel
theorem dL_law_753 : decode cL_law 753 = .ok (.iconst 2, 1) := by decide +kernel
theorem dL_law_754 : decode cL_law 754 = .ok (.iadd, 1) := by decide +kernel
theorem dL_law_755 : decode cL_law 755 = .ok (.iaload, 1) := by decide +kernel
theorem dL_law_756 : decode cL_law 756 = .ok (.invokevirtual 72, 3) := by decide +kernel
theorem dL_law_759 : decode cL_law 759 = .ok (.if_icmp .eq 708, 3) := by decide +kernel
theorem dL_law_762 : decode cL_law 762 = .ok (.iconst 0, 1) := by decide +kernel
theorem dL_law_763 : decode cL_law 763 = .ok (.ireturn, 1) := by decide +kernel
theorem dL_law_764 : decode cL_law 764 = .ok (.aload_n 1, 1) := by decide +kernel
theorem dL_law_765 : decode cL_law 765 = .ok (.invokevirtual 73, 3) := by decide +kernel
theorem dL_law_768 : decode cL_law 768 = .ok (.aload_n 2, 1) := by decide +kernel
theorem dL_law_769 : decode cL_law 769 = .ok (.invokevirtual 77, 3) := by decide +kernel
theorem dL_law_772 : decode cL_law 772 = .ok (.if_icmp .eq 695, 3) := by decide +kernel
theorem dL_law_775 : decode cL_law 775 = .ok (.iconst 0, 1) := by decide +kernel
theorem dL_law_776 : decode cL_law 776 = .ok (.ireturn, 1) := by decide +kernel
theorem dL_law_777 : decode cL_law 777 = .ok (.aload_n 1, 1) := by decide +kernel
theorem dL_law_778 : decode cL_law 778 = .ok (.aload_n 0, 1) := by decide +kernel
theorem dL_law_779 : decode cL_law 779 = .ok (.iload_n 3, 1) := by decide +kernel
theorem dL_law_780 : decode cL_law 780 = .ok (.iconst 1, 1) := by decide +kernel
theorem dL_law_781 : decode cL_law 781 = .ok (.iadd, 1) := by decide +kernel
theorem dL_law_782 : decode cL_law 782 = .ok (.iaload, 1) := by decide +kernel
theorem dL_law_783 : decode cL_law 783 = .ok (.aload_n 0, 1) := by decide +kernel
theorem dL_law_784 : decode cL_law 784 = .ok (.iload_n 3, 1) := by decide +kernel
theorem dL_law_785 : decode cL_law 785 = .ok (.iconst 2, 1) := by decide +kernel
theorem dL_law_786 : decode cL_law 786 = .ok (.iadd, 1) := by decide +kernel
theorem dL_law_787 : decode cL_law 787 = .ok (.iaload, 1) := by decide +kernel
theorem dL_law_788 : decode cL_law 788 = .ok (.invokevirtual 78, 3) := by decide +kernel
theorem dL_law_791 : decode cL_law 791 = .ok (.aload_n 2, 1) := by decide +kernel
theorem dL_law_792 : decode cL_law 792 = .ok (.aload_n 0, 1) := by decide +kernel
theorem dL_law_793 : decode cL_law 793 = .ok (.iload_n 3, 1) := by decide +kernel
theorem dL_law_794 : decode cL_law 794 = .ok (.iconst 1, 1) := by decide +kernel
theorem dL_law_795 : decode cL_law 795 = .ok (.iadd, 1) := by decide +kernel
theorem dL_law_796 : decode cL_law 796 = .ok (.iaload, 1) := by decide +kernel
theorem dL_law_797 : decode cL_law 797 = .ok (.aload_n 0, 1) := by decide +kernel
theorem dL_law_798 : decode cL_law 798 = .ok (.iload_n 3, 1) := by decide +kernel
theorem dL_law_799 : decode cL_law 799 = .ok (.iconst 2, 1) := by decide +kernel
theorem dL_law_800 : decode cL_law 800 = .ok (.iadd, 1) := by decide +kernel
theorem dL_law_801 : decode cL_law 801 = .ok (.iaload, 1) := by decide +kernel
theorem dL_law_802 : decode cL_law 802 = .ok (.invokevirtual 81, 3) := by decide +kernel
theorem dL_law_805 : decode cL_law 805 = .ok (.if_icmp .eq 662, 3) := by decide +kernel
theorem dL_law_808 : decode cL_law 808 = .ok (.iconst 0, 1) := by decide +kernel
theorem dL_law_809 : decode cL_law 809 = .ok (.ireturn, 1) := by decide +kernel
theorem dL_law_810 : decode cL_law 810 = .ok (.aload_n 1, 1) := by decide +kernel
theorem dL_law_811 : decode cL_law 811 = .ok (.aload_n 0, 1) := by decide +kernel
theorem dL_law_812 : decode cL_law 812 = .ok (.iload_n 3, 1) := by decide +kernel
theorem dL_law_813 : decode cL_law 813 = .ok (.iconst 1, 1) := by decide +kernel
theorem dL_law_814 : decode cL_law 814 = .ok (.iadd, 1) := by decide +kernel
theorem dL_law_815 : decode cL_law 815 = .ok (.iaload, 1) := by decide +kernel
theorem dL_law_816 : decode cL_law 816 = .ok (.aload_n 0, 1) := by decide +kernel
theorem dL_law_817 : decode cL_law 817 = .ok (.iload_n 3, 1) := by decide +kernel
theorem dL_law_818 : decode cL_law 818 = .ok (.iconst 2, 1) := by decide +kernel
theorem dL_law_819 : decode cL_law 819 = .ok (.iadd, 1) := by decide +kernel
theorem dL_law_820 : decode cL_law 820 = .ok (.iaload, 1) := by decide +kernel
theorem dL_law_821 : decode cL_law 821 = .ok (.aload_n 0, 1) := by decide +kernel
theorem dL_law_822 : decode cL_law 822 = .ok (.iload_n 3, 1) := by decide +kernel
theorem dL_law_823 : decode cL_law 823 = .ok (.iconst 3, 1) := by decide +kernel
theorem dL_law_824 : decode cL_law 824 = .ok (.iadd, 1) := by decide +kernel
theorem dL_law_825 : decode cL_law 825 = .ok (.iaload, 1) := by decide +kernel
theorem dL_law_826 : decode cL_law 826 = .ok (.invokevirtual 82, 3) := by decide +kernel
theorem dL_law_829 : decode cL_law 829 = .ok (.aload_n 2, 1) := by decide +kernel
theorem dL_law_830 : decode cL_law 830 = .ok (.aload_n 0, 1) := by decide +kernel
theorem dL_law_831 : decode cL_law 831 = .ok (.iload_n 3, 1) := by decide +kernel
theorem dL_law_832 : decode cL_law 832 = .ok (.iconst 1, 1) := by decide +kernel
theorem dL_law_833 : decode cL_law 833 = .ok (.iadd, 1) := by decide +kernel
theorem dL_law_834 : decode cL_law 834 = .ok (.iaload, 1) := by decide +kernel
theorem dL_law_835 : decode cL_law 835 = .ok (.aload_n 0, 1) := by decide +kernel
theorem dL_law_836 : decode cL_law 836 = .ok (.iload_n 3, 1) := by decide +kernel
theorem dL_law_837 : decode cL_law 837 = .ok (.iconst 2, 1) := by decide +kernel
theorem dL_law_838 : decode cL_law 838 = .ok (.iadd, 1) := by decide +kernel
theorem dL_law_839 : decode cL_law 839 = .ok (.iaload, 1) := by decide +kernel
theorem dL_law_840 : decode cL_law 840 = .ok (.aload_n 0, 1) := by decide +kernel
theorem dL_law_841 : decode cL_law 841 = .ok (.iload_n 3, 1) := by decide +kernel
theorem dL_law_842 : decode cL_law 842 = .ok (.iconst 3, 1) := by decide +kernel
theorem dL_law_843 : decode cL_law 843 = .ok (.iadd, 1) := by decide +kernel
theorem dL_law_844 : decode cL_law 844 = .ok (.iaload, 1) := by decide +kernel
theorem dL_law_845 : decode cL_law 845 = .ok (.invokevirtual 85, 3) := by decide +kernel
theorem dL_law_848 : decode cL_law 848 = .ok (.if_icmp .eq 619, 3) := by decide +kernel
theorem dL_law_851 : decode cL_law 851 = .ok (.iconst 0, 1) := by decide +kernel
theorem dL_law_852 : decode cL_law 852 = .ok (.ireturn, 1) := by decide +kernel
theorem dL_law_853 : decode cL_law 853 = .ok (.aload_n 1, 1) := by decide +kernel
theorem dL_law_854 : decode cL_law 854 = .ok (.aload_n 0, 1) := by decide +kernel
theorem dL_law_855 : decode cL_law 855 = .ok (.iload_n 3, 1) := by decide +kernel
theorem dL_law_856 : decode cL_law 856 = .ok (.iconst 1, 1) := by decide +kernel
theorem dL_law_857 : decode cL_law 857 = .ok (.iadd, 1) := by decide +kernel
theorem dL_law_858 : decode cL_law 858 = .ok (.iaload, 1) := by decide +kernel
theorem dL_law_859 : decode cL_law 859 = .ok (.aload_n 0, 1) := by decide +kernel
theorem dL_law_860 : decode cL_law 860 = .ok (.iload_n 3, 1) := by decide +kernel
theorem dL_law_861 : decode cL_law 861 = .ok (.iconst 2, 1) := by decide +kernel
theorem dL_law_862 : decode cL_law 862 = .ok (.iadd, 1) := by decide +kernel
theorem dL_law_863 : decode cL_law 863 = .ok (.iaload, 1) := by decide +kernel
theorem dL_law_864 : decode cL_law 864 = .ok (.invokevirtual 86, 3) := by decide +kernel
theorem dL_law_867 : decode cL_law 867 = .ok (.aload_n 2, 1) := by decide +kernel
theorem dL_law_868 : decode cL_law 868 = .ok (.aload_n 0, 1) := by decide +kernel
theorem dL_law_869 : decode cL_law 869 = .ok (.iload_n 3, 1) := by decide +kernel
theorem dL_law_870 : decode cL_law 870 = .ok (.iconst 1, 1) := by decide +kernel
theorem dL_law_871 : decode cL_law 871 = .ok (.iadd, 1) := by decide +kernel
theorem dL_law_872 : decode cL_law 872 = .ok (.iaload, 1) := by decide +kernel
theorem dL_law_873 : decode cL_law 873 = .ok (.aload_n 0, 1) := by decide +kernel
theorem dL_law_874 : decode cL_law 874 = .ok (.iload_n 3, 1) := by decide +kernel
theorem dL_law_875 : decode cL_law 875 = .ok (.iconst 2, 1) := by decide +kernel
theorem dL_law_876 : decode cL_law 876 = .ok (.iadd, 1) := by decide +kernel
theorem dL_law_877 : decode cL_law 877 = .ok (.iaload, 1) := by decide +kernel
theorem dL_law_878 : decode cL_law 878 = .ok (.invokevirtual 89, 3) := by decide +kernel
theorem dL_law_881 : decode cL_law 881 = .ok (.if_icmp .eq 586, 3) := by decide +kernel
theorem dL_law_884 : decode cL_law 884 = .ok (.iconst 0, 1) := by decide +kernel
theorem dL_law_885 : decode cL_law 885 = .ok (.ireturn, 1) := by decide +kernel
theorem dL_law_886 : decode cL_law 886 = .ok (.aload_n 1, 1) := by decide +kernel
theorem dL_law_887 : decode cL_law 887 = .ok (.aload_n 0, 1) := by decide +kernel
theorem dL_law_888 : decode cL_law 888 = .ok (.iload_n 3, 1) := by decide +kernel
theorem dL_law_889 : decode cL_law 889 = .ok (.iconst 1, 1) := by decide +kernel
theorem dL_law_890 : decode cL_law 890 = .ok (.iadd, 1) := by decide +kernel
theorem dL_law_891 : decode cL_law 891 = .ok (.iaload, 1) := by decide +kernel
theorem dL_law_892 : decode cL_law 892 = .ok (.aload_n 0, 1) := by decide +kernel
theorem dL_law_893 : decode cL_law 893 = .ok (.iload_n 3, 1) := by decide +kernel
theorem dL_law_894 : decode cL_law 894 = .ok (.iconst 2, 1) := by decide +kernel
theorem dL_law_895 : decode cL_law 895 = .ok (.iadd, 1) := by decide +kernel
theorem dL_law_896 : decode cL_law 896 = .ok (.iaload, 1) := by decide +kernel
theorem dL_law_897 : decode cL_law 897 = .ok (.invokevirtual 90, 3) := by decide +kernel
theorem dL_law_900 : decode cL_law 900 = .ok (.aload_n 2, 1) := by decide +kernel
theorem dL_law_901 : decode cL_law 901 = .ok (.aload_n 0, 1) := by decide +kernel
theorem dL_law_902 : decode cL_law 902 = .ok (.iload_n 3, 1) := by decide +kernel
theorem dL_law_903 : decode cL_law 903 = .ok (.iconst 1, 1) := by decide +kernel
theorem dL_law_904 : decode cL_law 904 = .ok (.iadd, 1) := by decide +kernel
theorem dL_law_905 : decode cL_law 905 = .ok (.iaload, 1) := by decide +kernel
theorem dL_law_906 : decode cL_law 906 = .ok (.aload_n 0, 1) := by decide +kernel
theorem dL_law_907 : decode cL_law 907 = .ok (.iload_n 3, 1) := by decide +kernel
theorem dL_law_908 : decode cL_law 908 = .ok (.iconst 2, 1) := by decide +kernel
theorem dL_law_909 : decode cL_law 909 = .ok (.iadd, 1) := by decide +kernel
theorem dL_law_910 : decode cL_law 910 = .ok (.iaload, 1) := by decide +kernel
theorem dL_law_911 : decode cL_law 911 = .ok (.invokevirtual 93, 3) := by decide +kernel
theorem dL_law_914 : decode cL_law 914 = .ok (.if_icmp .eq 553, 3) := by decide +kernel
theorem dL_law_917 : decode cL_law 917 = .ok (.iconst 0, 1) := by decide +kernel
theorem dL_law_918 : decode cL_law 918 = .ok (.ireturn, 1) := by decide +kernel
theorem dL_law_919 : decode cL_law 919 = .ok (.aload_n 1, 1) := by decide +kernel
theorem dL_law_920 : decode cL_law 920 = .ok (.aload_n 0, 1) := by decide +kernel
theorem dL_law_921 : decode cL_law 921 = .ok (.iload_n 3, 1) := by decide +kernel
theorem dL_law_922 : decode cL_law 922 = .ok (.iconst 1, 1) := by decide +kernel
theorem dL_law_923 : decode cL_law 923 = .ok (.iadd, 1) := by decide +kernel
theorem dL_law_924 : decode cL_law 924 = .ok (.iaload, 1) := by decide +kernel
theorem dL_law_925 : decode cL_law 925 = .ok (.aload_n 0, 1) := by decide +kernel
theorem dL_law_926 : decode cL_law 926 = .ok (.iload_n 3, 1) := by decide +kernel
theorem dL_law_927 : decode cL_law 927 = .ok (.iconst 2, 1) := by decide +kernel
theorem dL_law_928 : decode cL_law 928 = .ok (.iadd, 1) := by decide +kernel
theorem dL_law_929 : decode cL_law 929 = .ok (.iaload, 1) := by decide +kernel
theorem dL_law_930 : decode cL_law 930 = .ok (.invokevirtual 94, 3) := by decide +kernel
theorem dL_law_933 : decode cL_law 933 = .ok (.aload_n 2, 1) := by decide +kernel
theorem dL_law_934 : decode cL_law 934 = .ok (.aload_n 0, 1) := by decide +kernel
theorem dL_law_935 : decode cL_law 935 = .ok (.iload_n 3, 1) := by decide +kernel
theorem dL_law_936 : decode cL_law 936 = .ok (.iconst 1, 1) := by decide +kernel
theorem dL_law_937 : decode cL_law 937 = .ok (.iadd, 1) := by decide +kernel
theorem dL_law_938 : decode cL_law 938 = .ok (.iaload, 1) := by decide +kernel
theorem dL_law_939 : decode cL_law 939 = .ok (.aload_n 0, 1) := by decide +kernel
theorem dL_law_940 : decode cL_law 940 = .ok (.iload_n 3, 1) := by decide +kernel
theorem dL_law_941 : decode cL_law 941 = .ok (.iconst 2, 1) := by decide +kernel
theorem dL_law_942 : decode cL_law 942 = .ok (.iadd, 1) := by decide +kernel
theorem dL_law_943 : decode cL_law 943 = .ok (.iaload, 1) := by decide +kernel
theorem dL_law_944 : decode cL_law 944 = .ok (.invokevirtual 97, 3) := by decide +kernel
theorem dL_law_947 : decode cL_law 947 = .ok (.if_icmp .eq 520, 3) := by decide +kernel
theorem dL_law_950 : decode cL_law 950 = .ok (.iconst 0, 1) := by decide +kernel
theorem dL_law_951 : decode cL_law 951 = .ok (.ireturn, 1) := by decide +kernel
theorem dL_law_952 : decode cL_law 952 = .ok (.aload_n 1, 1) := by decide +kernel
theorem dL_law_953 : decode cL_law 953 = .ok (.aload_n 0, 1) := by decide +kernel
theorem dL_law_954 : decode cL_law 954 = .ok (.iload_n 3, 1) := by decide +kernel
theorem dL_law_955 : decode cL_law 955 = .ok (.iconst 1, 1) := by decide +kernel
theorem dL_law_956 : decode cL_law 956 = .ok (.iadd, 1) := by decide +kernel
theorem dL_law_957 : decode cL_law 957 = .ok (.iaload, 1) := by decide +kernel
theorem dL_law_958 : decode cL_law 958 = .ok (.aload_n 0, 1) := by decide +kernel
theorem dL_law_959 : decode cL_law 959 = .ok (.iload_n 3, 1) := by decide +kernel
theorem dL_law_960 : decode cL_law 960 = .ok (.iconst 2, 1) := by decide +kernel
theorem dL_law_961 : decode cL_law 961 = .ok (.iadd, 1) := by decide +kernel
theorem dL_law_962 : decode cL_law 962 = .ok (.iaload, 1) := by decide +kernel
theorem dL_law_963 : decode cL_law 963 = .ok (.invokevirtual 98, 3) := by decide +kernel
theorem dL_law_966 : decode cL_law 966 = .ok (.aload_n 2, 1) := by decide +kernel
theorem dL_law_967 : decode cL_law 967 = .ok (.aload_n 0, 1) := by decide +kernel
theorem dL_law_968 : decode cL_law 968 = .ok (.iload_n 3, 1) := by decide +kernel
theorem dL_law_969 : decode cL_law 969 = .ok (.iconst 1, 1) := by decide +kernel
theorem dL_law_970 : decode cL_law 970 = .ok (.iadd, 1) := by decide +kernel
theorem dL_law_971 : decode cL_law 971 = .ok (.iaload, 1) := by decide +kernel
theorem dL_law_972 : decode cL_law 972 = .ok (.aload_n 0, 1) := by decide +kernel
theorem dL_law_973 : decode cL_law 973 = .ok (.iload_n 3, 1) := by decide +kernel
theorem dL_law_974 : decode cL_law 974 = .ok (.iconst 2, 1) := by decide +kernel
theorem dL_law_975 : decode cL_law 975 = .ok (.iadd, 1) := by decide +kernel
theorem dL_law_976 : decode cL_law 976 = .ok (.iaload, 1) := by decide +kernel
theorem dL_law_977 : decode cL_law 977 = .ok (.invokevirtual 101, 3) := by decide +kernel
theorem dL_law_980 : decode cL_law 980 = .ok (.if_icmp .eq 487, 3) := by decide +kernel
theorem dL_law_983 : decode cL_law 983 = .ok (.iconst 0, 1) := by decide +kernel
theorem dL_law_984 : decode cL_law 984 = .ok (.ireturn, 1) := by decide +kernel
theorem dL_law_985 : decode cL_law 985 = .ok (.aload_n 1, 1) := by decide +kernel
theorem dL_law_986 : decode cL_law 986 = .ok (.aload_n 0, 1) := by decide +kernel
theorem dL_law_987 : decode cL_law 987 = .ok (.iload_n 3, 1) := by decide +kernel
theorem dL_law_988 : decode cL_law 988 = .ok (.iconst 1, 1) := by decide +kernel
theorem dL_law_989 : decode cL_law 989 = .ok (.iadd, 1) := by decide +kernel
theorem dL_law_990 : decode cL_law 990 = .ok (.iaload, 1) := by decide +kernel
theorem dL_law_991 : decode cL_law 991 = .ok (.invokevirtual 102, 3) := by decide +kernel
theorem dL_law_994 : decode cL_law 994 = .ok (.aload_n 2, 1) := by decide +kernel
theorem dL_law_995 : decode cL_law 995 = .ok (.aload_n 0, 1) := by decide +kernel
theorem dL_law_996 : decode cL_law 996 = .ok (.iload_n 3, 1) := by decide +kernel
theorem dL_law_997 : decode cL_law 997 = .ok (.iconst 1, 1) := by decide +kernel
theorem dL_law_998 : decode cL_law 998 = .ok (.iadd, 1) := by decide +kernel
theorem dL_law_999 : decode cL_law 999 = .ok (.iaload, 1) := by decide +kernel
theorem dL_law_1000 : decode cL_law 1000 = .ok (.invokevirtual 106, 3) := by decide +kernel
theorem dL_law_1003 : decode cL_law 1003 = .ok (.if_icmp .eq 464, 3) := by decide +kernel
theorem dL_law_1006 : decode cL_law 1006 = .ok (.iconst 0, 1) := by decide +kernel
theorem dL_law_1007 : decode cL_law 1007 = .ok (.ireturn, 1) := by decide +kernel
theorem dL_law_1008 : decode cL_law 1008 = .ok (.aload_n 1, 1) := by decide +kernel
theorem dL_law_1009 : decode cL_law 1009 = .ok (.aload_n 0, 1) := by decide +kernel
theorem dL_law_1010 : decode cL_law 1010 = .ok (.iload_n 3, 1) := by decide +kernel
theorem dL_law_1011 : decode cL_law 1011 = .ok (.iconst 1, 1) := by decide +kernel
theorem dL_law_1012 : decode cL_law 1012 = .ok (.iadd, 1) := by decide +kernel
theorem dL_law_1013 : decode cL_law 1013 = .ok (.iaload, 1) := by decide +kernel
theorem dL_law_1014 : decode cL_law 1014 = .ok (.aload_n 0, 1) := by decide +kernel
theorem dL_law_1015 : decode cL_law 1015 = .ok (.iload_n 3, 1) := by decide +kernel
theorem dL_law_1016 : decode cL_law 1016 = .ok (.iconst 2, 1) := by decide +kernel
theorem dL_law_1017 : decode cL_law 1017 = .ok (.iadd, 1) := by decide +kernel
theorem dL_law_1018 : decode cL_law 1018 = .ok (.iaload, 1) := by decide +kernel
theorem dL_law_1019 : decode cL_law 1019 = .ok (.aload_n 0, 1) := by decide +kernel
theorem dL_law_1020 : decode cL_law 1020 = .ok (.iload_n 3, 1) := by decide +kernel
theorem dL_law_1021 : decode cL_law 1021 = .ok (.iconst 3, 1) := by decide +kernel
theorem dL_law_1022 : decode cL_law 1022 = .ok (.iadd, 1) := by decide +kernel
theorem dL_law_1023 : decode cL_law 1023 = .ok (.iaload, 1) := by decide +kernel
theorem dL_law_1024 : decode cL_law 1024 = .ok (.aload_n 0, 1) := by decide +kernel
theorem dL_law_1025 : decode cL_law 1025 = .ok (.iload_n 3, 1) := by decide +kernel
theorem dL_law_1026 : decode cL_law 1026 = .ok (.iconst 4, 1) := by decide +kernel
theorem dL_law_1027 : decode cL_law 1027 = .ok (.iadd, 1) := by decide +kernel
theorem dL_law_1028 : decode cL_law 1028 = .ok (.iaload, 1) := by decide +kernel
theorem dL_law_1029 : decode cL_law 1029 = .ok (.invokevirtual 107, 3) := by decide +kernel
theorem dL_law_1032 : decode cL_law 1032 = .ok (.aload_n 2, 1) := by decide +kernel
theorem dL_law_1033 : decode cL_law 1033 = .ok (.aload_n 0, 1) := by decide +kernel
theorem dL_law_1034 : decode cL_law 1034 = .ok (.iload_n 3, 1) := by decide +kernel
theorem dL_law_1035 : decode cL_law 1035 = .ok (.iconst 1, 1) := by decide +kernel
theorem dL_law_1036 : decode cL_law 1036 = .ok (.iadd, 1) := by decide +kernel
theorem dL_law_1037 : decode cL_law 1037 = .ok (.iaload, 1) := by decide +kernel
theorem dL_law_1038 : decode cL_law 1038 = .ok (.aload_n 0, 1) := by decide +kernel
theorem dL_law_1039 : decode cL_law 1039 = .ok (.iload_n 3, 1) := by decide +kernel
theorem dL_law_1040 : decode cL_law 1040 = .ok (.iconst 2, 1) := by decide +kernel
theorem dL_law_1041 : decode cL_law 1041 = .ok (.iadd, 1) := by decide +kernel
theorem dL_law_1042 : decode cL_law 1042 = .ok (.iaload, 1) := by decide +kernel
theorem dL_law_1043 : decode cL_law 1043 = .ok (.aload_n 0, 1) := by decide +kernel
theorem dL_law_1044 : decode cL_law 1044 = .ok (.iload_n 3, 1) := by decide +kernel
theorem dL_law_1045 : decode cL_law 1045 = .ok (.iconst 3, 1) := by decide +kernel
theorem dL_law_1046 : decode cL_law 1046 = .ok (.iadd, 1) := by decide +kernel
theorem dL_law_1047 : decode cL_law 1047 = .ok (.iaload, 1) := by decide +kernel
theorem dL_law_1048 : decode cL_law 1048 = .ok (.aload_n 0, 1) := by decide +kernel
theorem dL_law_1049 : decode cL_law 1049 = .ok (.iload_n 3, 1) := by decide +kernel
theorem dL_law_1050 : decode cL_law 1050 = .ok (.iconst 4, 1) := by decide +kernel
theorem dL_law_1051 : decode cL_law 1051 = .ok (.iadd, 1) := by decide +kernel
theorem dL_law_1052 : decode cL_law 1052 = .ok (.iaload, 1) := by decide +kernel
theorem dL_law_1053 : decode cL_law 1053 = .ok (.invokevirtual 110, 3) := by decide +kernel
theorem dL_law_1056 : decode cL_law 1056 = .ok (.if_icmp .eq 411, 3) := by decide +kernel
theorem dL_law_1059 : decode cL_law 1059 = .ok (.iconst 0, 1) := by decide +kernel
theorem dL_law_1060 : decode cL_law 1060 = .ok (.ireturn, 1) := by decide +kernel
theorem dL_law_1061 : decode cL_law 1061 = .ok (.aload_n 1, 1) := by decide +kernel
theorem dL_law_1062 : decode cL_law 1062 = .ok (.aload_n 0, 1) := by decide +kernel
theorem dL_law_1063 : decode cL_law 1063 = .ok (.iload_n 3, 1) := by decide +kernel
theorem dL_law_1064 : decode cL_law 1064 = .ok (.iconst 1, 1) := by decide +kernel
theorem dL_law_1065 : decode cL_law 1065 = .ok (.iadd, 1) := by decide +kernel
theorem dL_law_1066 : decode cL_law 1066 = .ok (.iaload, 1) := by decide +kernel
theorem dL_law_1067 : decode cL_law 1067 = .ok (.aload_n 0, 1) := by decide +kernel
theorem dL_law_1068 : decode cL_law 1068 = .ok (.iload_n 3, 1) := by decide +kernel
theorem dL_law_1069 : decode cL_law 1069 = .ok (.iconst 2, 1) := by decide +kernel
theorem dL_law_1070 : decode cL_law 1070 = .ok (.iadd, 1) := by decide +kernel
theorem dL_law_1071 : decode cL_law 1071 = .ok (.iaload, 1) := by decide +kernel
theorem dL_law_1072 : decode cL_law 1072 = .ok (.invokevirtual 111, 3) := by decide +kernel
theorem dL_law_1075 : decode cL_law 1075 = .ok (.aload_n 2, 1) := by decide +kernel
theorem dL_law_1076 : decode cL_law 1076 = .ok (.aload_n 0, 1) := by decide +kernel
theorem dL_law_1077 : decode cL_law 1077 = .ok (.iload_n 3, 1) := by decide +kernel
theorem dL_law_1078 : decode cL_law 1078 = .ok (.iconst 1, 1) := by decide +kernel
theorem dL_law_1079 : decode cL_law 1079 = .ok (.iadd, 1) := by decide +kernel
theorem dL_law_1080 : decode cL_law 1080 = .ok (.iaload, 1) := by decide +kernel
theorem dL_law_1081 : decode cL_law 1081 = .ok (.aload_n 0, 1) := by decide +kernel
theorem dL_law_1082 : decode cL_law 1082 = .ok (.iload_n 3, 1) := by decide +kernel
theorem dL_law_1083 : decode cL_law 1083 = .ok (.iconst 2, 1) := by decide +kernel
theorem dL_law_1084 : decode cL_law 1084 = .ok (.iadd, 1) := by decide +kernel
theorem dL_law_1085 : decode cL_law 1085 = .ok (.iaload, 1) := by decide +kernel
theorem dL_law_1086 : decode cL_law 1086 = .ok (.invokevirtual 114, 3) := by decide +kernel
theorem dL_law_1089 : decode cL_law 1089 = .ok (.if_icmp .eq 378, 3) := by decide +kernel
theorem dL_law_1092 : decode cL_law 1092 = .ok (.iconst 0, 1) := by decide +kernel
theorem dL_law_1093 : decode cL_law 1093 = .ok (.ireturn, 1) := by decide +kernel
theorem dL_law_1094 : decode cL_law 1094 = .ok (.aload_n 1, 1) := by decide +kernel
theorem dL_law_1095 : decode cL_law 1095 = .ok (.aload_n 0, 1) := by decide +kernel
theorem dL_law_1096 : decode cL_law 1096 = .ok (.iload_n 3, 1) := by decide +kernel
theorem dL_law_1097 : decode cL_law 1097 = .ok (.iconst 1, 1) := by decide +kernel
theorem dL_law_1098 : decode cL_law 1098 = .ok (.iadd, 1) := by decide +kernel
theorem dL_law_1099 : decode cL_law 1099 = .ok (.iaload, 1) := by decide +kernel
theorem dL_law_1100 : decode cL_law 1100 = .ok (.aload_n 0, 1) := by decide +kernel
theorem dL_law_1101 : decode cL_law 1101 = .ok (.iload_n 3, 1) := by decide +kernel
theorem dL_law_1102 : decode cL_law 1102 = .ok (.iconst 2, 1) := by decide +kernel
theorem dL_law_1103 : decode cL_law 1103 = .ok (.iadd, 1) := by decide +kernel
theorem dL_law_1104 : decode cL_law 1104 = .ok (.iaload, 1) := by decide +kernel
theorem dL_law_1105 : decode cL_law 1105 = .ok (.aload_n 0, 1) := by decide +kernel
theorem dL_law_1106 : decode cL_law 1106 = .ok (.iload_n 3, 1) := by decide +kernel
theorem dL_law_1107 : decode cL_law 1107 = .ok (.iconst 3, 1) := by decide +kernel
theorem dL_law_1108 : decode cL_law 1108 = .ok (.iadd, 1) := by decide +kernel
theorem dL_law_1109 : decode cL_law 1109 = .ok (.iaload, 1) := by decide +kernel
theorem dL_law_1110 : decode cL_law 1110 = .ok (.invokevirtual 115, 3) := by decide +kernel
theorem dL_law_1113 : decode cL_law 1113 = .ok (.aload_n 2, 1) := by decide +kernel
theorem dL_law_1114 : decode cL_law 1114 = .ok (.aload_n 0, 1) := by decide +kernel
theorem dL_law_1115 : decode cL_law 1115 = .ok (.iload_n 3, 1) := by decide +kernel
theorem dL_law_1116 : decode cL_law 1116 = .ok (.iconst 1, 1) := by decide +kernel
theorem dL_law_1117 : decode cL_law 1117 = .ok (.iadd, 1) := by decide +kernel
theorem dL_law_1118 : decode cL_law 1118 = .ok (.iaload, 1) := by decide +kernel
theorem dL_law_1119 : decode cL_law 1119 = .ok (.aload_n 0, 1) := by decide +kernel
theorem dL_law_1120 : decode cL_law 1120 = .ok (.iload_n 3, 1) := by decide +kernel
theorem dL_law_1121 : decode cL_law 1121 = .ok (.iconst 2, 1) := by decide +kernel
theorem dL_law_1122 : decode cL_law 1122 = .ok (.iadd, 1) := by decide +kernel
theorem dL_law_1123 : decode cL_law 1123 = .ok (.iaload, 1) := by decide +kernel
theorem dL_law_1124 : decode cL_law 1124 = .ok (.aload_n 0, 1) := by decide +kernel
theorem dL_law_1125 : decode cL_law 1125 = .ok (.iload_n 3, 1) := by decide +kernel
theorem dL_law_1126 : decode cL_law 1126 = .ok (.iconst 3, 1) := by decide +kernel
theorem dL_law_1127 : decode cL_law 1127 = .ok (.iadd, 1) := by decide +kernel
theorem dL_law_1128 : decode cL_law 1128 = .ok (.iaload, 1) := by decide +kernel
theorem dL_law_1129 : decode cL_law 1129 = .ok (.invokevirtual 118, 3) := by decide +kernel
theorem dL_law_1132 : decode cL_law 1132 = .ok (.if_icmp .eq 335, 3) := by decide +kernel
theorem dL_law_1135 : decode cL_law 1135 = .ok (.iconst 0, 1) := by decide +kernel
theorem dL_law_1136 : decode cL_law 1136 = .ok (.ireturn, 1) := by decide +kernel
theorem dL_law_1137 : decode cL_law 1137 = .ok (.aload_n 1, 1) := by decide +kernel
theorem dL_law_1138 : decode cL_law 1138 = .ok (.aload_n 0, 1) := by decide +kernel
theorem dL_law_1139 : decode cL_law 1139 = .ok (.iload_n 3, 1) := by decide +kernel
theorem dL_law_1140 : decode cL_law 1140 = .ok (.iconst 1, 1) := by decide +kernel
theorem dL_law_1141 : decode cL_law 1141 = .ok (.iadd, 1) := by decide +kernel
theorem dL_law_1142 : decode cL_law 1142 = .ok (.iaload, 1) := by decide +kernel
theorem dL_law_1143 : decode cL_law 1143 = .ok (.invokevirtual 119, 3) := by decide +kernel
theorem dL_law_1146 : decode cL_law 1146 = .ok (.aload_n 2, 1) := by decide +kernel
theorem dL_law_1147 : decode cL_law 1147 = .ok (.aload_n 0, 1) := by decide +kernel
theorem dL_law_1148 : decode cL_law 1148 = .ok (.iload_n 3, 1) := by decide +kernel
theorem dL_law_1149 : decode cL_law 1149 = .ok (.iconst 1, 1) := by decide +kernel
theorem dL_law_1150 : decode cL_law 1150 = .ok (.iadd, 1) := by decide +kernel
theorem dL_law_1151 : decode cL_law 1151 = .ok (.iaload, 1) := by decide +kernel
theorem dL_law_1152 : decode cL_law 1152 = .ok (.invokevirtual 122, 3) := by decide +kernel
theorem dL_law_1155 : decode cL_law 1155 = .ok (.if_icmp .eq 312, 3) := by decide +kernel
theorem dL_law_1158 : decode cL_law 1158 = .ok (.iconst 0, 1) := by decide +kernel
theorem dL_law_1159 : decode cL_law 1159 = .ok (.ireturn, 1) := by decide +kernel
theorem dL_law_1160 : decode cL_law 1160 = .ok (.aload_n 1, 1) := by decide +kernel
theorem dL_law_1161 : decode cL_law 1161 = .ok (.aload_n 0, 1) := by decide +kernel
theorem dL_law_1162 : decode cL_law 1162 = .ok (.iload_n 3, 1) := by decide +kernel
theorem dL_law_1163 : decode cL_law 1163 = .ok (.iconst 1, 1) := by decide +kernel
theorem dL_law_1164 : decode cL_law 1164 = .ok (.iadd, 1) := by decide +kernel
theorem dL_law_1165 : decode cL_law 1165 = .ok (.iaload, 1) := by decide +kernel
theorem dL_law_1166 : decode cL_law 1166 = .ok (.aload_n 0, 1) := by decide +kernel
theorem dL_law_1167 : decode cL_law 1167 = .ok (.iload_n 3, 1) := by decide +kernel
theorem dL_law_1168 : decode cL_law 1168 = .ok (.iconst 2, 1) := by decide +kernel
theorem dL_law_1169 : decode cL_law 1169 = .ok (.iadd, 1) := by decide +kernel
theorem dL_law_1170 : decode cL_law 1170 = .ok (.iaload, 1) := by decide +kernel
theorem dL_law_1171 : decode cL_law 1171 = .ok (.ifCond .eq 7, 3) := by decide +kernel
theorem dL_law_1174 : decode cL_law 1174 = .ok (.iconst 1, 1) := by decide +kernel
theorem dL_law_1175 : decode cL_law 1175 = .ok (.goto 4, 3) := by decide +kernel
theorem dL_law_1178 : decode cL_law 1178 = .ok (.iconst 0, 1) := by decide +kernel
theorem dL_law_1179 : decode cL_law 1179 = .ok (.invokevirtual 123, 3) := by decide +kernel
theorem dL_law_1182 : decode cL_law 1182 = .ok (.aload_n 2, 1) := by decide +kernel
theorem dL_law_1183 : decode cL_law 1183 = .ok (.aload_n 0, 1) := by decide +kernel
theorem dL_law_1184 : decode cL_law 1184 = .ok (.iload_n 3, 1) := by decide +kernel
theorem dL_law_1185 : decode cL_law 1185 = .ok (.iconst 1, 1) := by decide +kernel
theorem dL_law_1186 : decode cL_law 1186 = .ok (.iadd, 1) := by decide +kernel
theorem dL_law_1187 : decode cL_law 1187 = .ok (.iaload, 1) := by decide +kernel
theorem dL_law_1188 : decode cL_law 1188 = .ok (.aload_n 0, 1) := by decide +kernel
theorem dL_law_1189 : decode cL_law 1189 = .ok (.iload_n 3, 1) := by decide +kernel
theorem dL_law_1190 : decode cL_law 1190 = .ok (.iconst 2, 1) := by decide +kernel
theorem dL_law_1191 : decode cL_law 1191 = .ok (.iadd, 1) := by decide +kernel
theorem dL_law_1192 : decode cL_law 1192 = .ok (.iaload, 1) := by decide +kernel
theorem dL_law_1193 : decode cL_law 1193 = .ok (.ifCond .eq 7, 3) := by decide +kernel
theorem dL_law_1196 : decode cL_law 1196 = .ok (.iconst 1, 1) := by decide +kernel
theorem dL_law_1197 : decode cL_law 1197 = .ok (.goto 4, 3) := by decide +kernel
theorem dL_law_1200 : decode cL_law 1200 = .ok (.iconst 0, 1) := by decide +kernel
theorem dL_law_1201 : decode cL_law 1201 = .ok (.invokevirtual 127, 3) := by decide +kernel
theorem dL_law_1204 : decode cL_law 1204 = .ok (.if_icmp .eq 263, 3) := by decide +kernel
theorem dL_law_1207 : decode cL_law 1207 = .ok (.iconst 0, 1) := by decide +kernel
theorem dL_law_1208 : decode cL_law 1208 = .ok (.ireturn, 1) := by decide +kernel
theorem dL_law_1209 : decode cL_law 1209 = .ok (.aload_n 1, 1) := by decide +kernel
theorem dL_law_1210 : decode cL_law 1210 = .ok (.aload_n 0, 1) := by decide +kernel
theorem dL_law_1211 : decode cL_law 1211 = .ok (.iload_n 3, 1) := by decide +kernel
theorem dL_law_1212 : decode cL_law 1212 = .ok (.iconst 1, 1) := by decide +kernel
theorem dL_law_1213 : decode cL_law 1213 = .ok (.iadd, 1) := by decide +kernel
theorem dL_law_1214 : decode cL_law 1214 = .ok (.iaload, 1) := by decide +kernel
theorem dL_law_1215 : decode cL_law 1215 = .ok (.aload_n 0, 1) := by decide +kernel
theorem dL_law_1216 : decode cL_law 1216 = .ok (.iload_n 3, 1) := by decide +kernel
theorem dL_law_1217 : decode cL_law 1217 = .ok (.iconst 2, 1) := by decide +kernel
theorem dL_law_1218 : decode cL_law 1218 = .ok (.iadd, 1) := by decide +kernel
theorem dL_law_1219 : decode cL_law 1219 = .ok (.iaload, 1) := by decide +kernel
theorem dL_law_1220 : decode cL_law 1220 = .ok (.aload_n 0, 1) := by decide +kernel
theorem dL_law_1221 : decode cL_law 1221 = .ok (.iload_n 3, 1) := by decide +kernel
theorem dL_law_1222 : decode cL_law 1222 = .ok (.iconst 3, 1) := by decide +kernel
theorem dL_law_1223 : decode cL_law 1223 = .ok (.iadd, 1) := by decide +kernel
theorem dL_law_1224 : decode cL_law 1224 = .ok (.iaload, 1) := by decide +kernel
theorem dL_law_1225 : decode cL_law 1225 = .ok (.invokevirtual 128, 3) := by decide +kernel
theorem dL_law_1228 : decode cL_law 1228 = .ok (.aload_n 2, 1) := by decide +kernel
theorem dL_law_1229 : decode cL_law 1229 = .ok (.aload_n 0, 1) := by decide +kernel
theorem dL_law_1230 : decode cL_law 1230 = .ok (.iload_n 3, 1) := by decide +kernel
theorem dL_law_1231 : decode cL_law 1231 = .ok (.iconst 1, 1) := by decide +kernel
theorem dL_law_1232 : decode cL_law 1232 = .ok (.iadd, 1) := by decide +kernel
theorem dL_law_1233 : decode cL_law 1233 = .ok (.iaload, 1) := by decide +kernel
theorem dL_law_1234 : decode cL_law 1234 = .ok (.aload_n 0, 1) := by decide +kernel
theorem dL_law_1235 : decode cL_law 1235 = .ok (.iload_n 3, 1) := by decide +kernel
theorem dL_law_1236 : decode cL_law 1236 = .ok (.iconst 2, 1) := by decide +kernel
theorem dL_law_1237 : decode cL_law 1237 = .ok (.iadd, 1) := by decide +kernel
theorem dL_law_1238 : decode cL_law 1238 = .ok (.iaload, 1) := by decide +kernel
theorem dL_law_1239 : decode cL_law 1239 = .ok (.aload_n 0, 1) := by decide +kernel
theorem dL_law_1240 : decode cL_law 1240 = .ok (.iload_n 3, 1) := by decide +kernel
theorem dL_law_1241 : decode cL_law 1241 = .ok (.iconst 3, 1) := by decide +kernel
theorem dL_law_1242 : decode cL_law 1242 = .ok (.iadd, 1) := by decide +kernel
theorem dL_law_1243 : decode cL_law 1243 = .ok (.iaload, 1) := by decide +kernel
theorem dL_law_1244 : decode cL_law 1244 = .ok (.invokevirtual 131, 3) := by decide +kernel
theorem dL_law_1247 : decode cL_law 1247 = .ok (.if_icmp .eq 220, 3) := by decide +kernel
theorem dL_law_1250 : decode cL_law 1250 = .ok (.iconst 0, 1) := by decide +kernel
theorem dL_law_1251 : decode cL_law 1251 = .ok (.ireturn, 1) := by decide +kernel
theorem dL_law_1252 : decode cL_law 1252 = .ok (.aload_n 1, 1) := by decide +kernel
theorem dL_law_1253 : decode cL_law 1253 = .ok (.aload_n 0, 1) := by decide +kernel
theorem dL_law_1254 : decode cL_law 1254 = .ok (.iload_n 3, 1) := by decide +kernel
theorem dL_law_1255 : decode cL_law 1255 = .ok (.iconst 1, 1) := by decide +kernel
theorem dL_law_1256 : decode cL_law 1256 = .ok (.iadd, 1) := by decide +kernel
theorem dL_law_1257 : decode cL_law 1257 = .ok (.iaload, 1) := by decide +kernel
theorem dL_law_1258 : decode cL_law 1258 = .ok (.aload_n 0, 1) := by decide +kernel
theorem dL_law_1259 : decode cL_law 1259 = .ok (.iload_n 3, 1) := by decide +kernel
theorem dL_law_1260 : decode cL_law 1260 = .ok (.iconst 2, 1) := by decide +kernel
theorem dL_law_1261 : decode cL_law 1261 = .ok (.iadd, 1) := by decide +kernel
theorem dL_law_1262 : decode cL_law 1262 = .ok (.iaload, 1) := by decide +kernel
theorem dL_law_1263 : decode cL_law 1263 = .ok (.aload_n 0, 1) := by decide +kernel
theorem dL_law_1264 : decode cL_law 1264 = .ok (.iload_n 3, 1) := by decide +kernel
theorem dL_law_1265 : decode cL_law 1265 = .ok (.iconst 3, 1) := by decide +kernel
theorem dL_law_1266 : decode cL_law 1266 = .ok (.iadd, 1) := by decide +kernel
theorem dL_law_1267 : decode cL_law 1267 = .ok (.iaload, 1) := by decide +kernel
theorem dL_law_1268 : decode cL_law 1268 = .ok (.invokevirtual 132, 3) := by decide +kernel
theorem dL_law_1271 : decode cL_law 1271 = .ok (.aload_n 2, 1) := by decide +kernel
theorem dL_law_1272 : decode cL_law 1272 = .ok (.aload_n 0, 1) := by decide +kernel
theorem dL_law_1273 : decode cL_law 1273 = .ok (.iload_n 3, 1) := by decide +kernel
theorem dL_law_1274 : decode cL_law 1274 = .ok (.iconst 1, 1) := by decide +kernel
theorem dL_law_1275 : decode cL_law 1275 = .ok (.iadd, 1) := by decide +kernel
theorem dL_law_1276 : decode cL_law 1276 = .ok (.iaload, 1) := by decide +kernel
theorem dL_law_1277 : decode cL_law 1277 = .ok (.aload_n 0, 1) := by decide +kernel
theorem dL_law_1278 : decode cL_law 1278 = .ok (.iload_n 3, 1) := by decide +kernel
theorem dL_law_1279 : decode cL_law 1279 = .ok (.iconst 2, 1) := by decide +kernel
theorem dL_law_1280 : decode cL_law 1280 = .ok (.iadd, 1) := by decide +kernel
theorem dL_law_1281 : decode cL_law 1281 = .ok (.iaload, 1) := by decide +kernel
theorem dL_law_1282 : decode cL_law 1282 = .ok (.aload_n 0, 1) := by decide +kernel
theorem dL_law_1283 : decode cL_law 1283 = .ok (.iload_n 3, 1) := by decide +kernel
theorem dL_law_1284 : decode cL_law 1284 = .ok (.iconst 3, 1) := by decide +kernel
theorem dL_law_1285 : decode cL_law 1285 = .ok (.iadd, 1) := by decide +kernel
theorem dL_law_1286 : decode cL_law 1286 = .ok (.iaload, 1) := by decide +kernel
theorem dL_law_1287 : decode cL_law 1287 = .ok (.invokevirtual 135, 3) := by decide +kernel
theorem dL_law_1290 : decode cL_law 1290 = .ok (.if_icmp .eq 177, 3) := by decide +kernel
theorem dL_law_1293 : decode cL_law 1293 = .ok (.iconst 0, 1) := by decide +kernel
theorem dL_law_1294 : decode cL_law 1294 = .ok (.ireturn, 1) := by decide +kernel
theorem dL_law_1295 : decode cL_law 1295 = .ok (.aload_n 1, 1) := by decide +kernel
theorem dL_law_1296 : decode cL_law 1296 = .ok (.aload_n 0, 1) := by decide +kernel
theorem dL_law_1297 : decode cL_law 1297 = .ok (.iload_n 3, 1) := by decide +kernel
theorem dL_law_1298 : decode cL_law 1298 = .ok (.iconst 1, 1) := by decide +kernel
theorem dL_law_1299 : decode cL_law 1299 = .ok (.iadd, 1) := by decide +kernel
theorem dL_law_1300 : decode cL_law 1300 = .ok (.iaload, 1) := by decide +kernel
theorem dL_law_1301 : decode cL_law 1301 = .ok (.aload_n 0, 1) := by decide +kernel
theorem dL_law_1302 : decode cL_law 1302 = .ok (.iload_n 3, 1) := by decide +kernel
theorem dL_law_1303 : decode cL_law 1303 = .ok (.iconst 2, 1) := by decide +kernel
theorem dL_law_1304 : decode cL_law 1304 = .ok (.iadd, 1) := by decide +kernel
theorem dL_law_1305 : decode cL_law 1305 = .ok (.iaload, 1) := by decide +kernel
theorem dL_law_1306 : decode cL_law 1306 = .ok (.aload_n 0, 1) := by decide +kernel
theorem dL_law_1307 : decode cL_law 1307 = .ok (.iload_n 3, 1) := by decide +kernel
theorem dL_law_1308 : decode cL_law 1308 = .ok (.iconst 3, 1) := by decide +kernel
theorem dL_law_1309 : decode cL_law 1309 = .ok (.iadd, 1) := by decide +kernel
theorem dL_law_1310 : decode cL_law 1310 = .ok (.iaload, 1) := by decide +kernel
theorem dL_law_1311 : decode cL_law 1311 = .ok (.invokevirtual 136, 3) := by decide +kernel
theorem dL_law_1314 : decode cL_law 1314 = .ok (.aload_n 2, 1) := by decide +kernel
theorem dL_law_1315 : decode cL_law 1315 = .ok (.aload_n 0, 1) := by decide +kernel
theorem dL_law_1316 : decode cL_law 1316 = .ok (.iload_n 3, 1) := by decide +kernel
theorem dL_law_1317 : decode cL_law 1317 = .ok (.iconst 1, 1) := by decide +kernel
theorem dL_law_1318 : decode cL_law 1318 = .ok (.iadd, 1) := by decide +kernel
theorem dL_law_1319 : decode cL_law 1319 = .ok (.iaload, 1) := by decide +kernel
theorem dL_law_1320 : decode cL_law 1320 = .ok (.aload_n 0, 1) := by decide +kernel
theorem dL_law_1321 : decode cL_law 1321 = .ok (.iload_n 3, 1) := by decide +kernel
theorem dL_law_1322 : decode cL_law 1322 = .ok (.iconst 2, 1) := by decide +kernel
theorem dL_law_1323 : decode cL_law 1323 = .ok (.iadd, 1) := by decide +kernel
theorem dL_law_1324 : decode cL_law 1324 = .ok (.iaload, 1) := by decide +kernel
theorem dL_law_1325 : decode cL_law 1325 = .ok (.aload_n 0, 1) := by decide +kernel
theorem dL_law_1326 : decode cL_law 1326 = .ok (.iload_n 3, 1) := by decide +kernel
theorem dL_law_1327 : decode cL_law 1327 = .ok (.iconst 3, 1) := by decide +kernel
theorem dL_law_1328 : decode cL_law 1328 = .ok (.iadd, 1) := by decide +kernel
theorem dL_law_1329 : decode cL_law 1329 = .ok (.iaload, 1) := by decide +kernel
theorem dL_law_1330 : decode cL_law 1330 = .ok (.invokevirtual 139, 3) := by decide +kernel
theorem dL_law_1333 : decode cL_law 1333 = .ok (.if_icmp .eq 134, 3) := by decide +kernel
theorem dL_law_1336 : decode cL_law 1336 = .ok (.iconst 0, 1) := by decide +kernel
theorem dL_law_1337 : decode cL_law 1337 = .ok (.ireturn, 1) := by decide +kernel
theorem dL_law_1338 : decode cL_law 1338 = .ok (.aload_n 1, 1) := by decide +kernel
theorem dL_law_1339 : decode cL_law 1339 = .ok (.aload_n 0, 1) := by decide +kernel
theorem dL_law_1340 : decode cL_law 1340 = .ok (.iload_n 3, 1) := by decide +kernel
theorem dL_law_1341 : decode cL_law 1341 = .ok (.iconst 1, 1) := by decide +kernel
theorem dL_law_1342 : decode cL_law 1342 = .ok (.iadd, 1) := by decide +kernel
theorem dL_law_1343 : decode cL_law 1343 = .ok (.iaload, 1) := by decide +kernel
theorem dL_law_1344 : decode cL_law 1344 = .ok (.aload_n 0, 1) := by decide +kernel
theorem dL_law_1345 : decode cL_law 1345 = .ok (.iload_n 3, 1) := by decide +kernel
theorem dL_law_1346 : decode cL_law 1346 = .ok (.iconst 2, 1) := by decide +kernel
theorem dL_law_1347 : decode cL_law 1347 = .ok (.iadd, 1) := by decide +kernel
theorem dL_law_1348 : decode cL_law 1348 = .ok (.iaload, 1) := by decide +kernel
theorem dL_law_1349 : decode cL_law 1349 = .ok (.invokevirtual 140, 3) := by decide +kernel
theorem dL_law_1352 : decode cL_law 1352 = .ok (.aload_n 2, 1) := by decide +kernel
theorem dL_law_1353 : decode cL_law 1353 = .ok (.aload_n 0, 1) := by decide +kernel
theorem dL_law_1354 : decode cL_law 1354 = .ok (.iload_n 3, 1) := by decide +kernel
theorem dL_law_1355 : decode cL_law 1355 = .ok (.iconst 1, 1) := by decide +kernel
theorem dL_law_1356 : decode cL_law 1356 = .ok (.iadd, 1) := by decide +kernel
theorem dL_law_1357 : decode cL_law 1357 = .ok (.iaload, 1) := by decide +kernel
theorem dL_law_1358 : decode cL_law 1358 = .ok (.aload_n 0, 1) := by decide +kernel
theorem dL_law_1359 : decode cL_law 1359 = .ok (.iload_n 3, 1) := by decide +kernel
theorem dL_law_1360 : decode cL_law 1360 = .ok (.iconst 2, 1) := by decide +kernel
theorem dL_law_1361 : decode cL_law 1361 = .ok (.iadd, 1) := by decide +kernel
theorem dL_law_1362 : decode cL_law 1362 = .ok (.iaload, 1) := by decide +kernel
theorem dL_law_1363 : decode cL_law 1363 = .ok (.invokevirtual 143, 3) := by decide +kernel
theorem dL_law_1366 : decode cL_law 1366 = .ok (.if_icmp .eq 101, 3) := by decide +kernel
theorem dL_law_1369 : decode cL_law 1369 = .ok (.iconst 0, 1) := by decide +kernel
theorem dL_law_1370 : decode cL_law 1370 = .ok (.ireturn, 1) := by decide +kernel
theorem dL_law_1371 : decode cL_law 1371 = .ok (.aload_n 1, 1) := by decide +kernel
theorem dL_law_1372 : decode cL_law 1372 = .ok (.aload_n 0, 1) := by decide +kernel
theorem dL_law_1373 : decode cL_law 1373 = .ok (.iload_n 3, 1) := by decide +kernel
theorem dL_law_1374 : decode cL_law 1374 = .ok (.iconst 1, 1) := by decide +kernel
theorem dL_law_1375 : decode cL_law 1375 = .ok (.iadd, 1) := by decide +kernel
theorem dL_law_1376 : decode cL_law 1376 = .ok (.iaload, 1) := by decide +kernel
theorem dL_law_1377 : decode cL_law 1377 = .ok (.aload_n 0, 1) := by decide +kernel
theorem dL_law_1378 : decode cL_law 1378 = .ok (.iload_n 3, 1) := by decide +kernel
theorem dL_law_1379 : decode cL_law 1379 = .ok (.iconst 2, 1) := by decide +kernel
theorem dL_law_1380 : decode cL_law 1380 = .ok (.iadd, 1) := by decide +kernel
theorem dL_law_1381 : decode cL_law 1381 = .ok (.iaload, 1) := by decide +kernel
theorem dL_law_1382 : decode cL_law 1382 = .ok (.invokevirtual 144, 3) := by decide +kernel
theorem dL_law_1385 : decode cL_law 1385 = .ok (.aload_n 2, 1) := by decide +kernel
theorem dL_law_1386 : decode cL_law 1386 = .ok (.aload_n 0, 1) := by decide +kernel
theorem dL_law_1387 : decode cL_law 1387 = .ok (.iload_n 3, 1) := by decide +kernel
theorem dL_law_1388 : decode cL_law 1388 = .ok (.iconst 1, 1) := by decide +kernel
theorem dL_law_1389 : decode cL_law 1389 = .ok (.iadd, 1) := by decide +kernel
theorem dL_law_1390 : decode cL_law 1390 = .ok (.iaload, 1) := by decide +kernel
theorem dL_law_1391 : decode cL_law 1391 = .ok (.aload_n 0, 1) := by decide +kernel
theorem dL_law_1392 : decode cL_law 1392 = .ok (.iload_n 3, 1) := by decide +kernel
theorem dL_law_1393 : decode cL_law 1393 = .ok (.iconst 2, 1) := by decide +kernel
theorem dL_law_1394 : decode cL_law 1394 = .ok (.iadd, 1) := by decide +kernel
theorem dL_law_1395 : decode cL_law 1395 = .ok (.iaload, 1) := by decide +kernel
theorem dL_law_1396 : decode cL_law 1396 = .ok (.invokevirtual 147, 3) := by decide +kernel
theorem dL_law_1399 : decode cL_law 1399 = .ok (.if_icmp .eq 68, 3) := by decide +kernel
theorem dL_law_1402 : decode cL_law 1402 = .ok (.iconst 0, 1) := by decide +kernel
theorem dL_law_1403 : decode cL_law 1403 = .ok (.ireturn, 1) := by decide +kernel
theorem dL_law_1404 : decode cL_law 1404 = .ok (.aload_n 1, 1) := by decide +kernel
theorem dL_law_1405 : decode cL_law 1405 = .ok (.invokevirtual 148, 3) := by decide +kernel
theorem dL_law_1408 : decode cL_law 1408 = .ok (.aload_n 2, 1) := by decide +kernel
theorem dL_law_1409 : decode cL_law 1409 = .ok (.invokevirtual 152, 3) := by decide +kernel
theorem dL_law_1412 : decode cL_law 1412 = .ok (.lcmp, 1) := by decide +kernel
theorem dL_law_1413 : decode cL_law 1413 = .ok (.ifCond .eq 54, 3) := by decide +kernel
theorem dL_law_1416 : decode cL_law 1416 = .ok (.iconst 0, 1) := by decide +kernel
theorem dL_law_1417 : decode cL_law 1417 = .ok (.ireturn, 1) := by decide +kernel
theorem dL_law_1418 : decode cL_law 1418 = .ok (.aload_n 1, 1) := by decide +kernel
theorem dL_law_1419 : decode cL_law 1419 = .ok (.invokevirtual 153, 3) := by decide +kernel
theorem dL_law_1422 : decode cL_law 1422 = .ok (.aload_n 2, 1) := by decide +kernel
theorem dL_law_1423 : decode cL_law 1423 = .ok (.invokevirtual 156, 3) := by decide +kernel
theorem dL_law_1426 : decode cL_law 1426 = .ok (.if_icmp .eq 41, 3) := by decide +kernel
theorem dL_law_1429 : decode cL_law 1429 = .ok (.iconst 0, 1) := by decide +kernel
theorem dL_law_1430 : decode cL_law 1430 = .ok (.ireturn, 1) := by decide +kernel
theorem dL_law_1431 : decode cL_law 1431 = .ok (.aload_n 1, 1) := by decide +kernel
theorem dL_law_1432 : decode cL_law 1432 = .ok (.invokevirtual 157, 3) := by decide +kernel
theorem dL_law_1435 : decode cL_law 1435 = .ok (.aload_n 2, 1) := by decide +kernel
theorem dL_law_1436 : decode cL_law 1436 = .ok (.invokevirtual 160, 3) := by decide +kernel
theorem dL_law_1439 : decode cL_law 1439 = .ok (.if_icmp .eq 28, 3) := by decide +kernel
theorem dL_law_1442 : decode cL_law 1442 = .ok (.iconst 0, 1) := by decide +kernel
theorem dL_law_1443 : decode cL_law 1443 = .ok (.ireturn, 1) := by decide +kernel
theorem dL_law_1444 : decode cL_law 1444 = .ok (.aload_n 1, 1) := by decide +kernel
theorem dL_law_1445 : decode cL_law 1445 = .ok (.aload_n 0, 1) := by decide +kernel
theorem dL_law_1446 : decode cL_law 1446 = .ok (.iload_n 3, 1) := by decide +kernel
theorem dL_law_1447 : decode cL_law 1447 = .ok (.iconst 1, 1) := by decide +kernel
theorem dL_law_1448 : decode cL_law 1448 = .ok (.iadd, 1) := by decide +kernel
theorem dL_law_1449 : decode cL_law 1449 = .ok (.iaload, 1) := by decide +kernel
theorem dL_law_1450 : decode cL_law 1450 = .ok (.invokevirtual 161, 3) := by decide +kernel
theorem dL_law_1453 : decode cL_law 1453 = .ok (.aload_n 2, 1) := by decide +kernel
theorem dL_law_1454 : decode cL_law 1454 = .ok (.aload_n 0, 1) := by decide +kernel
theorem dL_law_1455 : decode cL_law 1455 = .ok (.iload_n 3, 1) := by decide +kernel
theorem dL_law_1456 : decode cL_law 1456 = .ok (.iconst 1, 1) := by decide +kernel
theorem dL_law_1457 : decode cL_law 1457 = .ok (.iadd, 1) := by decide +kernel
theorem dL_law_1458 : decode cL_law 1458 = .ok (.iaload, 1) := by decide +kernel
theorem dL_law_1459 : decode cL_law 1459 = .ok (.invokevirtual 164, 3) := by decide +kernel
theorem dL_law_1462 : decode cL_law 1462 = .ok (.if_icmp .eq 5, 3) := by decide +kernel
theorem dL_law_1465 : decode cL_law 1465 = .ok (.iconst 0, 1) := by decide +kernel
theorem dL_law_1466 : decode cL_law 1466 = .ok (.ireturn, 1) := by decide +kernel
theorem dL_law_1467 : decode cL_law 1467 = .ok (.iinc 3 6, 3) := by decide +kernel
theorem dL_law_1470 : decode cL_law 1470 = .ok (.goto (-1452), 3) := by decide +kernel
theorem dL_law_1473 : decode cL_law 1473 = .ok (.iconst 1, 1) := by decide +kernel
theorem dL_law_1474 : decode cL_law 1474 = .ok (.ireturn, 1) := by decide +kernel
end
section
/-- the ints of the cells: of the system (cells 0 to 53), of the reference (0 to 10) -/
abbrev St : Type := Nat → Nat → Int32
def wr (σ : St) (k j : Nat) (x : Int32) : St := fun a b => if a = k ∧ b = j then x else σ a b
def wrA (σ : St) (k : Nat) (f : Nat → Int32) : St := fun a => if a = k then f else σ a
theorem wr_ne {σ : St} {k j a : Nat} {x : Int32} (h : a ≠ k) : wr σ k j x a = σ a := by funext b; simp [wr, h]
theorem wr_row (σ : St) (k j : Nat) (x : Int32) : wr σ k j x k = upd (σ k) j x := by funext b; by_cases h : b = j <;> simp [wr, upd, h]
theorem wrA_ne {σ : St} {k a : Nat} {f : Nat → Int32} (h : a ≠ k) : wrA σ k f a = σ a := by simp [wrA, h]
theorem wrA_row (σ : St) (k : Nat) (f : Nat → Int32) : wrA σ k f k = f := by simp [wrA]
/-- the world's constants: the tables of the classes, the array classes, the addresses, the table COUNTS_TIMES -/
abbrev ET : Type := va_G × ClassId × ClassId × (Nat → Nat) × Nat
def adr (E : ET) (k : Nat) : Nat := E.2.2.2.1 k
def ent (E : ET) (σ μ : St) (k : Nat) : va_E := match k with
  | 0 => .inr (6, [.ref (adr E 1), .ref (adr E 23), .int (σ 0 2), .ref (adr E 45), .int (σ 0 4)])
  | 1 => .inr (4, [.ref (adr E 2), .ref (adr E 8), .ref (adr E 12), .ref (adr E 17), .ref (adr E 20), .ref (adr E 21), .ref (adr E 22)])
  | 2 => .inr (5, [.int (σ 2 0), .ref (adr E 3), .ref (adr E 4), .ref (adr E 5), .ref (adr E 6), .ref (adr E 7)])
  | 3 => .inl (E.2.1, 10, .inl (σ 3))
  | 4 => .inl (E.2.1, 10, .inl (σ 4))
  | 5 => .inl (E.2.1, 10, .inl (σ 5))
  | 6 => .inl (E.2.1, 10, .inl (σ 6))
  | 7 => .inl (E.2.1, 10, .inl (σ 7))
  | 8 => .inr (3, [.ref (adr E 9), .ref (adr E 10), .ref (adr E 11)])
  | 9 => .inl (E.2.1, 240, .inl (σ 9))
  | 10 => .inl (E.2.1, 12, .inl (σ 10))
  | 11 => .inl (E.2.1, 10, .inl (σ 11))
  | 12 => .inr (0, [.int (σ 12 0), .ref (adr E 13), .ref (adr E 14), .ref (adr E 15), .ref (adr E 16)])
  | 13 => .inl (E.2.1, 10, .inl (σ 13))
  | 14 => .inl (E.2.1, 10, .inl (σ 14))
  | 15 => .inl (E.2.1, 10, .inl (σ 15))
  | 16 => .inl (E.2.1, 10, .inl (σ 16))
  | 17 => .inr (1, [.int (σ 17 0), .ref (adr E 18), .ref (adr E 19)])
  | 18 => .inl (E.2.1, 240, .inl (σ 18))
  | 19 => .inl (E.2.1, 240, .inl (σ 19))
  | 20 => .inl (E.2.1, 240, .inl (σ 20))
  | 21 => .inl (E.2.1, 24, .inl (σ 21))
  | 22 => .inl (E.2.1, 240, .inl (σ 22))
  | 23 => .inr (4, [.ref (adr E 24), .ref (adr E 30), .ref (adr E 34), .ref (adr E 39), .ref (adr E 42), .ref (adr E 43), .ref (adr E 44)])
  | 24 => .inr (5, [.int (σ 24 0), .ref (adr E 25), .ref (adr E 26), .ref (adr E 27), .ref (adr E 28), .ref (adr E 29)])
  | 25 => .inl (E.2.1, 10, .inl (σ 25))
  | 26 => .inl (E.2.1, 10, .inl (σ 26))
  | 27 => .inl (E.2.1, 10, .inl (σ 27))
  | 28 => .inl (E.2.1, 10, .inl (σ 28))
  | 29 => .inl (E.2.1, 10, .inl (σ 29))
  | 30 => .inr (3, [.ref (adr E 31), .ref (adr E 32), .ref (adr E 33)])
  | 31 => .inl (E.2.1, 240, .inl (σ 31))
  | 32 => .inl (E.2.1, 12, .inl (σ 32))
  | 33 => .inl (E.2.1, 10, .inl (σ 33))
  | 34 => .inr (0, [.int (σ 34 0), .ref (adr E 35), .ref (adr E 36), .ref (adr E 37), .ref (adr E 38)])
  | 35 => .inl (E.2.1, 10, .inl (σ 35))
  | 36 => .inl (E.2.1, 10, .inl (σ 36))
  | 37 => .inl (E.2.1, 10, .inl (σ 37))
  | 38 => .inl (E.2.1, 10, .inl (σ 38))
  | 39 => .inr (1, [.int (σ 39 0), .ref (adr E 40), .ref (adr E 41)])
  | 40 => .inl (E.2.1, 240, .inl (σ 40))
  | 41 => .inl (E.2.1, 240, .inl (σ 41))
  | 42 => .inl (E.2.1, 240, .inl (σ 42))
  | 43 => .inl (E.2.1, 24, .inl (σ 43))
  | 44 => .inl (E.2.1, 240, .inl (σ 44))
  | 45 => .inl (E.2.2.1, 4, .inr (.inr (.inr (.inr (fun j => some (adr E (46 + j)))))))
  | 46 => .inr (2, [.int (σ 46 0), .int (σ 46 1), .ref (adr E 50)])
  | 47 => .inr (2, [.int (σ 47 0), .int (σ 47 1), .ref (adr E 51)])
  | 48 => .inr (2, [.int (σ 48 0), .int (σ 48 1), .ref (adr E 52)])
  | 49 => .inr (2, [.int (σ 49 0), .int (σ 49 1), .ref (adr E 53)])
  | 50 => .inl (E.2.1, 24, .inl (σ 50))
  | 51 => .inl (E.2.1, 24, .inl (σ 51))
  | 52 => .inl (E.2.1, 24, .inl (σ 52))
  | 53 => .inl (E.2.1, 24, .inl (σ 53))
  | 54 => .inr (7, [.ref (adr E 55), .ref (adr E 56), .int (μ 0 2), .ref (adr E 57), .ref (adr E 58), .ref (adr E 59), .int (μ 0 6), .ref (adr E 60), .ref (adr E 61), .ref (adr E 62), .ref (adr E 63), .ref (adr E 64)])
  | 55 => .inl (E.2.1, 1090, .inl (μ 1))
  | 56 => .inl (E.2.1, 1090, .inl (μ 2))
  | 57 => .inl (E.2.1, 4, .inl (μ 3))
  | 58 => .inl (E.2.1, 4, .inl (μ 4))
  | 59 => .inl (E.2.1, 96, .inl (μ 5))
  | 60 => .inl (E.2.1, 24, .inl (μ 6))
  | 61 => .inl (E.2.1, 240, .inl (μ 7))
  | 62 => .inl (E.2.1, 240, .inl (μ 8))
  | 63 => .inl (E.2.1, 10, .inl (μ 9))
  | 64 => .inl (E.2.1, 10, .inl (μ 10))
  | _ => .inl (E.2.1, 0, .inl (fun _ => 0))
theorem ent_same (E : ET) {σ σ' μ μ' : St} (i : Nat) (h : σ' i = σ i) (h2 : μ' (i - 54) = μ (i - 54)) : ent E σ' μ' i = ent E σ μ i := by
  unfold ent
  split <;> simp only [h, h2, Nat.reduceSub] at * <;> simp only [h2]
def mkW (E : ET) (σ μ : St) : va_W := (List.range 65).map (fun k => (adr E k, ent E σ μ k))
theorem mkW_get {E : ET} {σ μ : St} {k : Nat} (h : k < 65) : (mkW E σ μ)[k]? = some (adr E k, ent E σ μ k) := by simp [mkW, h]
theorem mkW_lt {E : ET} {σ μ : St} {k : Nat} {q : Nat × va_E} (h : (mkW E σ μ)[k]? = some q) : k < 65 ∧ q = (adr E k, ent E σ μ k) := by
  have hk : k < 65 := by
    have := (List.getElem?_eq_some_iff.mp h).1
    simpa [mkW] using this
  rw [mkW_get hk] at h
  exact ⟨hk, (Option.some.inj h).symm⟩
theorem mkW_set {E : ET} {σ μ σ' μ' : St} {k : Nat} {e : va_E} (h : k < 65) (h1 : ent E σ' μ' k = e) (h2 : ∀ j, j ≠ k → ent E σ' μ' j = ent E σ μ j) : (mkW E σ μ).set k (adr E k, e) = mkW E σ' μ' := by
  apply List.ext_getElem?
  intro i
  by_cases hi : i < 65
  · by_cases hk : i = k
    · subst hk
      rw [mkW_get hi, List.getElem?_set_self (by simp [mkW, hi]), h1]
    · rw [mkW_get hi, List.getElem?_set_ne (fun q => hk q.symm), mkW_get hi, h2 i hk]
  · rw [List.getElem?_eq_none (by simp [mkW]; omega), List.getElem?_eq_none (by simp [mkW]; omega)]
/-- cells of the system, of the reference, that are rows of ints -/
def isC (k n : Nat) : Prop := k < 54 ∧ n < 2000 ∧ ∀ (E : ET) (σ μ : St), ent E σ μ k = .inl (E.2.1, n, .inl (σ k))
def isM (k n : Nat) : Prop := k < 11 ∧ n < 2000 ∧ ∀ (E : ET) (σ μ : St), ent E σ μ (k + 54) = .inl (E.2.1, n, .inl (μ k))
/-- which cells may change -/
def AA (E : ET) : Nat → Prop := fun q => ∃ k, k < 65 ∧ q = adr E k
abbrev tyS (E : ET) : List (ClassId × FieldType) := [(E.2.1, .int), (E.2.2.1, .object "WellField$Sheet")]
def isNest : Cond → Bool
  | .fieldLinkNest _ _ _ _ _ _ => true
  | .methodLinkNest _ _ _ _ => true
  | _ => false
def gT : List Cond := lw_tbl.filter goodWord
def nT : List Cond := lw_tbl.filter isNest
theorem mem_gT {w : Cond} (i : Nat) (h : lw_tbl[i]? = some w) (hg : goodWord w = true) : w ∈ gT := List.mem_filter.mpr ⟨List.mem_of_getElem? h, hg⟩
theorem mem_nT {w : Cond} (i : Nat) (h : lw_tbl[i]? = some w) (hg : isNest w = true) : w ∈ nT := List.mem_filter.mpr ⟨List.mem_of_getElem? h, hg⟩
theorem gT_good {w : Cond} (h : w ∈ gT) : (w.onTables && w.keeps) = true ∨ ∃ ty, w = .arrayClass ty := good_of_word (List.mem_filter.mp h).2
def Nw (U : State) : Prop := ∀ w ∈ nT, va_Nw w U
theorem Nw.warm {s U : State} (hW : s.WarmedH U.vm) (h : Nw s) : Nw U := by
  intro w hw
  have h1 := h w hw
  have h2 := (List.mem_filter.mp hw).2
  cases w <;> first | (exact va_Nw.warmF hW h1) | (exact va_Nw.warmM hW h1) | (cases h2)
theorem Nw.same {u U : State} (hv : u.vm = U.vm) (h : Nw u) : Nw U := by
  intro w hw
  have h1 := h w hw
  have h2 := (List.mem_filter.mp hw).2
  cases w <;> first | (exact va_Nw.same rfl hv h1) | (cases h2)
def ctf (j : Nat) : Int32 := match j with
  | 0 => 1
  | 1 => 1
  | 2 => 1
  | 3 => -1
  | 4 => -1
  | _ => 0
/-- what holds of the tables, and of the row of constants that nobody writes -/
def Zk (E : ET) (A : Nat → Prop) (U : State) (H : Heap) : Prop := va_Z "WellField" "COUNTS_TIMES" "[I" (.ref E.2.2.2.2) A U H ∧ va_T .int E.2.2.2.2 6 (fun j => .int (ctf j)) A U H
def Wk (E : ET) (U : State) : Prop := va_K E.1 vwCl (tyS E) U ∧ (∀ i j, i < 65 → j < 65 → adr E i = adr E j → i = j) ∧ Nw U
def Wd (E : ET) (σ μ : St) (U : State) : Prop := va_P E.1 vwCl (mkW E σ μ) U.heap ∧ Wk E U ∧ Zk E (AA E) U U.heap
theorem Zk.kept {E : ET} {A : Nat → Prop} {U : State} {H H1 : Heap} (h : Zk E A U H) (hq : ∀ a : Nat, a < H.size → ¬ A a → H1[a]? = H[a]?) : Zk E A U H1 := ⟨h.1.kept hq, h.2.kept hq⟩
theorem Zk.moved {E : ET} {A : Nat → Prop} {u U : State} {H : Heap} (hvm : u.vm.Alike U.vm) (h : Zk E A u H) : Zk E A U H := ⟨h.1.moved hvm, h.2.moved hvm⟩
theorem Zk.narrow {E : ET} {A B : Nat → Prop} {U : State} {H : Heap} (h : Zk E A U H) (hAB : ∀ q, B q → A q) : Zk E B U H := ⟨h.1.narrow hAB, h.2.narrow hAB⟩
theorem Wk.warm {E : ET} {s U : State} (hW : s.WarmedH U.vm) (h : Wk E s) : Wk E U := ⟨va_K.moved hW.alike h.1, h.2.1, h.2.2.warm hW⟩
theorem Wd.blind {E : ET} {σ μ : St} {args : List Value} : FrameBlind (va_Pc args (Wd E σ μ)) := by
  intro a U g mk h
  obtain ⟨h1, h2, h3, h4⟩ := h
  exact ⟨h1, h2, ⟨va_K.moved (u := U) (U := U.calling g mk a) (Vm.Alike.refl U.vm) h3.1, h3.2.1, Nw.same (u := U) (U := U.calling g mk a) rfl h3.2.2⟩, ⟨va_Z.moved (u := U) (U := U.calling g mk a) (Vm.Alike.refl U.vm) h4.1, va_T.moved (u := U) (U := U.calling g mk a) (Vm.Alike.refl U.vm) h4.2⟩⟩
theorem mkW_D {E : ET} {σ μ : St} {A : Nat → Prop} (hi : ∀ i j, i < 65 → j < 65 → adr E i = adr E j → i = j) (hA : ∀ k, k < 65 → A (adr E k)) : va_D A (mkW E σ μ) := by
  refine ⟨fun i j p q h1 h2 h => ?_, fun k q h => ?_⟩
  · obtain ⟨a1, rfl⟩ := mkW_lt h1
    obtain ⟨a2, rfl⟩ := mkW_lt h2
    exact hi i j a1 a2 h
  · obtain ⟨a1, rfl⟩ := mkW_lt h
    exact hA k a1
/-- a method: its name, code, locals, type, room -/
abbrev MT : Type := MethodName × ByteArray × Nat × Option FieldType × Room
def Qr (E : ET) (v : Option Value) (σ μ : St) : Array Value → State → Outcome → State → Prop := fun _ st o t => o = .returned v ∧ va_P E.1 vwCl (mkW E σ μ) t.heap ∧ va_F (AA E) st t
/-- THE CONTRACT: called with these values over the world σ μ, the method returns v, and the world is σ' μ' -/
def Ct (l : Launch) (E : ET) (M : MT) (args : List Value) (σ μ : St) (v : Option Value) (σ' μ' : St) : Prop :=
  Met l M.1 (.code M.1 M.2.1 M.2.2.1 M.2.2.2.1 :: gT) M.2.2.2.2 (va_Pc args (Wd E σ μ)) (Qr E v σ' μ') 0 0 (AA E)
/-- the frame of a method that runs -/
abbrev XT : Type := Program × Launch × Env × Room × State × MethodId × Array Value × List Frame × Method × Code × (Nat → Prop) × (State → Prop) × Nat × Nat
def xp (X : XT) : Program := X.1
def xl (X : XT) : Launch := X.2.1
def xe (X : XT) : Env := X.2.2.1
def xR (X : XT) : Room := X.2.2.2.1
def xs (X : XT) : State := X.2.2.2.2.1
def xm (X : XT) : MethodId := X.2.2.2.2.2.1
def xa (X : XT) : Array Value := X.2.2.2.2.2.2.1
def xb (X : XT) : List Frame := X.2.2.2.2.2.2.2.1
def xM (X : XT) : Method := X.2.2.2.2.2.2.2.2.1
def xc (X : XT) : Code := X.2.2.2.2.2.2.2.2.2.1
def xA (X : XT) : Nat → Prop := X.2.2.2.2.2.2.2.2.2.2.1
def xQ (X : XT) : State → Prop := X.2.2.2.2.2.2.2.2.2.2.2.1
def xk (X : XT) : Nat := X.2.2.2.2.2.2.2.2.2.2.2.2.1
def xn (X : XT) : Nat := X.2.2.2.2.2.2.2.2.2.2.2.2.2
/-- the locals: what is known of each place -/
def lvO (ls : Array Slot) (nL : Nat) (L : List (Option Value)) : Prop := ls.size = nL ∧ lv_wf ls ∧ ∀ (k : Nat) (v : Value), L[k]? = some (some v) → ls[k]? = some (.val v)
def lvL : Nat → List (Option Value) → List (Nat × Value)
  | _, [] => []
  | i, none :: r => lvL (i + 1) r
  | i, some v :: r => (i, v) :: lvL (i + 1) r
theorem lvL_in {q : Nat × Value} : ∀ {L : List (Option Value)} {i : Nat}, q ∈ lvL i L → ∃ k, L[k]? = some (some q.2) ∧ q.1 = i + k
  | [], _, h => by cases h
  | none :: r, i, h => by
    obtain ⟨k, h1, h2⟩ := lvL_in (L := r) (i := i + 1) h
    exact ⟨k + 1, by simpa using h1, by omega⟩
  | some v :: r, i, h => by
    rcases List.mem_cons.mp h with rfl | h
    · exact ⟨0, by simp, by simp⟩
    · obtain ⟨k, h1, h2⟩ := lvL_in (L := r) (i := i + 1) h
      exact ⟨k + 1, by simpa using h1, by omega⟩
theorem lvL_mem {v : Value} : ∀ {L : List (Option Value)} {i k : Nat}, L[k]? = some (some v) → (i + k, v) ∈ lvL i L
  | [], _, _, h => by simp at h
  | none :: r, i, 0, h => by simp at h
  | none :: r, i, k + 1, h => by
    have := lvL_mem (L := r) (i := i + 1) (k := k) (by simpa using h)
    rw [show i + (k + 1) = i + 1 + k by omega]
    exact this
  | some w :: r, i, 0, h => by
    simp at h
    subst h
    exact List.mem_cons_self
  | some w :: r, i, k + 1, h => by
    have := lvL_mem (L := r) (i := i + 1) (k := k) (by simpa using h)
    rw [show i + (k + 1) = i + 1 + k by omega]
    exact List.mem_cons_of_mem _ this
theorem lvO.has {ls : Array Slot} {nL : Nat} {L : List (Option Value)} (h : lvO ls nL L) : lv_has ls nL (lvL 0 L) := by
  refine ⟨h.1, h.2.1, fun q hq => ?_⟩
  obtain ⟨k, h1, h2⟩ := lvL_in hq
  rw [h2, Nat.zero_add]
  exact h.2.2 k _ h1
/-- a value of one slot is stored at place i -/
theorem lvO.put1 {ls : Array Slot} {nL i : Nat} {v : Value} {L L' : List (Option Value)} (h : lv_has ls nL ((i, v) :: (lvL 0 L).filter (fun q => !(q.1 == i) && !(q.1 + 1 == i && q.2.category == 2))))
    (hL : ∀ (k : Nat) (w : Value), L'[k]? = some (some w) → (k = i ∧ w = v) ∨ (k ≠ i ∧ L[k]? = some (some w) ∧ (k + 1 = i → w.category = 1))) : lvO ls nL L' := by
  refine ⟨h.1, h.2.1, fun k w hk => ?_⟩
  rcases hL k w hk with ⟨rfl, rfl⟩ | ⟨h1, h2, h3⟩
  · exact h.2.2 (k, w) List.mem_cons_self
  · have h4 := lvL_mem (i := 0) h2
    rw [Nat.zero_add] at h4
    refine h.2.2 (k, w) (List.mem_cons_of_mem _ (List.mem_filter.mpr ⟨h4, ?_⟩))
    by_cases h5 : k + 1 = i
    · have := h3 h5
      simp [h1, h5, this]
    · simp [h1, h5]
theorem lvO.put2 {ls : Array Slot} {nL i : Nat} {v : Value} {L L' : List (Option Value)} (h : lv_has ls nL ((i, v) :: (lvL 0 L).filter (fun q => !(q.1 == i) && (!(q.1 == i + 1) && !(q.1 + 1 == i && q.2.category == 2)))))
    (hL : ∀ (k : Nat) (w : Value), L'[k]? = some (some w) → (k = i ∧ w = v) ∨ (k ≠ i ∧ k ≠ i + 1 ∧ L[k]? = some (some w) ∧ (k + 1 = i → w.category = 1))) : lvO ls nL L' := by
  refine ⟨h.1, h.2.1, fun k w hk => ?_⟩
  rcases hL k w hk with ⟨rfl, rfl⟩ | ⟨h1, h1', h2, h3⟩
  · exact h.2.2 (k, w) List.mem_cons_self
  · have h4 := lvL_mem (i := 0) h2
    rw [Nat.zero_add] at h4
    refine h.2.2 (k, w) (List.mem_cons_of_mem _ (List.mem_filter.mpr ⟨h4, ?_⟩))
    by_cases h5 : k + 1 = i
    · have := h3 h5
      simp [h1, h1', h5, this]
    · simp [h1, h1', h5]
/-- THE JUDGEMENT: from place pc, with these locals and this stack, over the world σ μ, the frame X comes to its end -/
def V (X : XT) (E : ET) (pc : Nat) (L : List (Option Value)) (st : List Value) (σ μ : St) : Prop :=
  ∀ (H : Heap) (locs : List Loc) (ls : Array Slot), va_P E.1 vwCl (mkW E σ μ) H → va_S (xA X) (xs X).heap H locs → lvO ls (xc X).maxLocals L → W (xp X) (xl X) (xe X) (xR X) (xs X) (xm X) (xa X) (xb X) (xM X) (xc X) H locs (xk X) (xn X) (xQ X) (F0 (xm X) pc ls st)
/-- its context: the code, the class that it stands in, its locals, its room -/
def Cx (X : XT) (E : ET) (cc : ByteArray) (own : String) (nL : Nat) (R0 : Room) : Prop :=
  (xp X).tables.exec = Jvm.exec ∧ (xc X).code = cc ∧ (xc X).maxLocals = nL ∧ (xs X).vm.findClass own = some (xm X).cls ∧ (∀ w ∈ gT, w.before (xa X) (xs X) = true) ∧ Wk E (xs X) ∧ Zk E (xA X) (xs X) (xs X).heap ∧ (∀ k, k < 65 → xA X (adr E k)) ∧ xR X = R0 ∧ xk X ≤ R0.cells ∧ xn X ≤ R0.slots
/-- its aim: it returns v, and the world is σ μ -/
def Tx (X : XT) (E : ET) (r : Option FieldType) (v : Option Value) (σ μ : St) : Prop :=
  xQ X = MQ (xb X) (Qr E v σ μ) (xa X) (xs X) (xk X) (xn X) (AA E) ∧ xA X = AA E ∧ (xM X).sig.returnType = r ∧ (xM X).locks = false
theorem cat_entry {args : List Value} (hc : ∀ v ∈ args, v.category = 1) : ∀ (i k : Nat) (v : Value), args[k]? = some v → (i + k, v) ∈ lv_args i args := by
  induction args with
  | nil => intro i k v h; simp at h
  | cons a t ih =>
    intro i k v h
    have ha : a.category = 1 := hc a List.mem_cons_self
    cases k with
    | zero =>
      simp at h
      subst h
      exact List.mem_cons_self
    | succ k =>
      have h2 := ih (fun w hw => hc w (List.mem_cons_of_mem _ hw)) (i + 1) k v (by simpa using h)
      refine List.mem_cons_of_mem _ ?_
      rw [if_neg (by omega), show i + (k + 1) = i + 1 + k by omega]
      exact h2
theorem cat_sl {args : List Value} (hc : ∀ v ∈ args, v.category = 1) : (lg_sl args).length = args.length := by
  induction args with
  | nil => rfl
  | cons a t ih =>
    have ha : a.category = 1 := hc a List.mem_cons_self
    have := ih (fun w hw => hc w (List.mem_cons_of_mem _ hw))
    simp [lg_sl, ha] at this ⊢
    exact this
theorem lvO_entry {args : List Value} {n : Nat} {L : List (Option Value)} (hc : ∀ v ∈ args, v.category = 1) (hn : args.length ≤ n) (hL : args.map some ++ List.replicate (n - args.length) none = L) : lvO (lg_sl args ++ List.replicate (n - (lg_sl args).length) Slot.unset).toArray n L := by
  have h := lv_entry args (n := n) (by rw [cat_sl hc]; exact hn)
  refine ⟨h.1, h.2.1, fun k v hk => ?_⟩
  rw [← hL] at hk
  have h1 : args[k]? = some v := by
    rcases Nat.lt_or_ge k args.length with q | q
    · rw [List.getElem?_append_left (by simpa using q), List.getElem?_map] at hk
      cases ha : args[k]? with
      | none => rw [ha] at hk; simp at hk
      | some w => rw [ha] at hk; simp at hk; rw [hk]
    · rw [List.getElem?_append_right (by simpa using q), List.getElem?_replicate] at hk
      split at hk <;> simp at hk
  have h2 := cat_entry hc 0 k v h1
  rw [Nat.zero_add] at h2
  exact h.2.2 (k, v) h2
/-- a contract out of the walk of the method's body -/
theorem Ct.of {l : Launch} {E : ET} {y : MethodName} {b : ByteArray} {n : Nat} {r : Option FieldType} {rm : Room} {args : List Value} {σ μ : St} {v : Option Value} {σ' μ' : St} {L : List (Option Value)}
    (hy : plainName y.cls = true) (hc : args.all (fun v => v.category == 1) = true) (hn : args.length ≤ n) (hL : args.map some ++ List.replicate (n - args.length) none = L)
    (body : ∀ X : XT, Cx X E b y.cls n rm → Tx X E r v σ' μ' → V X E 0 L [] σ μ) : Ct l E (y, b, n, r, rm) args σ μ v σ' μ' := by
  have hc' : ∀ v ∈ args, v.category = 1 := fun v hv => by simpa using List.all_eq_true.mp hc v hv
  refine Met.ofW (cc := b) (maxL := n) (ret := r) hy rfl ?_
  intro p e s m args' below meth c s₁ B hml hv
  obtain ⟨rfl, hP, hK, hZ⟩ := hv
  have hts := atoms_spec (ws := Cond.code y b n r :: gT) B.pre
  have hown : s.vm.findClass y.cls = some m.cls := findClass_of_methodNamed B.named
  have h := body (p, l, e, rm, s, m, args.toArray, below, meth, c, AA E, MQ below (Qr E v σ' μ') args.toArray s 0 0 (AA E), 0, 0)
    ⟨B.exec, B.bytes, hml, hown, fun w hw => hts w (List.mem_cons_of_mem _ hw), hK, hZ, fun k hk => ⟨k, hk, rfl⟩, rfl, Nat.zero_le _, Nat.zero_le _⟩
    ⟨rfl, rfl, B.returns, B.notSynchronized⟩
  rw [lg_entry_eq]
  have hl := lvO_entry (n := n) hc' hn hL
  refine h s.heap [] _ hP va_S.rf ?_
  show lvO _ c.maxLocals L
  rw [hml]
  exact hl
end
section
section
variable {X : XT} {E : ET} {cc : ByteArray} {own : String} {nL : Nat} {R0 : Room} {pc : Nat} {L : List (Option Value)} {st : List Value} {σ μ : St}
theorem v_iconst (hC : Cx X E cc own nL R0) {n : Int} {v : Int32} (hd : decode cc pc = .ok (.iconst n, 1)) (hv : Int32.ofInt n = v) (k : V X E (pc + 1) L (.int v :: st) σ μ) : V X E pc L (st) σ μ := fun H locs ls hP hS hl => lv_iconst hC.1 hC.2.1 hd hv (k H locs ls hP hS hl)
theorem v_bipush (hC : Cx X E cc own nL R0) {n : Int} {v : Int32} (hd : decode cc pc = .ok (.bipush n, 2)) (hv : (Int8.ofInt n).toInt32 = v) (k : V X E (pc + 2) L (.int v :: st) σ μ) : V X E pc L (st) σ μ := fun H locs ls hP hS hl => lv_bipush hC.1 hC.2.1 hd hv (k H locs ls hP hS hl)
theorem v_sipush (hC : Cx X E cc own nL R0) {n : Int} {v : Int32} (hd : decode cc pc = .ok (.sipush n, 3)) (hv : (Int16.ofInt n).toInt32 = v) (k : V X E (pc + 3) L (.int v :: st) σ μ) : V X E pc L (st) σ μ := fun H locs ls hP hS hl => lv_sipush hC.1 hC.2.1 hd hv (k H locs ls hP hS hl)
theorem v_ldc (hC : Cx X E cc own nL R0) {i : Nat} {v : Int32} (hk : Cond.constant own i v ∈ gT) (hd : decode cc pc = .ok (.ldc i, 2)) (k : V X E (pc + 2) L (.int v :: st) σ μ) : V X E pc L st σ μ := fun H locs ls hP hS hl => lv_ldc hC.1 hC.2.1 hC.2.2.2.1 (hC.2.2.2.2.1 _ hk) hd (k H locs ls hP hS hl)
theorem v_ldcw (hC : Cx X E cc own nL R0) {i : Nat} {v : Int32} (hk : Cond.constant own i v ∈ gT) (hd : decode cc pc = .ok (.ldc_w i, 3)) (k : V X E (pc + 3) L (.int v :: st) σ μ) : V X E pc L st σ μ := fun H locs ls hP hS hl => lv_ldcw hC.1 hC.2.1 hC.2.2.2.1 (hC.2.2.2.2.1 _ hk) hd (k H locs ls hP hS hl)
theorem v_ldc2 (hC : Cx X E cc own nL R0) {i : Nat} {v : Int64} (hk : Cond.constantLong own i v ∈ gT) (hd : decode cc pc = .ok (.ldc2_w i, 3)) (k : V X E (pc + 3) L (.long v :: st) σ μ) : V X E pc L st σ μ := fun H locs ls hP hS hl => lv_ldc2 hC.1 hC.2.1 hC.2.2.2.1 (hC.2.2.2.2.1 _ hk) hd (k H locs ls hP hS hl)
theorem v_lconst (hC : Cx X E cc own nL R0) {n : Fin 2} {v : Int64} (hd : decode cc pc = .ok (.lconst n, 1)) (hv : Int64.ofNat (n : Nat) = v) (k : V X E (pc + 1) L (.long v :: st) σ μ) : V X E pc L (st) σ μ := fun H locs ls hP hS hl => lv_lconst hC.1 hC.2.1 hd hv (k H locs ls hP hS hl)
theorem v_iadd (hC : Cx X E cc own nL R0) {x y : Int32} (hd : decode cc pc = .ok (.iadd, 1))  (k : V X E (pc + 1) L (.int (x + y) :: st) σ μ) : V X E pc L (.int y :: .int x :: st) σ μ := fun H locs ls hP hS hl => lv_iadd hC.1 hC.2.1 hd  (k H locs ls hP hS hl)
theorem v_isub (hC : Cx X E cc own nL R0) {x y : Int32} (hd : decode cc pc = .ok (.isub, 1))  (k : V X E (pc + 1) L (.int (x - y) :: st) σ μ) : V X E pc L (.int y :: .int x :: st) σ μ := fun H locs ls hP hS hl => lv_isub hC.1 hC.2.1 hd  (k H locs ls hP hS hl)
theorem v_imul (hC : Cx X E cc own nL R0) {x y : Int32} (hd : decode cc pc = .ok (.imul, 1))  (k : V X E (pc + 1) L (.int (x * y) :: st) σ μ) : V X E pc L (.int y :: .int x :: st) σ μ := fun H locs ls hP hS hl => lv_imul hC.1 hC.2.1 hd  (k H locs ls hP hS hl)
theorem v_iand (hC : Cx X E cc own nL R0) {x y : Int32} (hd : decode cc pc = .ok (.iand, 1))  (k : V X E (pc + 1) L (.int (x &&& y) :: st) σ μ) : V X E pc L (.int y :: .int x :: st) σ μ := fun H locs ls hP hS hl => lv_iand hC.1 hC.2.1 hd  (k H locs ls hP hS hl)
theorem v_ior (hC : Cx X E cc own nL R0) {x y : Int32} (hd : decode cc pc = .ok (.ior, 1))  (k : V X E (pc + 1) L (.int (x ||| y) :: st) σ μ) : V X E pc L (.int y :: .int x :: st) σ μ := fun H locs ls hP hS hl => lv_ior hC.1 hC.2.1 hd  (k H locs ls hP hS hl)
theorem v_idiv (hC : Cx X E cc own nL R0) {x y : Int32} (hd : decode cc pc = .ok (.idiv, 1)) (hne : ¬ y = 0) (k : V X E (pc + 1) L (.int (x / y) :: st) σ μ) : V X E pc L (.int y :: .int x :: st) σ μ := fun H locs ls hP hS hl => lv_idiv hC.1 hC.2.1 hd hne (k H locs ls hP hS hl)
theorem v_irem (hC : Cx X E cc own nL R0) {x y : Int32} (hd : decode cc pc = .ok (.irem, 1)) (hne : ¬ y = 0) (k : V X E (pc + 1) L (.int (x - x / y * y) :: st) σ μ) : V X E pc L (.int y :: .int x :: st) σ μ := fun H locs ls hP hS hl => lv_irem hC.1 hC.2.1 hd hne (k H locs ls hP hS hl)
theorem v_ineg (hC : Cx X E cc own nL R0) {x : Int32} (hd : decode cc pc = .ok (.ineg, 1))  (k : V X E (pc + 1) L (.int (-x) :: st) σ μ) : V X E pc L (.int x :: st) σ μ := fun H locs ls hP hS hl => lv_ineg hC.1 hC.2.1 hd  (k H locs ls hP hS hl)
theorem v_ishl (hC : Cx X E cc own nL R0) {x y : Int32} (hd : decode cc pc = .ok (.ishl, 1))  (k : V X E (pc + 1) L (.int (x <<< (y &&& 31)) :: st) σ μ) : V X E pc L (.int y :: .int x :: st) σ μ := fun H locs ls hP hS hl => lv_ishl hC.1 hC.2.1 hd  (k H locs ls hP hS hl)
theorem v_ishr (hC : Cx X E cc own nL R0) {x y : Int32} (hd : decode cc pc = .ok (.ishr, 1))  (k : V X E (pc + 1) L (.int (x >>> (y &&& 31)) :: st) σ μ) : V X E pc L (.int y :: .int x :: st) σ μ := fun H locs ls hP hS hl => lv_ishr hC.1 hC.2.1 hd  (k H locs ls hP hS hl)
theorem v_iushr (hC : Cx X E cc own nL R0) {x y : Int32} (hd : decode cc pc = .ok (.iushr, 1))  (k : V X E (pc + 1) L (.int (x.toUInt32 >>> (y.toUInt32 &&& Int32.toUInt32 31)).toInt32 :: st) σ μ) : V X E pc L (.int y :: .int x :: st) σ μ := fun H locs ls hP hS hl => lv_iushr hC.1 hC.2.1 hd rfl (k H locs ls hP hS hl)
theorem v_ladd (hC : Cx X E cc own nL R0) {x y : Int64} (hd : decode cc pc = .ok (.ladd, 1))  (k : V X E (pc + 1) L (.long (x + y) :: st) σ μ) : V X E pc L (.long y :: .long x :: st) σ μ := fun H locs ls hP hS hl => lv_ladd hC.1 hC.2.1 hd  (k H locs ls hP hS hl)
theorem v_lmul (hC : Cx X E cc own nL R0) {x y : Int64} (hd : decode cc pc = .ok (.lmul, 1))  (k : V X E (pc + 1) L (.long (x * y) :: st) σ μ) : V X E pc L (.long y :: .long x :: st) σ μ := fun H locs ls hP hS hl => lv_lmul hC.1 hC.2.1 hd  (k H locs ls hP hS hl)
theorem v_i2l (hC : Cx X E cc own nL R0) {x : Int32} (hd : decode cc pc = .ok (.i2l, 1))  (k : V X E (pc + 1) L (.long x.toInt64 :: st) σ μ) : V X E pc L (.int x :: st) σ μ := fun H locs ls hP hS hl => lv_i2l hC.1 hC.2.1 hd rfl (k H locs ls hP hS hl)
theorem v_lcmp (hC : Cx X E cc own nL R0) {x y : Int64} (hd : decode cc pc = .ok (.lcmp, 1))  (k : V X E (pc + 1) L (.int (lg_cmp x y) :: st) σ μ) : V X E pc L (.long y :: .long x :: st) σ μ := fun H locs ls hP hS hl => W.lcmp hC.1 hC.2.1 hd  (k H locs ls hP hS hl)
theorem v_iaddN (hC : Cx X E cc own nL R0) {i j : Nat} (hd : decode cc pc = .ok (.iadd, 1)) (k : V X E (pc + 1) L (.int (nI (i + j)) :: st) σ μ) : V X E pc L (.int (nI j) :: .int (nI i) :: st) σ μ := v_iadd hC hd (by rw [nI_add]; exact k)
theorem v_imulN (hC : Cx X E cc own nL R0) {i j : Nat} (hd : decode cc pc = .ok (.imul, 1)) (k : V X E (pc + 1) L (.int (nI (i * j)) :: st) σ μ) : V X E pc L (.int (nI j) :: .int (nI i) :: st) σ μ := v_imul hC hd (by rw [pk_mul]; exact k)
theorem v_isubN (hC : Cx X E cc own nL R0) {i j : Nat} (hd : decode cc pc = .ok (.isub, 1)) (h : j ≤ i) (k : V X E (pc + 1) L (.int (nI (i - j)) :: st) σ μ) : V X E pc L (.int (nI j) :: .int (nI i) :: st) σ μ := v_isub hC hd (by rw [pk_sub h]; exact k)
theorem v_dup (hC : Cx X E cc own nL R0) {v : Value} (hc : v.category = 1) (hd : decode cc pc = .ok (.dup, 1)) (k : V X E (pc + 1) L (v :: v :: st) σ μ) : V X E pc L (v :: st) σ μ := fun H locs ls hP hS hl => lv_dup hC.1 hC.2.1 hd hc (k H locs ls hP hS hl)
theorem v_pop (hC : Cx X E cc own nL R0) {v : Value} (hc : v.category = 1) (hd : decode cc pc = .ok (.pop, 1)) (k : V X E (pc + 1) L st σ μ) : V X E pc L (v :: st) σ μ := fun H locs ls hP hS hl => lv_pop hC.1 hC.2.1 hd hc (k H locs ls hP hS hl)
theorem v_dup2 (hC : Cx X E cc own nL R0) {v w : Value} (hc : v.category = 1) (hc2 : w.category = 1) (hd : decode cc pc = .ok (.dup2, 1)) (k : V X E (pc + 1) L (v :: w :: v :: w :: st) σ μ) : V X E pc L (v :: w :: st) σ μ := fun H locs ls hP hS hl => lv_dup2_11 hC.1 hC.2.1 hd hc hc2 (k H locs ls hP hS hl)
theorem v_top {x y : Int32} (h : x = y) (k : V X E pc L (.int y :: st) σ μ) : V X E pc L (.int x :: st) σ μ := h ▸ k
theorem v_world {σ2 μ2 : St} (h : σ = σ2) (h2 : μ = μ2) (k : V X E pc L st σ2 μ2) : V X E pc L st σ μ := h ▸ h2 ▸ k
theorem v_ifeq (hC : Cx X E cc own nL R0) {x : Int32} {off : Int} {tgt : Nat} (hd : decode cc pc = .ok (.ifCond .eq off, 3)) (ht : (pc : Int) + off = (tgt : Int)) (kt : x = 0 → V X E tgt L st σ μ) (kf : ¬ x = 0 → V X E (pc + 3) L st σ μ) : V X E pc L (.int x :: st) σ μ := fun H locs ls hP hS hl => lv_if_eq hC.1 hC.2.1 hd ht (fun h => kt h H locs ls hP hS hl) (fun h => kf h H locs ls hP hS hl)
theorem v_iceq (hC : Cx X E cc own nL R0) {x y : Int32} {off : Int} {tgt : Nat} (hd : decode cc pc = .ok (.if_icmp .eq off, 3)) (ht : (pc : Int) + off = (tgt : Int)) (kt : x = y → V X E tgt L st σ μ) (kf : ¬ x = y → V X E (pc + 3) L st σ μ) : V X E pc L (.int y :: .int x :: st) σ μ := fun H locs ls hP hS hl => lv_icmp_eq hC.1 hC.2.1 hd ht (fun h => kt h H locs ls hP hS hl) (fun h => kf h H locs ls hP hS hl)
theorem v_ifne (hC : Cx X E cc own nL R0) {x : Int32} {off : Int} {tgt : Nat} (hd : decode cc pc = .ok (.ifCond .ne off, 3)) (ht : (pc : Int) + off = (tgt : Int)) (kt : ¬ x = 0 → V X E tgt L st σ μ) (kf : x = 0 → V X E (pc + 3) L st σ μ) : V X E pc L (.int x :: st) σ μ := fun H locs ls hP hS hl => lv_if_ne hC.1 hC.2.1 hd ht (fun h => kt h H locs ls hP hS hl) (fun h => kf h H locs ls hP hS hl)
theorem v_icne (hC : Cx X E cc own nL R0) {x y : Int32} {off : Int} {tgt : Nat} (hd : decode cc pc = .ok (.if_icmp .ne off, 3)) (ht : (pc : Int) + off = (tgt : Int)) (kt : ¬ x = y → V X E tgt L st σ μ) (kf : x = y → V X E (pc + 3) L st σ μ) : V X E pc L (.int y :: .int x :: st) σ μ := fun H locs ls hP hS hl => lv_icmp_ne hC.1 hC.2.1 hd ht (fun h => kt h H locs ls hP hS hl) (fun h => kf h H locs ls hP hS hl)
theorem v_iflt (hC : Cx X E cc own nL R0) {x : Int32} {off : Int} {tgt : Nat} (hd : decode cc pc = .ok (.ifCond .lt off, 3)) (ht : (pc : Int) + off = (tgt : Int)) (kt : x < 0 → V X E tgt L st σ μ) (kf : ¬ x < 0 → V X E (pc + 3) L st σ μ) : V X E pc L (.int x :: st) σ μ := fun H locs ls hP hS hl => lv_if_lt hC.1 hC.2.1 hd ht (fun h => kt h H locs ls hP hS hl) (fun h => kf h H locs ls hP hS hl)
theorem v_iclt (hC : Cx X E cc own nL R0) {x y : Int32} {off : Int} {tgt : Nat} (hd : decode cc pc = .ok (.if_icmp .lt off, 3)) (ht : (pc : Int) + off = (tgt : Int)) (kt : x < y → V X E tgt L st σ μ) (kf : ¬ x < y → V X E (pc + 3) L st σ μ) : V X E pc L (.int y :: .int x :: st) σ μ := fun H locs ls hP hS hl => lv_icmp_lt hC.1 hC.2.1 hd ht (fun h => kt h H locs ls hP hS hl) (fun h => kf h H locs ls hP hS hl)
theorem v_ifge (hC : Cx X E cc own nL R0) {x : Int32} {off : Int} {tgt : Nat} (hd : decode cc pc = .ok (.ifCond .ge off, 3)) (ht : (pc : Int) + off = (tgt : Int)) (kt : 0 ≤ x → V X E tgt L st σ μ) (kf : ¬ 0 ≤ x → V X E (pc + 3) L st σ μ) : V X E pc L (.int x :: st) σ μ := fun H locs ls hP hS hl => lv_if_ge hC.1 hC.2.1 hd ht (fun h => kt h H locs ls hP hS hl) (fun h => kf h H locs ls hP hS hl)
theorem v_icge (hC : Cx X E cc own nL R0) {x y : Int32} {off : Int} {tgt : Nat} (hd : decode cc pc = .ok (.if_icmp .ge off, 3)) (ht : (pc : Int) + off = (tgt : Int)) (kt : y ≤ x → V X E tgt L st σ μ) (kf : ¬ y ≤ x → V X E (pc + 3) L st σ μ) : V X E pc L (.int y :: .int x :: st) σ μ := fun H locs ls hP hS hl => lv_icmp_ge hC.1 hC.2.1 hd ht (fun h => kt h H locs ls hP hS hl) (fun h => kf h H locs ls hP hS hl)
theorem v_ifgt (hC : Cx X E cc own nL R0) {x : Int32} {off : Int} {tgt : Nat} (hd : decode cc pc = .ok (.ifCond .gt off, 3)) (ht : (pc : Int) + off = (tgt : Int)) (kt : 0 < x → V X E tgt L st σ μ) (kf : ¬ 0 < x → V X E (pc + 3) L st σ μ) : V X E pc L (.int x :: st) σ μ := fun H locs ls hP hS hl => lv_if_gt hC.1 hC.2.1 hd ht (fun h => kt h H locs ls hP hS hl) (fun h => kf h H locs ls hP hS hl)
theorem v_icgt (hC : Cx X E cc own nL R0) {x y : Int32} {off : Int} {tgt : Nat} (hd : decode cc pc = .ok (.if_icmp .gt off, 3)) (ht : (pc : Int) + off = (tgt : Int)) (kt : y < x → V X E tgt L st σ μ) (kf : ¬ y < x → V X E (pc + 3) L st σ μ) : V X E pc L (.int y :: .int x :: st) σ μ := fun H locs ls hP hS hl => lv_icmp_gt hC.1 hC.2.1 hd ht (fun h => kt h H locs ls hP hS hl) (fun h => kf h H locs ls hP hS hl)
theorem v_ifle (hC : Cx X E cc own nL R0) {x : Int32} {off : Int} {tgt : Nat} (hd : decode cc pc = .ok (.ifCond .le off, 3)) (ht : (pc : Int) + off = (tgt : Int)) (kt : x ≤ 0 → V X E tgt L st σ μ) (kf : ¬ x ≤ 0 → V X E (pc + 3) L st σ μ) : V X E pc L (.int x :: st) σ μ := fun H locs ls hP hS hl => lv_if_le hC.1 hC.2.1 hd ht (fun h => kt h H locs ls hP hS hl) (fun h => kf h H locs ls hP hS hl)
theorem v_icle (hC : Cx X E cc own nL R0) {x y : Int32} {off : Int} {tgt : Nat} (hd : decode cc pc = .ok (.if_icmp .le off, 3)) (ht : (pc : Int) + off = (tgt : Int)) (kt : x ≤ y → V X E tgt L st σ μ) (kf : ¬ x ≤ y → V X E (pc + 3) L st σ μ) : V X E pc L (.int y :: .int x :: st) σ μ := fun H locs ls hP hS hl => lv_icmp_le hC.1 hC.2.1 hd ht (fun h => kt h H locs ls hP hS hl) (fun h => kf h H locs ls hP hS hl)
theorem v_goto (hC : Cx X E cc own nL R0) {off : Int} {tgt : Nat} (hd : decode cc pc = .ok (.goto off, 3)) (ht : (pc : Int) + off = (tgt : Int)) (k : V X E tgt L st σ μ) : V X E pc L st σ μ := fun H locs ls hP hS hl => lv_goto hC.1 hC.2.1 hd ht (k H locs ls hP hS hl)
theorem v_tabIn (hC : Cx X E cc own nL R0) {dflt lo hi : Int} {offs : Array Int} {len : Nat} {x : Int32} {off : Int} {tgt : Nat} (hd : decode cc pc = .ok (.tableswitch dflt lo hi offs, len)) (h1 : ¬ x.toInt < lo) (h2 : ¬ hi < x.toInt) (ho : offs[(x.toInt - lo).toNat]? = some off) (ht : (pc : Int) + off = (tgt : Int)) (k : V X E tgt L st σ μ) : V X E pc L (.int x :: st) σ μ := fun H locs ls hP hS hl => lv_tableIn hC.1 hC.2.1 hd h1 h2 ho ht (k H locs ls hP hS hl)
theorem v_tabOut (hC : Cx X E cc own nL R0) {dflt lo hi : Int} {offs : Array Int} {len : Nat} {x : Int32} {tgt : Nat} (hd : decode cc pc = .ok (.tableswitch dflt lo hi offs, len)) (h : x.toInt < lo ∨ hi < x.toInt) (ht : (pc : Int) + dflt = (tgt : Int)) (k : V X E tgt L st σ μ) : V X E pc L (.int x :: st) σ μ := fun H locs ls hP hS hl => lv_tableOut hC.1 hC.2.1 hd h ht (k H locs ls hP hS hl)
def catO (q : Option Value) : Bool := match q with
  | some w => w.category == 1
  | none => true
def catP (L : List (Option Value)) (i : Nat) : Bool := match i with
  | 0 => true
  | j + 1 => catO (L[j]?.getD none)
theorem lvO.store1 {ls : Array Slot} {i : Nat} {v : Value} (h : lv_has ls nL ((i, v) :: (lvL 0 L).filter (fun q => !(q.1 == i) && !(q.1 + 1 == i && q.2.category == 2)))) (hc : catP L i = true) : lvO ls nL (L.set i (some v)) := by
  refine lvO.put1 h (fun k w hk => ?_)
  by_cases hki : k = i
  · subst hki
    rw [List.getElem?_set] at hk
    simp at hk
    exact Or.inl ⟨rfl, hk.2.symm⟩
  · rw [List.getElem?_set_ne (fun q => hki q.symm)] at hk
    refine Or.inr ⟨hki, hk, fun h1 => ?_⟩
    subst h1
    simpa [catP, hk, catO] using hc
theorem lvO.store2 {ls : Array Slot} {i : Nat} {v : Value} (h : lv_has ls nL ((i, v) :: (lvL 0 L).filter (fun q => !(q.1 == i) && (!(q.1 == i + 1) && !(q.1 + 1 == i && q.2.category == 2))))) (hc : catP L i = true) : lvO ls nL ((L.set i (some v)).set (i + 1) none) := by
  refine lvO.put2 h (fun k w hk => ?_)
  by_cases hk1 : k = i + 1
  · subst hk1
    rw [List.getElem?_set] at hk
    simp at hk
  · rw [List.getElem?_set_ne (fun q => hk1 q.symm)] at hk
    by_cases hki : k = i
    · subst hki
      rw [List.getElem?_set] at hk
      simp at hk
      exact Or.inl ⟨rfl, hk.2.symm⟩
    · rw [List.getElem?_set_ne (fun q => hki q.symm)] at hk
      refine Or.inr ⟨hki, hk1, hk, fun h1 => ?_⟩
      subst h1
      simpa [catP, hk, catO] using hc
theorem v_iload_0 (hC : Cx X E cc own nL R0) {x : Int32} (hd : decode cc pc = .ok (.iload_n 0, 1)) (k : V X E (pc + 1) (some (.int x) :: L) (.int x :: st) σ μ) : V X E pc (some (.int x) :: L) st σ μ := fun H locs ls hP hS hl => lv_iload_n hC.1 hC.2.1 hd rfl (hl.2.2 0 _ rfl) (k H locs ls hP hS hl)
theorem v_istore_0 (hC : Cx X E cc own nL R0) {a0 : Option Value} {x : Int32} (hn : 0 < nL) (hd : decode cc pc = .ok (.istore_n 0, 1)) (k : V X E (pc + 1) (some (.int x) :: L) st σ μ) : V X E pc (a0 :: L) (.int x :: st) σ μ := fun H locs ls hP hS hl => lv_istore_n hC.1 hC.2.1 hd rfl hl.has (by rw [hC.2.2.1]; exact hn) rfl (fun ls2 h2 => k H locs ls2 hP hS (lvO.store1 (L := a0 :: L) h2 rfl))
theorem v_aload_0 (hC : Cx X E cc own nL R0) {x : Nat} (hd : decode cc pc = .ok (.aload_n 0, 1)) (k : V X E (pc + 1) (some (.ref x) :: L) (.ref x :: st) σ μ) : V X E pc (some (.ref x) :: L) st σ μ := fun H locs ls hP hS hl => lv_aload_n hC.1 hC.2.1 hd rfl (hl.2.2 0 _ rfl) (k H locs ls hP hS hl)
theorem v_astore_0 (hC : Cx X E cc own nL R0) {a0 : Option Value} {x : Nat} (hn : 0 < nL) (hd : decode cc pc = .ok (.astore_n 0, 1)) (k : V X E (pc + 1) (some (.ref x) :: L) st σ μ) : V X E pc (a0 :: L) (.ref x :: st) σ μ := fun H locs ls hP hS hl => lv_astore_n hC.1 hC.2.1 hd rfl hl.has (by rw [hC.2.2.1]; exact hn) rfl (fun ls2 h2 => k H locs ls2 hP hS (lvO.store1 (L := a0 :: L) h2 rfl))
theorem v_lload_0 (hC : Cx X E cc own nL R0) {x : Int64} (hd : decode cc pc = .ok (.lload_n 0, 1)) (k : V X E (pc + 1) (some (.long x) :: L) (.long x :: st) σ μ) : V X E pc (some (.long x) :: L) st σ μ := fun H locs ls hP hS hl => lv_lload_n hC.1 hC.2.1 hd rfl (hl.2.2 0 _ rfl) (k H locs ls hP hS hl)
theorem v_lstore_0 (hC : Cx X E cc own nL R0) {a0 a1 : Option Value} {x : Int64} (hn : 1 < nL) (hd : decode cc pc = .ok (.lstore_n 0, 1)) (k : V X E (pc + 1) (some (.long x) :: none :: L) st σ μ) : V X E pc (a0 :: a1 :: L) (.long x :: st) σ μ := fun H locs ls hP hS hl => lv_lstore_n hC.1 hC.2.1 hd rfl hl.has (by rw [hC.2.2.1]; exact hn) rfl (fun ls2 h2 => k H locs ls2 hP hS (lvO.store2 (L := a0 :: a1 :: L) h2 rfl))
theorem v_iinc_0 (hC : Cx X E cc own nL R0) {x v : Int32} {n : Int} (hn : 0 < nL) (hd : decode cc pc = .ok (.iinc 0 n, 3)) (hv : x + Int32.ofInt n = v) (k : V X E (pc + 3) (some (.int v) :: L) st σ μ) : V X E pc (some (.int x) :: L) st σ μ := fun H locs ls hP hS hl => by
  obtain ⟨kk, hkk⟩ := List.getElem?_of_mem (lvL_mem (L := some (.int x) :: L) (i := 0) (k := 0) rfl)
  exact lv_iinc hC.1 hC.2.1 hd hl.has (by rw [hkk, Nat.zero_add]) hv (by rw [hC.2.2.1]; exact hn) rfl (fun ls2 h2 => k H locs ls2 hP hS (lvO.store1 (L := some (.int x) :: L) h2 rfl))
theorem v_iinc1_0 (hC : Cx X E cc own nL R0) {j : Nat} (hn : 0 < nL) (hd : decode cc pc = .ok (.iinc 0 1, 3)) (k : V X E (pc + 3) (some (.int (nI (j + 1))) :: L) st σ μ) : V X E pc (some (.int (nI j)) :: L) st σ μ := v_iinc_0 hC hn hd (nI_1 j) k
theorem v_iload_1 (hC : Cx X E cc own nL R0) {a0 : Option Value} {x : Int32} (hd : decode cc pc = .ok (.iload_n 1, 1)) (k : V X E (pc + 1) (a0 :: some (.int x) :: L) (.int x :: st) σ μ) : V X E pc (a0 :: some (.int x) :: L) st σ μ := fun H locs ls hP hS hl => lv_iload_n hC.1 hC.2.1 hd rfl (hl.2.2 1 _ rfl) (k H locs ls hP hS hl)
theorem v_istore_1 (hC : Cx X E cc own nL R0) {a0 a1 : Option Value} {x : Int32} (hn : 1 < nL) (hc : catO a0 = true) (hd : decode cc pc = .ok (.istore_n 1, 1)) (k : V X E (pc + 1) (a0 :: some (.int x) :: L) st σ μ) : V X E pc (a0 :: a1 :: L) (.int x :: st) σ μ := fun H locs ls hP hS hl => lv_istore_n hC.1 hC.2.1 hd rfl hl.has (by rw [hC.2.2.1]; exact hn) rfl (fun ls2 h2 => k H locs ls2 hP hS (lvO.store1 (L := a0 :: a1 :: L) h2 hc))
theorem v_aload_1 (hC : Cx X E cc own nL R0) {a0 : Option Value} {x : Nat} (hd : decode cc pc = .ok (.aload_n 1, 1)) (k : V X E (pc + 1) (a0 :: some (.ref x) :: L) (.ref x :: st) σ μ) : V X E pc (a0 :: some (.ref x) :: L) st σ μ := fun H locs ls hP hS hl => lv_aload_n hC.1 hC.2.1 hd rfl (hl.2.2 1 _ rfl) (k H locs ls hP hS hl)
theorem v_astore_1 (hC : Cx X E cc own nL R0) {a0 a1 : Option Value} {x : Nat} (hn : 1 < nL) (hc : catO a0 = true) (hd : decode cc pc = .ok (.astore_n 1, 1)) (k : V X E (pc + 1) (a0 :: some (.ref x) :: L) st σ μ) : V X E pc (a0 :: a1 :: L) (.ref x :: st) σ μ := fun H locs ls hP hS hl => lv_astore_n hC.1 hC.2.1 hd rfl hl.has (by rw [hC.2.2.1]; exact hn) rfl (fun ls2 h2 => k H locs ls2 hP hS (lvO.store1 (L := a0 :: a1 :: L) h2 hc))
theorem v_lload_1 (hC : Cx X E cc own nL R0) {a0 : Option Value} {x : Int64} (hd : decode cc pc = .ok (.lload_n 1, 1)) (k : V X E (pc + 1) (a0 :: some (.long x) :: L) (.long x :: st) σ μ) : V X E pc (a0 :: some (.long x) :: L) st σ μ := fun H locs ls hP hS hl => lv_lload_n hC.1 hC.2.1 hd rfl (hl.2.2 1 _ rfl) (k H locs ls hP hS hl)
theorem v_lstore_1 (hC : Cx X E cc own nL R0) {a0 a1 a2 : Option Value} {x : Int64} (hn : 2 < nL) (hc : catO a0 = true) (hd : decode cc pc = .ok (.lstore_n 1, 1)) (k : V X E (pc + 1) (a0 :: some (.long x) :: none :: L) st σ μ) : V X E pc (a0 :: a1 :: a2 :: L) (.long x :: st) σ μ := fun H locs ls hP hS hl => lv_lstore_n hC.1 hC.2.1 hd rfl hl.has (by rw [hC.2.2.1]; exact hn) rfl (fun ls2 h2 => k H locs ls2 hP hS (lvO.store2 (L := a0 :: a1 :: a2 :: L) h2 hc))
theorem v_iinc_1 (hC : Cx X E cc own nL R0) {a0 : Option Value} {x v : Int32} {n : Int} (hn : 1 < nL) (hc : catO a0 = true) (hd : decode cc pc = .ok (.iinc 1 n, 3)) (hv : x + Int32.ofInt n = v) (k : V X E (pc + 3) (a0 :: some (.int v) :: L) st σ μ) : V X E pc (a0 :: some (.int x) :: L) st σ μ := fun H locs ls hP hS hl => by
  obtain ⟨kk, hkk⟩ := List.getElem?_of_mem (lvL_mem (L := a0 :: some (.int x) :: L) (i := 0) (k := 1) rfl)
  exact lv_iinc hC.1 hC.2.1 hd hl.has (by rw [hkk, Nat.zero_add]) hv (by rw [hC.2.2.1]; exact hn) rfl (fun ls2 h2 => k H locs ls2 hP hS (lvO.store1 (L := a0 :: some (.int x) :: L) h2 hc))
theorem v_iinc1_1 (hC : Cx X E cc own nL R0) {a0 : Option Value} {j : Nat} (hn : 1 < nL) (hc : catO a0 = true) (hd : decode cc pc = .ok (.iinc 1 1, 3)) (k : V X E (pc + 3) (a0 :: some (.int (nI (j + 1))) :: L) st σ μ) : V X E pc (a0 :: some (.int (nI j)) :: L) st σ μ := v_iinc_1 hC hn hc hd (nI_1 j) k
theorem v_iload_2 (hC : Cx X E cc own nL R0) {a0 a1 : Option Value} {x : Int32} (hd : decode cc pc = .ok (.iload_n 2, 1)) (k : V X E (pc + 1) (a0 :: a1 :: some (.int x) :: L) (.int x :: st) σ μ) : V X E pc (a0 :: a1 :: some (.int x) :: L) st σ μ := fun H locs ls hP hS hl => lv_iload_n hC.1 hC.2.1 hd rfl (hl.2.2 2 _ rfl) (k H locs ls hP hS hl)
theorem v_istore_2 (hC : Cx X E cc own nL R0) {a0 a1 a2 : Option Value} {x : Int32} (hn : 2 < nL) (hc : catO a1 = true) (hd : decode cc pc = .ok (.istore_n 2, 1)) (k : V X E (pc + 1) (a0 :: a1 :: some (.int x) :: L) st σ μ) : V X E pc (a0 :: a1 :: a2 :: L) (.int x :: st) σ μ := fun H locs ls hP hS hl => lv_istore_n hC.1 hC.2.1 hd rfl hl.has (by rw [hC.2.2.1]; exact hn) rfl (fun ls2 h2 => k H locs ls2 hP hS (lvO.store1 (L := a0 :: a1 :: a2 :: L) h2 hc))
theorem v_aload_2 (hC : Cx X E cc own nL R0) {a0 a1 : Option Value} {x : Nat} (hd : decode cc pc = .ok (.aload_n 2, 1)) (k : V X E (pc + 1) (a0 :: a1 :: some (.ref x) :: L) (.ref x :: st) σ μ) : V X E pc (a0 :: a1 :: some (.ref x) :: L) st σ μ := fun H locs ls hP hS hl => lv_aload_n hC.1 hC.2.1 hd rfl (hl.2.2 2 _ rfl) (k H locs ls hP hS hl)
theorem v_astore_2 (hC : Cx X E cc own nL R0) {a0 a1 a2 : Option Value} {x : Nat} (hn : 2 < nL) (hc : catO a1 = true) (hd : decode cc pc = .ok (.astore_n 2, 1)) (k : V X E (pc + 1) (a0 :: a1 :: some (.ref x) :: L) st σ μ) : V X E pc (a0 :: a1 :: a2 :: L) (.ref x :: st) σ μ := fun H locs ls hP hS hl => lv_astore_n hC.1 hC.2.1 hd rfl hl.has (by rw [hC.2.2.1]; exact hn) rfl (fun ls2 h2 => k H locs ls2 hP hS (lvO.store1 (L := a0 :: a1 :: a2 :: L) h2 hc))
theorem v_lload_2 (hC : Cx X E cc own nL R0) {a0 a1 : Option Value} {x : Int64} (hd : decode cc pc = .ok (.lload_n 2, 1)) (k : V X E (pc + 1) (a0 :: a1 :: some (.long x) :: L) (.long x :: st) σ μ) : V X E pc (a0 :: a1 :: some (.long x) :: L) st σ μ := fun H locs ls hP hS hl => lv_lload_n hC.1 hC.2.1 hd rfl (hl.2.2 2 _ rfl) (k H locs ls hP hS hl)
theorem v_lstore_2 (hC : Cx X E cc own nL R0) {a0 a1 a2 a3 : Option Value} {x : Int64} (hn : 3 < nL) (hc : catO a1 = true) (hd : decode cc pc = .ok (.lstore_n 2, 1)) (k : V X E (pc + 1) (a0 :: a1 :: some (.long x) :: none :: L) st σ μ) : V X E pc (a0 :: a1 :: a2 :: a3 :: L) (.long x :: st) σ μ := fun H locs ls hP hS hl => lv_lstore_n hC.1 hC.2.1 hd rfl hl.has (by rw [hC.2.2.1]; exact hn) rfl (fun ls2 h2 => k H locs ls2 hP hS (lvO.store2 (L := a0 :: a1 :: a2 :: a3 :: L) h2 hc))
theorem v_iinc_2 (hC : Cx X E cc own nL R0) {a0 a1 : Option Value} {x v : Int32} {n : Int} (hn : 2 < nL) (hc : catO a1 = true) (hd : decode cc pc = .ok (.iinc 2 n, 3)) (hv : x + Int32.ofInt n = v) (k : V X E (pc + 3) (a0 :: a1 :: some (.int v) :: L) st σ μ) : V X E pc (a0 :: a1 :: some (.int x) :: L) st σ μ := fun H locs ls hP hS hl => by
  obtain ⟨kk, hkk⟩ := List.getElem?_of_mem (lvL_mem (L := a0 :: a1 :: some (.int x) :: L) (i := 0) (k := 2) rfl)
  exact lv_iinc hC.1 hC.2.1 hd hl.has (by rw [hkk, Nat.zero_add]) hv (by rw [hC.2.2.1]; exact hn) rfl (fun ls2 h2 => k H locs ls2 hP hS (lvO.store1 (L := a0 :: a1 :: some (.int x) :: L) h2 hc))
theorem v_iinc1_2 (hC : Cx X E cc own nL R0) {a0 a1 : Option Value} {j : Nat} (hn : 2 < nL) (hc : catO a1 = true) (hd : decode cc pc = .ok (.iinc 2 1, 3)) (k : V X E (pc + 3) (a0 :: a1 :: some (.int (nI (j + 1))) :: L) st σ μ) : V X E pc (a0 :: a1 :: some (.int (nI j)) :: L) st σ μ := v_iinc_2 hC hn hc hd (nI_1 j) k
theorem v_iload_3 (hC : Cx X E cc own nL R0) {a0 a1 a2 : Option Value} {x : Int32} (hd : decode cc pc = .ok (.iload_n 3, 1)) (k : V X E (pc + 1) (a0 :: a1 :: a2 :: some (.int x) :: L) (.int x :: st) σ μ) : V X E pc (a0 :: a1 :: a2 :: some (.int x) :: L) st σ μ := fun H locs ls hP hS hl => lv_iload_n hC.1 hC.2.1 hd rfl (hl.2.2 3 _ rfl) (k H locs ls hP hS hl)
theorem v_istore_3 (hC : Cx X E cc own nL R0) {a0 a1 a2 a3 : Option Value} {x : Int32} (hn : 3 < nL) (hc : catO a2 = true) (hd : decode cc pc = .ok (.istore_n 3, 1)) (k : V X E (pc + 1) (a0 :: a1 :: a2 :: some (.int x) :: L) st σ μ) : V X E pc (a0 :: a1 :: a2 :: a3 :: L) (.int x :: st) σ μ := fun H locs ls hP hS hl => lv_istore_n hC.1 hC.2.1 hd rfl hl.has (by rw [hC.2.2.1]; exact hn) rfl (fun ls2 h2 => k H locs ls2 hP hS (lvO.store1 (L := a0 :: a1 :: a2 :: a3 :: L) h2 hc))
theorem v_aload_3 (hC : Cx X E cc own nL R0) {a0 a1 a2 : Option Value} {x : Nat} (hd : decode cc pc = .ok (.aload_n 3, 1)) (k : V X E (pc + 1) (a0 :: a1 :: a2 :: some (.ref x) :: L) (.ref x :: st) σ μ) : V X E pc (a0 :: a1 :: a2 :: some (.ref x) :: L) st σ μ := fun H locs ls hP hS hl => lv_aload_n hC.1 hC.2.1 hd rfl (hl.2.2 3 _ rfl) (k H locs ls hP hS hl)
theorem v_astore_3 (hC : Cx X E cc own nL R0) {a0 a1 a2 a3 : Option Value} {x : Nat} (hn : 3 < nL) (hc : catO a2 = true) (hd : decode cc pc = .ok (.astore_n 3, 1)) (k : V X E (pc + 1) (a0 :: a1 :: a2 :: some (.ref x) :: L) st σ μ) : V X E pc (a0 :: a1 :: a2 :: a3 :: L) (.ref x :: st) σ μ := fun H locs ls hP hS hl => lv_astore_n hC.1 hC.2.1 hd rfl hl.has (by rw [hC.2.2.1]; exact hn) rfl (fun ls2 h2 => k H locs ls2 hP hS (lvO.store1 (L := a0 :: a1 :: a2 :: a3 :: L) h2 hc))
theorem v_lload_3 (hC : Cx X E cc own nL R0) {a0 a1 a2 : Option Value} {x : Int64} (hd : decode cc pc = .ok (.lload_n 3, 1)) (k : V X E (pc + 1) (a0 :: a1 :: a2 :: some (.long x) :: L) (.long x :: st) σ μ) : V X E pc (a0 :: a1 :: a2 :: some (.long x) :: L) st σ μ := fun H locs ls hP hS hl => lv_lload_n hC.1 hC.2.1 hd rfl (hl.2.2 3 _ rfl) (k H locs ls hP hS hl)
theorem v_lstore_3 (hC : Cx X E cc own nL R0) {a0 a1 a2 a3 a4 : Option Value} {x : Int64} (hn : 4 < nL) (hc : catO a2 = true) (hd : decode cc pc = .ok (.lstore_n 3, 1)) (k : V X E (pc + 1) (a0 :: a1 :: a2 :: some (.long x) :: none :: L) st σ μ) : V X E pc (a0 :: a1 :: a2 :: a3 :: a4 :: L) (.long x :: st) σ μ := fun H locs ls hP hS hl => lv_lstore_n hC.1 hC.2.1 hd rfl hl.has (by rw [hC.2.2.1]; exact hn) rfl (fun ls2 h2 => k H locs ls2 hP hS (lvO.store2 (L := a0 :: a1 :: a2 :: a3 :: a4 :: L) h2 hc))
theorem v_iinc_3 (hC : Cx X E cc own nL R0) {a0 a1 a2 : Option Value} {x v : Int32} {n : Int} (hn : 3 < nL) (hc : catO a2 = true) (hd : decode cc pc = .ok (.iinc 3 n, 3)) (hv : x + Int32.ofInt n = v) (k : V X E (pc + 3) (a0 :: a1 :: a2 :: some (.int v) :: L) st σ μ) : V X E pc (a0 :: a1 :: a2 :: some (.int x) :: L) st σ μ := fun H locs ls hP hS hl => by
  obtain ⟨kk, hkk⟩ := List.getElem?_of_mem (lvL_mem (L := a0 :: a1 :: a2 :: some (.int x) :: L) (i := 0) (k := 3) rfl)
  exact lv_iinc hC.1 hC.2.1 hd hl.has (by rw [hkk, Nat.zero_add]) hv (by rw [hC.2.2.1]; exact hn) rfl (fun ls2 h2 => k H locs ls2 hP hS (lvO.store1 (L := a0 :: a1 :: a2 :: some (.int x) :: L) h2 hc))
theorem v_iinc1_3 (hC : Cx X E cc own nL R0) {a0 a1 a2 : Option Value} {j : Nat} (hn : 3 < nL) (hc : catO a2 = true) (hd : decode cc pc = .ok (.iinc 3 1, 3)) (k : V X E (pc + 3) (a0 :: a1 :: a2 :: some (.int (nI (j + 1))) :: L) st σ μ) : V X E pc (a0 :: a1 :: a2 :: some (.int (nI j)) :: L) st σ μ := v_iinc_3 hC hn hc hd (nI_1 j) k
theorem v_iload_4 (hC : Cx X E cc own nL R0) {a0 a1 a2 a3 : Option Value} {x : Int32} (hd : decode cc pc = .ok (.iload 4, 2)) (k : V X E (pc + 2) (a0 :: a1 :: a2 :: a3 :: some (.int x) :: L) (.int x :: st) σ μ) : V X E pc (a0 :: a1 :: a2 :: a3 :: some (.int x) :: L) st σ μ := fun H locs ls hP hS hl => lv_iload hC.1 hC.2.1 hd (hl.2.2 4 _ rfl) (k H locs ls hP hS hl)
theorem v_istore_4 (hC : Cx X E cc own nL R0) {a0 a1 a2 a3 a4 : Option Value} {x : Int32} (hn : 4 < nL) (hc : catO a3 = true) (hd : decode cc pc = .ok (.istore 4, 2)) (k : V X E (pc + 2) (a0 :: a1 :: a2 :: a3 :: some (.int x) :: L) st σ μ) : V X E pc (a0 :: a1 :: a2 :: a3 :: a4 :: L) (.int x :: st) σ μ := fun H locs ls hP hS hl => lv_istore hC.1 hC.2.1 hd hl.has (by rw [hC.2.2.1]; exact hn) rfl (fun ls2 h2 => k H locs ls2 hP hS (lvO.store1 (L := a0 :: a1 :: a2 :: a3 :: a4 :: L) h2 hc))
theorem v_aload_4 (hC : Cx X E cc own nL R0) {a0 a1 a2 a3 : Option Value} {x : Nat} (hd : decode cc pc = .ok (.aload 4, 2)) (k : V X E (pc + 2) (a0 :: a1 :: a2 :: a3 :: some (.ref x) :: L) (.ref x :: st) σ μ) : V X E pc (a0 :: a1 :: a2 :: a3 :: some (.ref x) :: L) st σ μ := fun H locs ls hP hS hl => lv_aload hC.1 hC.2.1 hd (hl.2.2 4 _ rfl) (k H locs ls hP hS hl)
theorem v_astore_4 (hC : Cx X E cc own nL R0) {a0 a1 a2 a3 a4 : Option Value} {x : Nat} (hn : 4 < nL) (hc : catO a3 = true) (hd : decode cc pc = .ok (.astore 4, 2)) (k : V X E (pc + 2) (a0 :: a1 :: a2 :: a3 :: some (.ref x) :: L) st σ μ) : V X E pc (a0 :: a1 :: a2 :: a3 :: a4 :: L) (.ref x :: st) σ μ := fun H locs ls hP hS hl => lv_astore hC.1 hC.2.1 hd hl.has (by rw [hC.2.2.1]; exact hn) rfl (fun ls2 h2 => k H locs ls2 hP hS (lvO.store1 (L := a0 :: a1 :: a2 :: a3 :: a4 :: L) h2 hc))
theorem v_lload_4 (hC : Cx X E cc own nL R0) {a0 a1 a2 a3 : Option Value} {x : Int64} (hd : decode cc pc = .ok (.lload 4, 2)) (k : V X E (pc + 2) (a0 :: a1 :: a2 :: a3 :: some (.long x) :: L) (.long x :: st) σ μ) : V X E pc (a0 :: a1 :: a2 :: a3 :: some (.long x) :: L) st σ μ := fun H locs ls hP hS hl => lv_lload hC.1 hC.2.1 hd (hl.2.2 4 _ rfl) (k H locs ls hP hS hl)
theorem v_lstore_4 (hC : Cx X E cc own nL R0) {a0 a1 a2 a3 a4 a5 : Option Value} {x : Int64} (hn : 5 < nL) (hc : catO a3 = true) (hd : decode cc pc = .ok (.lstore 4, 2)) (k : V X E (pc + 2) (a0 :: a1 :: a2 :: a3 :: some (.long x) :: none :: L) st σ μ) : V X E pc (a0 :: a1 :: a2 :: a3 :: a4 :: a5 :: L) (.long x :: st) σ μ := fun H locs ls hP hS hl => lv_lstore hC.1 hC.2.1 hd hl.has (by rw [hC.2.2.1]; exact hn) rfl (fun ls2 h2 => k H locs ls2 hP hS (lvO.store2 (L := a0 :: a1 :: a2 :: a3 :: a4 :: a5 :: L) h2 hc))
theorem v_iinc_4 (hC : Cx X E cc own nL R0) {a0 a1 a2 a3 : Option Value} {x v : Int32} {n : Int} (hn : 4 < nL) (hc : catO a3 = true) (hd : decode cc pc = .ok (.iinc 4 n, 3)) (hv : x + Int32.ofInt n = v) (k : V X E (pc + 3) (a0 :: a1 :: a2 :: a3 :: some (.int v) :: L) st σ μ) : V X E pc (a0 :: a1 :: a2 :: a3 :: some (.int x) :: L) st σ μ := fun H locs ls hP hS hl => by
  obtain ⟨kk, hkk⟩ := List.getElem?_of_mem (lvL_mem (L := a0 :: a1 :: a2 :: a3 :: some (.int x) :: L) (i := 0) (k := 4) rfl)
  exact lv_iinc hC.1 hC.2.1 hd hl.has (by rw [hkk, Nat.zero_add]) hv (by rw [hC.2.2.1]; exact hn) rfl (fun ls2 h2 => k H locs ls2 hP hS (lvO.store1 (L := a0 :: a1 :: a2 :: a3 :: some (.int x) :: L) h2 hc))
theorem v_iinc1_4 (hC : Cx X E cc own nL R0) {a0 a1 a2 a3 : Option Value} {j : Nat} (hn : 4 < nL) (hc : catO a3 = true) (hd : decode cc pc = .ok (.iinc 4 1, 3)) (k : V X E (pc + 3) (a0 :: a1 :: a2 :: a3 :: some (.int (nI (j + 1))) :: L) st σ μ) : V X E pc (a0 :: a1 :: a2 :: a3 :: some (.int (nI j)) :: L) st σ μ := v_iinc_4 hC hn hc hd (nI_1 j) k
theorem v_iload_5 (hC : Cx X E cc own nL R0) {a0 a1 a2 a3 a4 : Option Value} {x : Int32} (hd : decode cc pc = .ok (.iload 5, 2)) (k : V X E (pc + 2) (a0 :: a1 :: a2 :: a3 :: a4 :: some (.int x) :: L) (.int x :: st) σ μ) : V X E pc (a0 :: a1 :: a2 :: a3 :: a4 :: some (.int x) :: L) st σ μ := fun H locs ls hP hS hl => lv_iload hC.1 hC.2.1 hd (hl.2.2 5 _ rfl) (k H locs ls hP hS hl)
theorem v_istore_5 (hC : Cx X E cc own nL R0) {a0 a1 a2 a3 a4 a5 : Option Value} {x : Int32} (hn : 5 < nL) (hc : catO a4 = true) (hd : decode cc pc = .ok (.istore 5, 2)) (k : V X E (pc + 2) (a0 :: a1 :: a2 :: a3 :: a4 :: some (.int x) :: L) st σ μ) : V X E pc (a0 :: a1 :: a2 :: a3 :: a4 :: a5 :: L) (.int x :: st) σ μ := fun H locs ls hP hS hl => lv_istore hC.1 hC.2.1 hd hl.has (by rw [hC.2.2.1]; exact hn) rfl (fun ls2 h2 => k H locs ls2 hP hS (lvO.store1 (L := a0 :: a1 :: a2 :: a3 :: a4 :: a5 :: L) h2 hc))
theorem v_aload_5 (hC : Cx X E cc own nL R0) {a0 a1 a2 a3 a4 : Option Value} {x : Nat} (hd : decode cc pc = .ok (.aload 5, 2)) (k : V X E (pc + 2) (a0 :: a1 :: a2 :: a3 :: a4 :: some (.ref x) :: L) (.ref x :: st) σ μ) : V X E pc (a0 :: a1 :: a2 :: a3 :: a4 :: some (.ref x) :: L) st σ μ := fun H locs ls hP hS hl => lv_aload hC.1 hC.2.1 hd (hl.2.2 5 _ rfl) (k H locs ls hP hS hl)
theorem v_astore_5 (hC : Cx X E cc own nL R0) {a0 a1 a2 a3 a4 a5 : Option Value} {x : Nat} (hn : 5 < nL) (hc : catO a4 = true) (hd : decode cc pc = .ok (.astore 5, 2)) (k : V X E (pc + 2) (a0 :: a1 :: a2 :: a3 :: a4 :: some (.ref x) :: L) st σ μ) : V X E pc (a0 :: a1 :: a2 :: a3 :: a4 :: a5 :: L) (.ref x :: st) σ μ := fun H locs ls hP hS hl => lv_astore hC.1 hC.2.1 hd hl.has (by rw [hC.2.2.1]; exact hn) rfl (fun ls2 h2 => k H locs ls2 hP hS (lvO.store1 (L := a0 :: a1 :: a2 :: a3 :: a4 :: a5 :: L) h2 hc))
theorem v_lload_5 (hC : Cx X E cc own nL R0) {a0 a1 a2 a3 a4 : Option Value} {x : Int64} (hd : decode cc pc = .ok (.lload 5, 2)) (k : V X E (pc + 2) (a0 :: a1 :: a2 :: a3 :: a4 :: some (.long x) :: L) (.long x :: st) σ μ) : V X E pc (a0 :: a1 :: a2 :: a3 :: a4 :: some (.long x) :: L) st σ μ := fun H locs ls hP hS hl => lv_lload hC.1 hC.2.1 hd (hl.2.2 5 _ rfl) (k H locs ls hP hS hl)
theorem v_lstore_5 (hC : Cx X E cc own nL R0) {a0 a1 a2 a3 a4 a5 a6 : Option Value} {x : Int64} (hn : 6 < nL) (hc : catO a4 = true) (hd : decode cc pc = .ok (.lstore 5, 2)) (k : V X E (pc + 2) (a0 :: a1 :: a2 :: a3 :: a4 :: some (.long x) :: none :: L) st σ μ) : V X E pc (a0 :: a1 :: a2 :: a3 :: a4 :: a5 :: a6 :: L) (.long x :: st) σ μ := fun H locs ls hP hS hl => lv_lstore hC.1 hC.2.1 hd hl.has (by rw [hC.2.2.1]; exact hn) rfl (fun ls2 h2 => k H locs ls2 hP hS (lvO.store2 (L := a0 :: a1 :: a2 :: a3 :: a4 :: a5 :: a6 :: L) h2 hc))
theorem v_iinc_5 (hC : Cx X E cc own nL R0) {a0 a1 a2 a3 a4 : Option Value} {x v : Int32} {n : Int} (hn : 5 < nL) (hc : catO a4 = true) (hd : decode cc pc = .ok (.iinc 5 n, 3)) (hv : x + Int32.ofInt n = v) (k : V X E (pc + 3) (a0 :: a1 :: a2 :: a3 :: a4 :: some (.int v) :: L) st σ μ) : V X E pc (a0 :: a1 :: a2 :: a3 :: a4 :: some (.int x) :: L) st σ μ := fun H locs ls hP hS hl => by
  obtain ⟨kk, hkk⟩ := List.getElem?_of_mem (lvL_mem (L := a0 :: a1 :: a2 :: a3 :: a4 :: some (.int x) :: L) (i := 0) (k := 5) rfl)
  exact lv_iinc hC.1 hC.2.1 hd hl.has (by rw [hkk, Nat.zero_add]) hv (by rw [hC.2.2.1]; exact hn) rfl (fun ls2 h2 => k H locs ls2 hP hS (lvO.store1 (L := a0 :: a1 :: a2 :: a3 :: a4 :: some (.int x) :: L) h2 hc))
theorem v_iinc1_5 (hC : Cx X E cc own nL R0) {a0 a1 a2 a3 a4 : Option Value} {j : Nat} (hn : 5 < nL) (hc : catO a4 = true) (hd : decode cc pc = .ok (.iinc 5 1, 3)) (k : V X E (pc + 3) (a0 :: a1 :: a2 :: a3 :: a4 :: some (.int (nI (j + 1))) :: L) st σ μ) : V X E pc (a0 :: a1 :: a2 :: a3 :: a4 :: some (.int (nI j)) :: L) st σ μ := v_iinc_5 hC hn hc hd (nI_1 j) k
theorem v_iload_6 (hC : Cx X E cc own nL R0) {a0 a1 a2 a3 a4 a5 : Option Value} {x : Int32} (hd : decode cc pc = .ok (.iload 6, 2)) (k : V X E (pc + 2) (a0 :: a1 :: a2 :: a3 :: a4 :: a5 :: some (.int x) :: L) (.int x :: st) σ μ) : V X E pc (a0 :: a1 :: a2 :: a3 :: a4 :: a5 :: some (.int x) :: L) st σ μ := fun H locs ls hP hS hl => lv_iload hC.1 hC.2.1 hd (hl.2.2 6 _ rfl) (k H locs ls hP hS hl)
theorem v_istore_6 (hC : Cx X E cc own nL R0) {a0 a1 a2 a3 a4 a5 a6 : Option Value} {x : Int32} (hn : 6 < nL) (hc : catO a5 = true) (hd : decode cc pc = .ok (.istore 6, 2)) (k : V X E (pc + 2) (a0 :: a1 :: a2 :: a3 :: a4 :: a5 :: some (.int x) :: L) st σ μ) : V X E pc (a0 :: a1 :: a2 :: a3 :: a4 :: a5 :: a6 :: L) (.int x :: st) σ μ := fun H locs ls hP hS hl => lv_istore hC.1 hC.2.1 hd hl.has (by rw [hC.2.2.1]; exact hn) rfl (fun ls2 h2 => k H locs ls2 hP hS (lvO.store1 (L := a0 :: a1 :: a2 :: a3 :: a4 :: a5 :: a6 :: L) h2 hc))
theorem v_aload_6 (hC : Cx X E cc own nL R0) {a0 a1 a2 a3 a4 a5 : Option Value} {x : Nat} (hd : decode cc pc = .ok (.aload 6, 2)) (k : V X E (pc + 2) (a0 :: a1 :: a2 :: a3 :: a4 :: a5 :: some (.ref x) :: L) (.ref x :: st) σ μ) : V X E pc (a0 :: a1 :: a2 :: a3 :: a4 :: a5 :: some (.ref x) :: L) st σ μ := fun H locs ls hP hS hl => lv_aload hC.1 hC.2.1 hd (hl.2.2 6 _ rfl) (k H locs ls hP hS hl)
theorem v_astore_6 (hC : Cx X E cc own nL R0) {a0 a1 a2 a3 a4 a5 a6 : Option Value} {x : Nat} (hn : 6 < nL) (hc : catO a5 = true) (hd : decode cc pc = .ok (.astore 6, 2)) (k : V X E (pc + 2) (a0 :: a1 :: a2 :: a3 :: a4 :: a5 :: some (.ref x) :: L) st σ μ) : V X E pc (a0 :: a1 :: a2 :: a3 :: a4 :: a5 :: a6 :: L) (.ref x :: st) σ μ := fun H locs ls hP hS hl => lv_astore hC.1 hC.2.1 hd hl.has (by rw [hC.2.2.1]; exact hn) rfl (fun ls2 h2 => k H locs ls2 hP hS (lvO.store1 (L := a0 :: a1 :: a2 :: a3 :: a4 :: a5 :: a6 :: L) h2 hc))
theorem v_lload_6 (hC : Cx X E cc own nL R0) {a0 a1 a2 a3 a4 a5 : Option Value} {x : Int64} (hd : decode cc pc = .ok (.lload 6, 2)) (k : V X E (pc + 2) (a0 :: a1 :: a2 :: a3 :: a4 :: a5 :: some (.long x) :: L) (.long x :: st) σ μ) : V X E pc (a0 :: a1 :: a2 :: a3 :: a4 :: a5 :: some (.long x) :: L) st σ μ := fun H locs ls hP hS hl => lv_lload hC.1 hC.2.1 hd (hl.2.2 6 _ rfl) (k H locs ls hP hS hl)
theorem v_lstore_6 (hC : Cx X E cc own nL R0) {a0 a1 a2 a3 a4 a5 a6 a7 : Option Value} {x : Int64} (hn : 7 < nL) (hc : catO a5 = true) (hd : decode cc pc = .ok (.lstore 6, 2)) (k : V X E (pc + 2) (a0 :: a1 :: a2 :: a3 :: a4 :: a5 :: some (.long x) :: none :: L) st σ μ) : V X E pc (a0 :: a1 :: a2 :: a3 :: a4 :: a5 :: a6 :: a7 :: L) (.long x :: st) σ μ := fun H locs ls hP hS hl => lv_lstore hC.1 hC.2.1 hd hl.has (by rw [hC.2.2.1]; exact hn) rfl (fun ls2 h2 => k H locs ls2 hP hS (lvO.store2 (L := a0 :: a1 :: a2 :: a3 :: a4 :: a5 :: a6 :: a7 :: L) h2 hc))
theorem v_iinc_6 (hC : Cx X E cc own nL R0) {a0 a1 a2 a3 a4 a5 : Option Value} {x v : Int32} {n : Int} (hn : 6 < nL) (hc : catO a5 = true) (hd : decode cc pc = .ok (.iinc 6 n, 3)) (hv : x + Int32.ofInt n = v) (k : V X E (pc + 3) (a0 :: a1 :: a2 :: a3 :: a4 :: a5 :: some (.int v) :: L) st σ μ) : V X E pc (a0 :: a1 :: a2 :: a3 :: a4 :: a5 :: some (.int x) :: L) st σ μ := fun H locs ls hP hS hl => by
  obtain ⟨kk, hkk⟩ := List.getElem?_of_mem (lvL_mem (L := a0 :: a1 :: a2 :: a3 :: a4 :: a5 :: some (.int x) :: L) (i := 0) (k := 6) rfl)
  exact lv_iinc hC.1 hC.2.1 hd hl.has (by rw [hkk, Nat.zero_add]) hv (by rw [hC.2.2.1]; exact hn) rfl (fun ls2 h2 => k H locs ls2 hP hS (lvO.store1 (L := a0 :: a1 :: a2 :: a3 :: a4 :: a5 :: some (.int x) :: L) h2 hc))
theorem v_iinc1_6 (hC : Cx X E cc own nL R0) {a0 a1 a2 a3 a4 a5 : Option Value} {j : Nat} (hn : 6 < nL) (hc : catO a5 = true) (hd : decode cc pc = .ok (.iinc 6 1, 3)) (k : V X E (pc + 3) (a0 :: a1 :: a2 :: a3 :: a4 :: a5 :: some (.int (nI (j + 1))) :: L) st σ μ) : V X E pc (a0 :: a1 :: a2 :: a3 :: a4 :: a5 :: some (.int (nI j)) :: L) st σ μ := v_iinc_6 hC hn hc hd (nI_1 j) k
theorem v_iload_7 (hC : Cx X E cc own nL R0) {a0 a1 a2 a3 a4 a5 a6 : Option Value} {x : Int32} (hd : decode cc pc = .ok (.iload 7, 2)) (k : V X E (pc + 2) (a0 :: a1 :: a2 :: a3 :: a4 :: a5 :: a6 :: some (.int x) :: L) (.int x :: st) σ μ) : V X E pc (a0 :: a1 :: a2 :: a3 :: a4 :: a5 :: a6 :: some (.int x) :: L) st σ μ := fun H locs ls hP hS hl => lv_iload hC.1 hC.2.1 hd (hl.2.2 7 _ rfl) (k H locs ls hP hS hl)
theorem v_istore_7 (hC : Cx X E cc own nL R0) {a0 a1 a2 a3 a4 a5 a6 a7 : Option Value} {x : Int32} (hn : 7 < nL) (hc : catO a6 = true) (hd : decode cc pc = .ok (.istore 7, 2)) (k : V X E (pc + 2) (a0 :: a1 :: a2 :: a3 :: a4 :: a5 :: a6 :: some (.int x) :: L) st σ μ) : V X E pc (a0 :: a1 :: a2 :: a3 :: a4 :: a5 :: a6 :: a7 :: L) (.int x :: st) σ μ := fun H locs ls hP hS hl => lv_istore hC.1 hC.2.1 hd hl.has (by rw [hC.2.2.1]; exact hn) rfl (fun ls2 h2 => k H locs ls2 hP hS (lvO.store1 (L := a0 :: a1 :: a2 :: a3 :: a4 :: a5 :: a6 :: a7 :: L) h2 hc))
theorem v_aload_7 (hC : Cx X E cc own nL R0) {a0 a1 a2 a3 a4 a5 a6 : Option Value} {x : Nat} (hd : decode cc pc = .ok (.aload 7, 2)) (k : V X E (pc + 2) (a0 :: a1 :: a2 :: a3 :: a4 :: a5 :: a6 :: some (.ref x) :: L) (.ref x :: st) σ μ) : V X E pc (a0 :: a1 :: a2 :: a3 :: a4 :: a5 :: a6 :: some (.ref x) :: L) st σ μ := fun H locs ls hP hS hl => lv_aload hC.1 hC.2.1 hd (hl.2.2 7 _ rfl) (k H locs ls hP hS hl)
theorem v_astore_7 (hC : Cx X E cc own nL R0) {a0 a1 a2 a3 a4 a5 a6 a7 : Option Value} {x : Nat} (hn : 7 < nL) (hc : catO a6 = true) (hd : decode cc pc = .ok (.astore 7, 2)) (k : V X E (pc + 2) (a0 :: a1 :: a2 :: a3 :: a4 :: a5 :: a6 :: some (.ref x) :: L) st σ μ) : V X E pc (a0 :: a1 :: a2 :: a3 :: a4 :: a5 :: a6 :: a7 :: L) (.ref x :: st) σ μ := fun H locs ls hP hS hl => lv_astore hC.1 hC.2.1 hd hl.has (by rw [hC.2.2.1]; exact hn) rfl (fun ls2 h2 => k H locs ls2 hP hS (lvO.store1 (L := a0 :: a1 :: a2 :: a3 :: a4 :: a5 :: a6 :: a7 :: L) h2 hc))
theorem v_lload_7 (hC : Cx X E cc own nL R0) {a0 a1 a2 a3 a4 a5 a6 : Option Value} {x : Int64} (hd : decode cc pc = .ok (.lload 7, 2)) (k : V X E (pc + 2) (a0 :: a1 :: a2 :: a3 :: a4 :: a5 :: a6 :: some (.long x) :: L) (.long x :: st) σ μ) : V X E pc (a0 :: a1 :: a2 :: a3 :: a4 :: a5 :: a6 :: some (.long x) :: L) st σ μ := fun H locs ls hP hS hl => lv_lload hC.1 hC.2.1 hd (hl.2.2 7 _ rfl) (k H locs ls hP hS hl)
theorem v_lstore_7 (hC : Cx X E cc own nL R0) {a0 a1 a2 a3 a4 a5 a6 a7 a8 : Option Value} {x : Int64} (hn : 8 < nL) (hc : catO a6 = true) (hd : decode cc pc = .ok (.lstore 7, 2)) (k : V X E (pc + 2) (a0 :: a1 :: a2 :: a3 :: a4 :: a5 :: a6 :: some (.long x) :: none :: L) st σ μ) : V X E pc (a0 :: a1 :: a2 :: a3 :: a4 :: a5 :: a6 :: a7 :: a8 :: L) (.long x :: st) σ μ := fun H locs ls hP hS hl => lv_lstore hC.1 hC.2.1 hd hl.has (by rw [hC.2.2.1]; exact hn) rfl (fun ls2 h2 => k H locs ls2 hP hS (lvO.store2 (L := a0 :: a1 :: a2 :: a3 :: a4 :: a5 :: a6 :: a7 :: a8 :: L) h2 hc))
theorem v_iinc_7 (hC : Cx X E cc own nL R0) {a0 a1 a2 a3 a4 a5 a6 : Option Value} {x v : Int32} {n : Int} (hn : 7 < nL) (hc : catO a6 = true) (hd : decode cc pc = .ok (.iinc 7 n, 3)) (hv : x + Int32.ofInt n = v) (k : V X E (pc + 3) (a0 :: a1 :: a2 :: a3 :: a4 :: a5 :: a6 :: some (.int v) :: L) st σ μ) : V X E pc (a0 :: a1 :: a2 :: a3 :: a4 :: a5 :: a6 :: some (.int x) :: L) st σ μ := fun H locs ls hP hS hl => by
  obtain ⟨kk, hkk⟩ := List.getElem?_of_mem (lvL_mem (L := a0 :: a1 :: a2 :: a3 :: a4 :: a5 :: a6 :: some (.int x) :: L) (i := 0) (k := 7) rfl)
  exact lv_iinc hC.1 hC.2.1 hd hl.has (by rw [hkk, Nat.zero_add]) hv (by rw [hC.2.2.1]; exact hn) rfl (fun ls2 h2 => k H locs ls2 hP hS (lvO.store1 (L := a0 :: a1 :: a2 :: a3 :: a4 :: a5 :: a6 :: some (.int x) :: L) h2 hc))
theorem v_iinc1_7 (hC : Cx X E cc own nL R0) {a0 a1 a2 a3 a4 a5 a6 : Option Value} {j : Nat} (hn : 7 < nL) (hc : catO a6 = true) (hd : decode cc pc = .ok (.iinc 7 1, 3)) (k : V X E (pc + 3) (a0 :: a1 :: a2 :: a3 :: a4 :: a5 :: a6 :: some (.int (nI (j + 1))) :: L) st σ μ) : V X E pc (a0 :: a1 :: a2 :: a3 :: a4 :: a5 :: a6 :: some (.int (nI j)) :: L) st σ μ := v_iinc_7 hC hn hc hd (nI_1 j) k
theorem v_iload_8 (hC : Cx X E cc own nL R0) {a0 a1 a2 a3 a4 a5 a6 a7 : Option Value} {x : Int32} (hd : decode cc pc = .ok (.iload 8, 2)) (k : V X E (pc + 2) (a0 :: a1 :: a2 :: a3 :: a4 :: a5 :: a6 :: a7 :: some (.int x) :: L) (.int x :: st) σ μ) : V X E pc (a0 :: a1 :: a2 :: a3 :: a4 :: a5 :: a6 :: a7 :: some (.int x) :: L) st σ μ := fun H locs ls hP hS hl => lv_iload hC.1 hC.2.1 hd (hl.2.2 8 _ rfl) (k H locs ls hP hS hl)
theorem v_istore_8 (hC : Cx X E cc own nL R0) {a0 a1 a2 a3 a4 a5 a6 a7 a8 : Option Value} {x : Int32} (hn : 8 < nL) (hc : catO a7 = true) (hd : decode cc pc = .ok (.istore 8, 2)) (k : V X E (pc + 2) (a0 :: a1 :: a2 :: a3 :: a4 :: a5 :: a6 :: a7 :: some (.int x) :: L) st σ μ) : V X E pc (a0 :: a1 :: a2 :: a3 :: a4 :: a5 :: a6 :: a7 :: a8 :: L) (.int x :: st) σ μ := fun H locs ls hP hS hl => lv_istore hC.1 hC.2.1 hd hl.has (by rw [hC.2.2.1]; exact hn) rfl (fun ls2 h2 => k H locs ls2 hP hS (lvO.store1 (L := a0 :: a1 :: a2 :: a3 :: a4 :: a5 :: a6 :: a7 :: a8 :: L) h2 hc))
theorem v_aload_8 (hC : Cx X E cc own nL R0) {a0 a1 a2 a3 a4 a5 a6 a7 : Option Value} {x : Nat} (hd : decode cc pc = .ok (.aload 8, 2)) (k : V X E (pc + 2) (a0 :: a1 :: a2 :: a3 :: a4 :: a5 :: a6 :: a7 :: some (.ref x) :: L) (.ref x :: st) σ μ) : V X E pc (a0 :: a1 :: a2 :: a3 :: a4 :: a5 :: a6 :: a7 :: some (.ref x) :: L) st σ μ := fun H locs ls hP hS hl => lv_aload hC.1 hC.2.1 hd (hl.2.2 8 _ rfl) (k H locs ls hP hS hl)
theorem v_astore_8 (hC : Cx X E cc own nL R0) {a0 a1 a2 a3 a4 a5 a6 a7 a8 : Option Value} {x : Nat} (hn : 8 < nL) (hc : catO a7 = true) (hd : decode cc pc = .ok (.astore 8, 2)) (k : V X E (pc + 2) (a0 :: a1 :: a2 :: a3 :: a4 :: a5 :: a6 :: a7 :: some (.ref x) :: L) st σ μ) : V X E pc (a0 :: a1 :: a2 :: a3 :: a4 :: a5 :: a6 :: a7 :: a8 :: L) (.ref x :: st) σ μ := fun H locs ls hP hS hl => lv_astore hC.1 hC.2.1 hd hl.has (by rw [hC.2.2.1]; exact hn) rfl (fun ls2 h2 => k H locs ls2 hP hS (lvO.store1 (L := a0 :: a1 :: a2 :: a3 :: a4 :: a5 :: a6 :: a7 :: a8 :: L) h2 hc))
theorem v_lload_8 (hC : Cx X E cc own nL R0) {a0 a1 a2 a3 a4 a5 a6 a7 : Option Value} {x : Int64} (hd : decode cc pc = .ok (.lload 8, 2)) (k : V X E (pc + 2) (a0 :: a1 :: a2 :: a3 :: a4 :: a5 :: a6 :: a7 :: some (.long x) :: L) (.long x :: st) σ μ) : V X E pc (a0 :: a1 :: a2 :: a3 :: a4 :: a5 :: a6 :: a7 :: some (.long x) :: L) st σ μ := fun H locs ls hP hS hl => lv_lload hC.1 hC.2.1 hd (hl.2.2 8 _ rfl) (k H locs ls hP hS hl)
theorem v_lstore_8 (hC : Cx X E cc own nL R0) {a0 a1 a2 a3 a4 a5 a6 a7 a8 a9 : Option Value} {x : Int64} (hn : 9 < nL) (hc : catO a7 = true) (hd : decode cc pc = .ok (.lstore 8, 2)) (k : V X E (pc + 2) (a0 :: a1 :: a2 :: a3 :: a4 :: a5 :: a6 :: a7 :: some (.long x) :: none :: L) st σ μ) : V X E pc (a0 :: a1 :: a2 :: a3 :: a4 :: a5 :: a6 :: a7 :: a8 :: a9 :: L) (.long x :: st) σ μ := fun H locs ls hP hS hl => lv_lstore hC.1 hC.2.1 hd hl.has (by rw [hC.2.2.1]; exact hn) rfl (fun ls2 h2 => k H locs ls2 hP hS (lvO.store2 (L := a0 :: a1 :: a2 :: a3 :: a4 :: a5 :: a6 :: a7 :: a8 :: a9 :: L) h2 hc))
theorem v_iinc_8 (hC : Cx X E cc own nL R0) {a0 a1 a2 a3 a4 a5 a6 a7 : Option Value} {x v : Int32} {n : Int} (hn : 8 < nL) (hc : catO a7 = true) (hd : decode cc pc = .ok (.iinc 8 n, 3)) (hv : x + Int32.ofInt n = v) (k : V X E (pc + 3) (a0 :: a1 :: a2 :: a3 :: a4 :: a5 :: a6 :: a7 :: some (.int v) :: L) st σ μ) : V X E pc (a0 :: a1 :: a2 :: a3 :: a4 :: a5 :: a6 :: a7 :: some (.int x) :: L) st σ μ := fun H locs ls hP hS hl => by
  obtain ⟨kk, hkk⟩ := List.getElem?_of_mem (lvL_mem (L := a0 :: a1 :: a2 :: a3 :: a4 :: a5 :: a6 :: a7 :: some (.int x) :: L) (i := 0) (k := 8) rfl)
  exact lv_iinc hC.1 hC.2.1 hd hl.has (by rw [hkk, Nat.zero_add]) hv (by rw [hC.2.2.1]; exact hn) rfl (fun ls2 h2 => k H locs ls2 hP hS (lvO.store1 (L := a0 :: a1 :: a2 :: a3 :: a4 :: a5 :: a6 :: a7 :: some (.int x) :: L) h2 hc))
theorem v_iinc1_8 (hC : Cx X E cc own nL R0) {a0 a1 a2 a3 a4 a5 a6 a7 : Option Value} {j : Nat} (hn : 8 < nL) (hc : catO a7 = true) (hd : decode cc pc = .ok (.iinc 8 1, 3)) (k : V X E (pc + 3) (a0 :: a1 :: a2 :: a3 :: a4 :: a5 :: a6 :: a7 :: some (.int (nI (j + 1))) :: L) st σ μ) : V X E pc (a0 :: a1 :: a2 :: a3 :: a4 :: a5 :: a6 :: a7 :: some (.int (nI j)) :: L) st σ μ := v_iinc_8 hC hn hc hd (nI_1 j) k
theorem v_iload_9 (hC : Cx X E cc own nL R0) {a0 a1 a2 a3 a4 a5 a6 a7 a8 : Option Value} {x : Int32} (hd : decode cc pc = .ok (.iload 9, 2)) (k : V X E (pc + 2) (a0 :: a1 :: a2 :: a3 :: a4 :: a5 :: a6 :: a7 :: a8 :: some (.int x) :: L) (.int x :: st) σ μ) : V X E pc (a0 :: a1 :: a2 :: a3 :: a4 :: a5 :: a6 :: a7 :: a8 :: some (.int x) :: L) st σ μ := fun H locs ls hP hS hl => lv_iload hC.1 hC.2.1 hd (hl.2.2 9 _ rfl) (k H locs ls hP hS hl)
theorem v_istore_9 (hC : Cx X E cc own nL R0) {a0 a1 a2 a3 a4 a5 a6 a7 a8 a9 : Option Value} {x : Int32} (hn : 9 < nL) (hc : catO a8 = true) (hd : decode cc pc = .ok (.istore 9, 2)) (k : V X E (pc + 2) (a0 :: a1 :: a2 :: a3 :: a4 :: a5 :: a6 :: a7 :: a8 :: some (.int x) :: L) st σ μ) : V X E pc (a0 :: a1 :: a2 :: a3 :: a4 :: a5 :: a6 :: a7 :: a8 :: a9 :: L) (.int x :: st) σ μ := fun H locs ls hP hS hl => lv_istore hC.1 hC.2.1 hd hl.has (by rw [hC.2.2.1]; exact hn) rfl (fun ls2 h2 => k H locs ls2 hP hS (lvO.store1 (L := a0 :: a1 :: a2 :: a3 :: a4 :: a5 :: a6 :: a7 :: a8 :: a9 :: L) h2 hc))
theorem v_aload_9 (hC : Cx X E cc own nL R0) {a0 a1 a2 a3 a4 a5 a6 a7 a8 : Option Value} {x : Nat} (hd : decode cc pc = .ok (.aload 9, 2)) (k : V X E (pc + 2) (a0 :: a1 :: a2 :: a3 :: a4 :: a5 :: a6 :: a7 :: a8 :: some (.ref x) :: L) (.ref x :: st) σ μ) : V X E pc (a0 :: a1 :: a2 :: a3 :: a4 :: a5 :: a6 :: a7 :: a8 :: some (.ref x) :: L) st σ μ := fun H locs ls hP hS hl => lv_aload hC.1 hC.2.1 hd (hl.2.2 9 _ rfl) (k H locs ls hP hS hl)
theorem v_astore_9 (hC : Cx X E cc own nL R0) {a0 a1 a2 a3 a4 a5 a6 a7 a8 a9 : Option Value} {x : Nat} (hn : 9 < nL) (hc : catO a8 = true) (hd : decode cc pc = .ok (.astore 9, 2)) (k : V X E (pc + 2) (a0 :: a1 :: a2 :: a3 :: a4 :: a5 :: a6 :: a7 :: a8 :: some (.ref x) :: L) st σ μ) : V X E pc (a0 :: a1 :: a2 :: a3 :: a4 :: a5 :: a6 :: a7 :: a8 :: a9 :: L) (.ref x :: st) σ μ := fun H locs ls hP hS hl => lv_astore hC.1 hC.2.1 hd hl.has (by rw [hC.2.2.1]; exact hn) rfl (fun ls2 h2 => k H locs ls2 hP hS (lvO.store1 (L := a0 :: a1 :: a2 :: a3 :: a4 :: a5 :: a6 :: a7 :: a8 :: a9 :: L) h2 hc))
theorem v_lload_9 (hC : Cx X E cc own nL R0) {a0 a1 a2 a3 a4 a5 a6 a7 a8 : Option Value} {x : Int64} (hd : decode cc pc = .ok (.lload 9, 2)) (k : V X E (pc + 2) (a0 :: a1 :: a2 :: a3 :: a4 :: a5 :: a6 :: a7 :: a8 :: some (.long x) :: L) (.long x :: st) σ μ) : V X E pc (a0 :: a1 :: a2 :: a3 :: a4 :: a5 :: a6 :: a7 :: a8 :: some (.long x) :: L) st σ μ := fun H locs ls hP hS hl => lv_lload hC.1 hC.2.1 hd (hl.2.2 9 _ rfl) (k H locs ls hP hS hl)
theorem v_lstore_9 (hC : Cx X E cc own nL R0) {a0 a1 a2 a3 a4 a5 a6 a7 a8 a9 a10 : Option Value} {x : Int64} (hn : 10 < nL) (hc : catO a8 = true) (hd : decode cc pc = .ok (.lstore 9, 2)) (k : V X E (pc + 2) (a0 :: a1 :: a2 :: a3 :: a4 :: a5 :: a6 :: a7 :: a8 :: some (.long x) :: none :: L) st σ μ) : V X E pc (a0 :: a1 :: a2 :: a3 :: a4 :: a5 :: a6 :: a7 :: a8 :: a9 :: a10 :: L) (.long x :: st) σ μ := fun H locs ls hP hS hl => lv_lstore hC.1 hC.2.1 hd hl.has (by rw [hC.2.2.1]; exact hn) rfl (fun ls2 h2 => k H locs ls2 hP hS (lvO.store2 (L := a0 :: a1 :: a2 :: a3 :: a4 :: a5 :: a6 :: a7 :: a8 :: a9 :: a10 :: L) h2 hc))
theorem v_iinc_9 (hC : Cx X E cc own nL R0) {a0 a1 a2 a3 a4 a5 a6 a7 a8 : Option Value} {x v : Int32} {n : Int} (hn : 9 < nL) (hc : catO a8 = true) (hd : decode cc pc = .ok (.iinc 9 n, 3)) (hv : x + Int32.ofInt n = v) (k : V X E (pc + 3) (a0 :: a1 :: a2 :: a3 :: a4 :: a5 :: a6 :: a7 :: a8 :: some (.int v) :: L) st σ μ) : V X E pc (a0 :: a1 :: a2 :: a3 :: a4 :: a5 :: a6 :: a7 :: a8 :: some (.int x) :: L) st σ μ := fun H locs ls hP hS hl => by
  obtain ⟨kk, hkk⟩ := List.getElem?_of_mem (lvL_mem (L := a0 :: a1 :: a2 :: a3 :: a4 :: a5 :: a6 :: a7 :: a8 :: some (.int x) :: L) (i := 0) (k := 9) rfl)
  exact lv_iinc hC.1 hC.2.1 hd hl.has (by rw [hkk, Nat.zero_add]) hv (by rw [hC.2.2.1]; exact hn) rfl (fun ls2 h2 => k H locs ls2 hP hS (lvO.store1 (L := a0 :: a1 :: a2 :: a3 :: a4 :: a5 :: a6 :: a7 :: a8 :: some (.int x) :: L) h2 hc))
theorem v_iinc1_9 (hC : Cx X E cc own nL R0) {a0 a1 a2 a3 a4 a5 a6 a7 a8 : Option Value} {j : Nat} (hn : 9 < nL) (hc : catO a8 = true) (hd : decode cc pc = .ok (.iinc 9 1, 3)) (k : V X E (pc + 3) (a0 :: a1 :: a2 :: a3 :: a4 :: a5 :: a6 :: a7 :: a8 :: some (.int (nI (j + 1))) :: L) st σ μ) : V X E pc (a0 :: a1 :: a2 :: a3 :: a4 :: a5 :: a6 :: a7 :: a8 :: some (.int (nI j)) :: L) st σ μ := v_iinc_9 hC hn hc hd (nI_1 j) k
theorem v_iload_10 (hC : Cx X E cc own nL R0) {a0 a1 a2 a3 a4 a5 a6 a7 a8 a9 : Option Value} {x : Int32} (hd : decode cc pc = .ok (.iload 10, 2)) (k : V X E (pc + 2) (a0 :: a1 :: a2 :: a3 :: a4 :: a5 :: a6 :: a7 :: a8 :: a9 :: some (.int x) :: L) (.int x :: st) σ μ) : V X E pc (a0 :: a1 :: a2 :: a3 :: a4 :: a5 :: a6 :: a7 :: a8 :: a9 :: some (.int x) :: L) st σ μ := fun H locs ls hP hS hl => lv_iload hC.1 hC.2.1 hd (hl.2.2 10 _ rfl) (k H locs ls hP hS hl)
theorem v_istore_10 (hC : Cx X E cc own nL R0) {a0 a1 a2 a3 a4 a5 a6 a7 a8 a9 a10 : Option Value} {x : Int32} (hn : 10 < nL) (hc : catO a9 = true) (hd : decode cc pc = .ok (.istore 10, 2)) (k : V X E (pc + 2) (a0 :: a1 :: a2 :: a3 :: a4 :: a5 :: a6 :: a7 :: a8 :: a9 :: some (.int x) :: L) st σ μ) : V X E pc (a0 :: a1 :: a2 :: a3 :: a4 :: a5 :: a6 :: a7 :: a8 :: a9 :: a10 :: L) (.int x :: st) σ μ := fun H locs ls hP hS hl => lv_istore hC.1 hC.2.1 hd hl.has (by rw [hC.2.2.1]; exact hn) rfl (fun ls2 h2 => k H locs ls2 hP hS (lvO.store1 (L := a0 :: a1 :: a2 :: a3 :: a4 :: a5 :: a6 :: a7 :: a8 :: a9 :: a10 :: L) h2 hc))
theorem v_aload_10 (hC : Cx X E cc own nL R0) {a0 a1 a2 a3 a4 a5 a6 a7 a8 a9 : Option Value} {x : Nat} (hd : decode cc pc = .ok (.aload 10, 2)) (k : V X E (pc + 2) (a0 :: a1 :: a2 :: a3 :: a4 :: a5 :: a6 :: a7 :: a8 :: a9 :: some (.ref x) :: L) (.ref x :: st) σ μ) : V X E pc (a0 :: a1 :: a2 :: a3 :: a4 :: a5 :: a6 :: a7 :: a8 :: a9 :: some (.ref x) :: L) st σ μ := fun H locs ls hP hS hl => lv_aload hC.1 hC.2.1 hd (hl.2.2 10 _ rfl) (k H locs ls hP hS hl)
theorem v_astore_10 (hC : Cx X E cc own nL R0) {a0 a1 a2 a3 a4 a5 a6 a7 a8 a9 a10 : Option Value} {x : Nat} (hn : 10 < nL) (hc : catO a9 = true) (hd : decode cc pc = .ok (.astore 10, 2)) (k : V X E (pc + 2) (a0 :: a1 :: a2 :: a3 :: a4 :: a5 :: a6 :: a7 :: a8 :: a9 :: some (.ref x) :: L) st σ μ) : V X E pc (a0 :: a1 :: a2 :: a3 :: a4 :: a5 :: a6 :: a7 :: a8 :: a9 :: a10 :: L) (.ref x :: st) σ μ := fun H locs ls hP hS hl => lv_astore hC.1 hC.2.1 hd hl.has (by rw [hC.2.2.1]; exact hn) rfl (fun ls2 h2 => k H locs ls2 hP hS (lvO.store1 (L := a0 :: a1 :: a2 :: a3 :: a4 :: a5 :: a6 :: a7 :: a8 :: a9 :: a10 :: L) h2 hc))
theorem v_lload_10 (hC : Cx X E cc own nL R0) {a0 a1 a2 a3 a4 a5 a6 a7 a8 a9 : Option Value} {x : Int64} (hd : decode cc pc = .ok (.lload 10, 2)) (k : V X E (pc + 2) (a0 :: a1 :: a2 :: a3 :: a4 :: a5 :: a6 :: a7 :: a8 :: a9 :: some (.long x) :: L) (.long x :: st) σ μ) : V X E pc (a0 :: a1 :: a2 :: a3 :: a4 :: a5 :: a6 :: a7 :: a8 :: a9 :: some (.long x) :: L) st σ μ := fun H locs ls hP hS hl => lv_lload hC.1 hC.2.1 hd (hl.2.2 10 _ rfl) (k H locs ls hP hS hl)
theorem v_lstore_10 (hC : Cx X E cc own nL R0) {a0 a1 a2 a3 a4 a5 a6 a7 a8 a9 a10 a11 : Option Value} {x : Int64} (hn : 11 < nL) (hc : catO a9 = true) (hd : decode cc pc = .ok (.lstore 10, 2)) (k : V X E (pc + 2) (a0 :: a1 :: a2 :: a3 :: a4 :: a5 :: a6 :: a7 :: a8 :: a9 :: some (.long x) :: none :: L) st σ μ) : V X E pc (a0 :: a1 :: a2 :: a3 :: a4 :: a5 :: a6 :: a7 :: a8 :: a9 :: a10 :: a11 :: L) (.long x :: st) σ μ := fun H locs ls hP hS hl => lv_lstore hC.1 hC.2.1 hd hl.has (by rw [hC.2.2.1]; exact hn) rfl (fun ls2 h2 => k H locs ls2 hP hS (lvO.store2 (L := a0 :: a1 :: a2 :: a3 :: a4 :: a5 :: a6 :: a7 :: a8 :: a9 :: a10 :: a11 :: L) h2 hc))
theorem v_iinc_10 (hC : Cx X E cc own nL R0) {a0 a1 a2 a3 a4 a5 a6 a7 a8 a9 : Option Value} {x v : Int32} {n : Int} (hn : 10 < nL) (hc : catO a9 = true) (hd : decode cc pc = .ok (.iinc 10 n, 3)) (hv : x + Int32.ofInt n = v) (k : V X E (pc + 3) (a0 :: a1 :: a2 :: a3 :: a4 :: a5 :: a6 :: a7 :: a8 :: a9 :: some (.int v) :: L) st σ μ) : V X E pc (a0 :: a1 :: a2 :: a3 :: a4 :: a5 :: a6 :: a7 :: a8 :: a9 :: some (.int x) :: L) st σ μ := fun H locs ls hP hS hl => by
  obtain ⟨kk, hkk⟩ := List.getElem?_of_mem (lvL_mem (L := a0 :: a1 :: a2 :: a3 :: a4 :: a5 :: a6 :: a7 :: a8 :: a9 :: some (.int x) :: L) (i := 0) (k := 10) rfl)
  exact lv_iinc hC.1 hC.2.1 hd hl.has (by rw [hkk, Nat.zero_add]) hv (by rw [hC.2.2.1]; exact hn) rfl (fun ls2 h2 => k H locs ls2 hP hS (lvO.store1 (L := a0 :: a1 :: a2 :: a3 :: a4 :: a5 :: a6 :: a7 :: a8 :: a9 :: some (.int x) :: L) h2 hc))
theorem v_iinc1_10 (hC : Cx X E cc own nL R0) {a0 a1 a2 a3 a4 a5 a6 a7 a8 a9 : Option Value} {j : Nat} (hn : 10 < nL) (hc : catO a9 = true) (hd : decode cc pc = .ok (.iinc 10 1, 3)) (k : V X E (pc + 3) (a0 :: a1 :: a2 :: a3 :: a4 :: a5 :: a6 :: a7 :: a8 :: a9 :: some (.int (nI (j + 1))) :: L) st σ μ) : V X E pc (a0 :: a1 :: a2 :: a3 :: a4 :: a5 :: a6 :: a7 :: a8 :: a9 :: some (.int (nI j)) :: L) st σ μ := v_iinc_10 hC hn hc hd (nI_1 j) k
theorem v_iload_11 (hC : Cx X E cc own nL R0) {a0 a1 a2 a3 a4 a5 a6 a7 a8 a9 a10 : Option Value} {x : Int32} (hd : decode cc pc = .ok (.iload 11, 2)) (k : V X E (pc + 2) (a0 :: a1 :: a2 :: a3 :: a4 :: a5 :: a6 :: a7 :: a8 :: a9 :: a10 :: some (.int x) :: L) (.int x :: st) σ μ) : V X E pc (a0 :: a1 :: a2 :: a3 :: a4 :: a5 :: a6 :: a7 :: a8 :: a9 :: a10 :: some (.int x) :: L) st σ μ := fun H locs ls hP hS hl => lv_iload hC.1 hC.2.1 hd (hl.2.2 11 _ rfl) (k H locs ls hP hS hl)
theorem v_istore_11 (hC : Cx X E cc own nL R0) {a0 a1 a2 a3 a4 a5 a6 a7 a8 a9 a10 a11 : Option Value} {x : Int32} (hn : 11 < nL) (hc : catO a10 = true) (hd : decode cc pc = .ok (.istore 11, 2)) (k : V X E (pc + 2) (a0 :: a1 :: a2 :: a3 :: a4 :: a5 :: a6 :: a7 :: a8 :: a9 :: a10 :: some (.int x) :: L) st σ μ) : V X E pc (a0 :: a1 :: a2 :: a3 :: a4 :: a5 :: a6 :: a7 :: a8 :: a9 :: a10 :: a11 :: L) (.int x :: st) σ μ := fun H locs ls hP hS hl => lv_istore hC.1 hC.2.1 hd hl.has (by rw [hC.2.2.1]; exact hn) rfl (fun ls2 h2 => k H locs ls2 hP hS (lvO.store1 (L := a0 :: a1 :: a2 :: a3 :: a4 :: a5 :: a6 :: a7 :: a8 :: a9 :: a10 :: a11 :: L) h2 hc))
theorem v_aload_11 (hC : Cx X E cc own nL R0) {a0 a1 a2 a3 a4 a5 a6 a7 a8 a9 a10 : Option Value} {x : Nat} (hd : decode cc pc = .ok (.aload 11, 2)) (k : V X E (pc + 2) (a0 :: a1 :: a2 :: a3 :: a4 :: a5 :: a6 :: a7 :: a8 :: a9 :: a10 :: some (.ref x) :: L) (.ref x :: st) σ μ) : V X E pc (a0 :: a1 :: a2 :: a3 :: a4 :: a5 :: a6 :: a7 :: a8 :: a9 :: a10 :: some (.ref x) :: L) st σ μ := fun H locs ls hP hS hl => lv_aload hC.1 hC.2.1 hd (hl.2.2 11 _ rfl) (k H locs ls hP hS hl)
theorem v_astore_11 (hC : Cx X E cc own nL R0) {a0 a1 a2 a3 a4 a5 a6 a7 a8 a9 a10 a11 : Option Value} {x : Nat} (hn : 11 < nL) (hc : catO a10 = true) (hd : decode cc pc = .ok (.astore 11, 2)) (k : V X E (pc + 2) (a0 :: a1 :: a2 :: a3 :: a4 :: a5 :: a6 :: a7 :: a8 :: a9 :: a10 :: some (.ref x) :: L) st σ μ) : V X E pc (a0 :: a1 :: a2 :: a3 :: a4 :: a5 :: a6 :: a7 :: a8 :: a9 :: a10 :: a11 :: L) (.ref x :: st) σ μ := fun H locs ls hP hS hl => lv_astore hC.1 hC.2.1 hd hl.has (by rw [hC.2.2.1]; exact hn) rfl (fun ls2 h2 => k H locs ls2 hP hS (lvO.store1 (L := a0 :: a1 :: a2 :: a3 :: a4 :: a5 :: a6 :: a7 :: a8 :: a9 :: a10 :: a11 :: L) h2 hc))
theorem v_lload_11 (hC : Cx X E cc own nL R0) {a0 a1 a2 a3 a4 a5 a6 a7 a8 a9 a10 : Option Value} {x : Int64} (hd : decode cc pc = .ok (.lload 11, 2)) (k : V X E (pc + 2) (a0 :: a1 :: a2 :: a3 :: a4 :: a5 :: a6 :: a7 :: a8 :: a9 :: a10 :: some (.long x) :: L) (.long x :: st) σ μ) : V X E pc (a0 :: a1 :: a2 :: a3 :: a4 :: a5 :: a6 :: a7 :: a8 :: a9 :: a10 :: some (.long x) :: L) st σ μ := fun H locs ls hP hS hl => lv_lload hC.1 hC.2.1 hd (hl.2.2 11 _ rfl) (k H locs ls hP hS hl)
theorem v_lstore_11 (hC : Cx X E cc own nL R0) {a0 a1 a2 a3 a4 a5 a6 a7 a8 a9 a10 a11 a12 : Option Value} {x : Int64} (hn : 12 < nL) (hc : catO a10 = true) (hd : decode cc pc = .ok (.lstore 11, 2)) (k : V X E (pc + 2) (a0 :: a1 :: a2 :: a3 :: a4 :: a5 :: a6 :: a7 :: a8 :: a9 :: a10 :: some (.long x) :: none :: L) st σ μ) : V X E pc (a0 :: a1 :: a2 :: a3 :: a4 :: a5 :: a6 :: a7 :: a8 :: a9 :: a10 :: a11 :: a12 :: L) (.long x :: st) σ μ := fun H locs ls hP hS hl => lv_lstore hC.1 hC.2.1 hd hl.has (by rw [hC.2.2.1]; exact hn) rfl (fun ls2 h2 => k H locs ls2 hP hS (lvO.store2 (L := a0 :: a1 :: a2 :: a3 :: a4 :: a5 :: a6 :: a7 :: a8 :: a9 :: a10 :: a11 :: a12 :: L) h2 hc))
theorem v_iinc_11 (hC : Cx X E cc own nL R0) {a0 a1 a2 a3 a4 a5 a6 a7 a8 a9 a10 : Option Value} {x v : Int32} {n : Int} (hn : 11 < nL) (hc : catO a10 = true) (hd : decode cc pc = .ok (.iinc 11 n, 3)) (hv : x + Int32.ofInt n = v) (k : V X E (pc + 3) (a0 :: a1 :: a2 :: a3 :: a4 :: a5 :: a6 :: a7 :: a8 :: a9 :: a10 :: some (.int v) :: L) st σ μ) : V X E pc (a0 :: a1 :: a2 :: a3 :: a4 :: a5 :: a6 :: a7 :: a8 :: a9 :: a10 :: some (.int x) :: L) st σ μ := fun H locs ls hP hS hl => by
  obtain ⟨kk, hkk⟩ := List.getElem?_of_mem (lvL_mem (L := a0 :: a1 :: a2 :: a3 :: a4 :: a5 :: a6 :: a7 :: a8 :: a9 :: a10 :: some (.int x) :: L) (i := 0) (k := 11) rfl)
  exact lv_iinc hC.1 hC.2.1 hd hl.has (by rw [hkk, Nat.zero_add]) hv (by rw [hC.2.2.1]; exact hn) rfl (fun ls2 h2 => k H locs ls2 hP hS (lvO.store1 (L := a0 :: a1 :: a2 :: a3 :: a4 :: a5 :: a6 :: a7 :: a8 :: a9 :: a10 :: some (.int x) :: L) h2 hc))
theorem v_iinc1_11 (hC : Cx X E cc own nL R0) {a0 a1 a2 a3 a4 a5 a6 a7 a8 a9 a10 : Option Value} {j : Nat} (hn : 11 < nL) (hc : catO a10 = true) (hd : decode cc pc = .ok (.iinc 11 1, 3)) (k : V X E (pc + 3) (a0 :: a1 :: a2 :: a3 :: a4 :: a5 :: a6 :: a7 :: a8 :: a9 :: a10 :: some (.int (nI (j + 1))) :: L) st σ μ) : V X E pc (a0 :: a1 :: a2 :: a3 :: a4 :: a5 :: a6 :: a7 :: a8 :: a9 :: a10 :: some (.int (nI j)) :: L) st σ μ := v_iinc_11 hC hn hc hd (nI_1 j) k
theorem v_iload_12 (hC : Cx X E cc own nL R0) {a0 a1 a2 a3 a4 a5 a6 a7 a8 a9 a10 a11 : Option Value} {x : Int32} (hd : decode cc pc = .ok (.iload 12, 2)) (k : V X E (pc + 2) (a0 :: a1 :: a2 :: a3 :: a4 :: a5 :: a6 :: a7 :: a8 :: a9 :: a10 :: a11 :: some (.int x) :: L) (.int x :: st) σ μ) : V X E pc (a0 :: a1 :: a2 :: a3 :: a4 :: a5 :: a6 :: a7 :: a8 :: a9 :: a10 :: a11 :: some (.int x) :: L) st σ μ := fun H locs ls hP hS hl => lv_iload hC.1 hC.2.1 hd (hl.2.2 12 _ rfl) (k H locs ls hP hS hl)
theorem v_istore_12 (hC : Cx X E cc own nL R0) {a0 a1 a2 a3 a4 a5 a6 a7 a8 a9 a10 a11 a12 : Option Value} {x : Int32} (hn : 12 < nL) (hc : catO a11 = true) (hd : decode cc pc = .ok (.istore 12, 2)) (k : V X E (pc + 2) (a0 :: a1 :: a2 :: a3 :: a4 :: a5 :: a6 :: a7 :: a8 :: a9 :: a10 :: a11 :: some (.int x) :: L) st σ μ) : V X E pc (a0 :: a1 :: a2 :: a3 :: a4 :: a5 :: a6 :: a7 :: a8 :: a9 :: a10 :: a11 :: a12 :: L) (.int x :: st) σ μ := fun H locs ls hP hS hl => lv_istore hC.1 hC.2.1 hd hl.has (by rw [hC.2.2.1]; exact hn) rfl (fun ls2 h2 => k H locs ls2 hP hS (lvO.store1 (L := a0 :: a1 :: a2 :: a3 :: a4 :: a5 :: a6 :: a7 :: a8 :: a9 :: a10 :: a11 :: a12 :: L) h2 hc))
theorem v_aload_12 (hC : Cx X E cc own nL R0) {a0 a1 a2 a3 a4 a5 a6 a7 a8 a9 a10 a11 : Option Value} {x : Nat} (hd : decode cc pc = .ok (.aload 12, 2)) (k : V X E (pc + 2) (a0 :: a1 :: a2 :: a3 :: a4 :: a5 :: a6 :: a7 :: a8 :: a9 :: a10 :: a11 :: some (.ref x) :: L) (.ref x :: st) σ μ) : V X E pc (a0 :: a1 :: a2 :: a3 :: a4 :: a5 :: a6 :: a7 :: a8 :: a9 :: a10 :: a11 :: some (.ref x) :: L) st σ μ := fun H locs ls hP hS hl => lv_aload hC.1 hC.2.1 hd (hl.2.2 12 _ rfl) (k H locs ls hP hS hl)
theorem v_astore_12 (hC : Cx X E cc own nL R0) {a0 a1 a2 a3 a4 a5 a6 a7 a8 a9 a10 a11 a12 : Option Value} {x : Nat} (hn : 12 < nL) (hc : catO a11 = true) (hd : decode cc pc = .ok (.astore 12, 2)) (k : V X E (pc + 2) (a0 :: a1 :: a2 :: a3 :: a4 :: a5 :: a6 :: a7 :: a8 :: a9 :: a10 :: a11 :: some (.ref x) :: L) st σ μ) : V X E pc (a0 :: a1 :: a2 :: a3 :: a4 :: a5 :: a6 :: a7 :: a8 :: a9 :: a10 :: a11 :: a12 :: L) (.ref x :: st) σ μ := fun H locs ls hP hS hl => lv_astore hC.1 hC.2.1 hd hl.has (by rw [hC.2.2.1]; exact hn) rfl (fun ls2 h2 => k H locs ls2 hP hS (lvO.store1 (L := a0 :: a1 :: a2 :: a3 :: a4 :: a5 :: a6 :: a7 :: a8 :: a9 :: a10 :: a11 :: a12 :: L) h2 hc))
theorem v_lload_12 (hC : Cx X E cc own nL R0) {a0 a1 a2 a3 a4 a5 a6 a7 a8 a9 a10 a11 : Option Value} {x : Int64} (hd : decode cc pc = .ok (.lload 12, 2)) (k : V X E (pc + 2) (a0 :: a1 :: a2 :: a3 :: a4 :: a5 :: a6 :: a7 :: a8 :: a9 :: a10 :: a11 :: some (.long x) :: L) (.long x :: st) σ μ) : V X E pc (a0 :: a1 :: a2 :: a3 :: a4 :: a5 :: a6 :: a7 :: a8 :: a9 :: a10 :: a11 :: some (.long x) :: L) st σ μ := fun H locs ls hP hS hl => lv_lload hC.1 hC.2.1 hd (hl.2.2 12 _ rfl) (k H locs ls hP hS hl)
theorem v_lstore_12 (hC : Cx X E cc own nL R0) {a0 a1 a2 a3 a4 a5 a6 a7 a8 a9 a10 a11 a12 a13 : Option Value} {x : Int64} (hn : 13 < nL) (hc : catO a11 = true) (hd : decode cc pc = .ok (.lstore 12, 2)) (k : V X E (pc + 2) (a0 :: a1 :: a2 :: a3 :: a4 :: a5 :: a6 :: a7 :: a8 :: a9 :: a10 :: a11 :: some (.long x) :: none :: L) st σ μ) : V X E pc (a0 :: a1 :: a2 :: a3 :: a4 :: a5 :: a6 :: a7 :: a8 :: a9 :: a10 :: a11 :: a12 :: a13 :: L) (.long x :: st) σ μ := fun H locs ls hP hS hl => lv_lstore hC.1 hC.2.1 hd hl.has (by rw [hC.2.2.1]; exact hn) rfl (fun ls2 h2 => k H locs ls2 hP hS (lvO.store2 (L := a0 :: a1 :: a2 :: a3 :: a4 :: a5 :: a6 :: a7 :: a8 :: a9 :: a10 :: a11 :: a12 :: a13 :: L) h2 hc))
theorem v_iinc_12 (hC : Cx X E cc own nL R0) {a0 a1 a2 a3 a4 a5 a6 a7 a8 a9 a10 a11 : Option Value} {x v : Int32} {n : Int} (hn : 12 < nL) (hc : catO a11 = true) (hd : decode cc pc = .ok (.iinc 12 n, 3)) (hv : x + Int32.ofInt n = v) (k : V X E (pc + 3) (a0 :: a1 :: a2 :: a3 :: a4 :: a5 :: a6 :: a7 :: a8 :: a9 :: a10 :: a11 :: some (.int v) :: L) st σ μ) : V X E pc (a0 :: a1 :: a2 :: a3 :: a4 :: a5 :: a6 :: a7 :: a8 :: a9 :: a10 :: a11 :: some (.int x) :: L) st σ μ := fun H locs ls hP hS hl => by
  obtain ⟨kk, hkk⟩ := List.getElem?_of_mem (lvL_mem (L := a0 :: a1 :: a2 :: a3 :: a4 :: a5 :: a6 :: a7 :: a8 :: a9 :: a10 :: a11 :: some (.int x) :: L) (i := 0) (k := 12) rfl)
  exact lv_iinc hC.1 hC.2.1 hd hl.has (by rw [hkk, Nat.zero_add]) hv (by rw [hC.2.2.1]; exact hn) rfl (fun ls2 h2 => k H locs ls2 hP hS (lvO.store1 (L := a0 :: a1 :: a2 :: a3 :: a4 :: a5 :: a6 :: a7 :: a8 :: a9 :: a10 :: a11 :: some (.int x) :: L) h2 hc))
theorem v_iinc1_12 (hC : Cx X E cc own nL R0) {a0 a1 a2 a3 a4 a5 a6 a7 a8 a9 a10 a11 : Option Value} {j : Nat} (hn : 12 < nL) (hc : catO a11 = true) (hd : decode cc pc = .ok (.iinc 12 1, 3)) (k : V X E (pc + 3) (a0 :: a1 :: a2 :: a3 :: a4 :: a5 :: a6 :: a7 :: a8 :: a9 :: a10 :: a11 :: some (.int (nI (j + 1))) :: L) st σ μ) : V X E pc (a0 :: a1 :: a2 :: a3 :: a4 :: a5 :: a6 :: a7 :: a8 :: a9 :: a10 :: a11 :: some (.int (nI j)) :: L) st σ μ := v_iinc_12 hC hn hc hd (nI_1 j) k
theorem v_iload_13 (hC : Cx X E cc own nL R0) {a0 a1 a2 a3 a4 a5 a6 a7 a8 a9 a10 a11 a12 : Option Value} {x : Int32} (hd : decode cc pc = .ok (.iload 13, 2)) (k : V X E (pc + 2) (a0 :: a1 :: a2 :: a3 :: a4 :: a5 :: a6 :: a7 :: a8 :: a9 :: a10 :: a11 :: a12 :: some (.int x) :: L) (.int x :: st) σ μ) : V X E pc (a0 :: a1 :: a2 :: a3 :: a4 :: a5 :: a6 :: a7 :: a8 :: a9 :: a10 :: a11 :: a12 :: some (.int x) :: L) st σ μ := fun H locs ls hP hS hl => lv_iload hC.1 hC.2.1 hd (hl.2.2 13 _ rfl) (k H locs ls hP hS hl)
theorem v_istore_13 (hC : Cx X E cc own nL R0) {a0 a1 a2 a3 a4 a5 a6 a7 a8 a9 a10 a11 a12 a13 : Option Value} {x : Int32} (hn : 13 < nL) (hc : catO a12 = true) (hd : decode cc pc = .ok (.istore 13, 2)) (k : V X E (pc + 2) (a0 :: a1 :: a2 :: a3 :: a4 :: a5 :: a6 :: a7 :: a8 :: a9 :: a10 :: a11 :: a12 :: some (.int x) :: L) st σ μ) : V X E pc (a0 :: a1 :: a2 :: a3 :: a4 :: a5 :: a6 :: a7 :: a8 :: a9 :: a10 :: a11 :: a12 :: a13 :: L) (.int x :: st) σ μ := fun H locs ls hP hS hl => lv_istore hC.1 hC.2.1 hd hl.has (by rw [hC.2.2.1]; exact hn) rfl (fun ls2 h2 => k H locs ls2 hP hS (lvO.store1 (L := a0 :: a1 :: a2 :: a3 :: a4 :: a5 :: a6 :: a7 :: a8 :: a9 :: a10 :: a11 :: a12 :: a13 :: L) h2 hc))
theorem v_aload_13 (hC : Cx X E cc own nL R0) {a0 a1 a2 a3 a4 a5 a6 a7 a8 a9 a10 a11 a12 : Option Value} {x : Nat} (hd : decode cc pc = .ok (.aload 13, 2)) (k : V X E (pc + 2) (a0 :: a1 :: a2 :: a3 :: a4 :: a5 :: a6 :: a7 :: a8 :: a9 :: a10 :: a11 :: a12 :: some (.ref x) :: L) (.ref x :: st) σ μ) : V X E pc (a0 :: a1 :: a2 :: a3 :: a4 :: a5 :: a6 :: a7 :: a8 :: a9 :: a10 :: a11 :: a12 :: some (.ref x) :: L) st σ μ := fun H locs ls hP hS hl => lv_aload hC.1 hC.2.1 hd (hl.2.2 13 _ rfl) (k H locs ls hP hS hl)
theorem v_astore_13 (hC : Cx X E cc own nL R0) {a0 a1 a2 a3 a4 a5 a6 a7 a8 a9 a10 a11 a12 a13 : Option Value} {x : Nat} (hn : 13 < nL) (hc : catO a12 = true) (hd : decode cc pc = .ok (.astore 13, 2)) (k : V X E (pc + 2) (a0 :: a1 :: a2 :: a3 :: a4 :: a5 :: a6 :: a7 :: a8 :: a9 :: a10 :: a11 :: a12 :: some (.ref x) :: L) st σ μ) : V X E pc (a0 :: a1 :: a2 :: a3 :: a4 :: a5 :: a6 :: a7 :: a8 :: a9 :: a10 :: a11 :: a12 :: a13 :: L) (.ref x :: st) σ μ := fun H locs ls hP hS hl => lv_astore hC.1 hC.2.1 hd hl.has (by rw [hC.2.2.1]; exact hn) rfl (fun ls2 h2 => k H locs ls2 hP hS (lvO.store1 (L := a0 :: a1 :: a2 :: a3 :: a4 :: a5 :: a6 :: a7 :: a8 :: a9 :: a10 :: a11 :: a12 :: a13 :: L) h2 hc))
theorem v_lload_13 (hC : Cx X E cc own nL R0) {a0 a1 a2 a3 a4 a5 a6 a7 a8 a9 a10 a11 a12 : Option Value} {x : Int64} (hd : decode cc pc = .ok (.lload 13, 2)) (k : V X E (pc + 2) (a0 :: a1 :: a2 :: a3 :: a4 :: a5 :: a6 :: a7 :: a8 :: a9 :: a10 :: a11 :: a12 :: some (.long x) :: L) (.long x :: st) σ μ) : V X E pc (a0 :: a1 :: a2 :: a3 :: a4 :: a5 :: a6 :: a7 :: a8 :: a9 :: a10 :: a11 :: a12 :: some (.long x) :: L) st σ μ := fun H locs ls hP hS hl => lv_lload hC.1 hC.2.1 hd (hl.2.2 13 _ rfl) (k H locs ls hP hS hl)
theorem v_lstore_13 (hC : Cx X E cc own nL R0) {a0 a1 a2 a3 a4 a5 a6 a7 a8 a9 a10 a11 a12 a13 a14 : Option Value} {x : Int64} (hn : 14 < nL) (hc : catO a12 = true) (hd : decode cc pc = .ok (.lstore 13, 2)) (k : V X E (pc + 2) (a0 :: a1 :: a2 :: a3 :: a4 :: a5 :: a6 :: a7 :: a8 :: a9 :: a10 :: a11 :: a12 :: some (.long x) :: none :: L) st σ μ) : V X E pc (a0 :: a1 :: a2 :: a3 :: a4 :: a5 :: a6 :: a7 :: a8 :: a9 :: a10 :: a11 :: a12 :: a13 :: a14 :: L) (.long x :: st) σ μ := fun H locs ls hP hS hl => lv_lstore hC.1 hC.2.1 hd hl.has (by rw [hC.2.2.1]; exact hn) rfl (fun ls2 h2 => k H locs ls2 hP hS (lvO.store2 (L := a0 :: a1 :: a2 :: a3 :: a4 :: a5 :: a6 :: a7 :: a8 :: a9 :: a10 :: a11 :: a12 :: a13 :: a14 :: L) h2 hc))
theorem v_iinc_13 (hC : Cx X E cc own nL R0) {a0 a1 a2 a3 a4 a5 a6 a7 a8 a9 a10 a11 a12 : Option Value} {x v : Int32} {n : Int} (hn : 13 < nL) (hc : catO a12 = true) (hd : decode cc pc = .ok (.iinc 13 n, 3)) (hv : x + Int32.ofInt n = v) (k : V X E (pc + 3) (a0 :: a1 :: a2 :: a3 :: a4 :: a5 :: a6 :: a7 :: a8 :: a9 :: a10 :: a11 :: a12 :: some (.int v) :: L) st σ μ) : V X E pc (a0 :: a1 :: a2 :: a3 :: a4 :: a5 :: a6 :: a7 :: a8 :: a9 :: a10 :: a11 :: a12 :: some (.int x) :: L) st σ μ := fun H locs ls hP hS hl => by
  obtain ⟨kk, hkk⟩ := List.getElem?_of_mem (lvL_mem (L := a0 :: a1 :: a2 :: a3 :: a4 :: a5 :: a6 :: a7 :: a8 :: a9 :: a10 :: a11 :: a12 :: some (.int x) :: L) (i := 0) (k := 13) rfl)
  exact lv_iinc hC.1 hC.2.1 hd hl.has (by rw [hkk, Nat.zero_add]) hv (by rw [hC.2.2.1]; exact hn) rfl (fun ls2 h2 => k H locs ls2 hP hS (lvO.store1 (L := a0 :: a1 :: a2 :: a3 :: a4 :: a5 :: a6 :: a7 :: a8 :: a9 :: a10 :: a11 :: a12 :: some (.int x) :: L) h2 hc))
theorem v_iinc1_13 (hC : Cx X E cc own nL R0) {a0 a1 a2 a3 a4 a5 a6 a7 a8 a9 a10 a11 a12 : Option Value} {j : Nat} (hn : 13 < nL) (hc : catO a12 = true) (hd : decode cc pc = .ok (.iinc 13 1, 3)) (k : V X E (pc + 3) (a0 :: a1 :: a2 :: a3 :: a4 :: a5 :: a6 :: a7 :: a8 :: a9 :: a10 :: a11 :: a12 :: some (.int (nI (j + 1))) :: L) st σ μ) : V X E pc (a0 :: a1 :: a2 :: a3 :: a4 :: a5 :: a6 :: a7 :: a8 :: a9 :: a10 :: a11 :: a12 :: some (.int (nI j)) :: L) st σ μ := v_iinc_13 hC hn hc hd (nI_1 j) k
/-- what is known of a place may be forgotten -/
theorem v_forget {L2 : List (Option Value)} (h : ∀ (k : Nat) (v : Value), L2[k]? = some (some v) → L[k]? = some (some v)) (k : V X E pc L2 st σ μ) : V X E pc L st σ μ := fun H locs ls hP hS hl => k H locs ls hP hS ⟨hl.1, hl.2.1, fun i v hi => hl.2.2 i v (h i v hi)⟩
theorem v_forget_0 {w : Option Value} (k : V X E pc (none :: L) st σ μ) : V X E pc (w :: L) st σ μ := v_forget (fun j v hj => by match j, hj with
  | 0, hj => exact (by cases hj)
  | j + 1, hj => exact hj) k
theorem v_forget_1 {a0 : Option Value} {w : Option Value} (k : V X E pc (a0 :: none :: L) st σ μ) : V X E pc (a0 :: w :: L) st σ μ := v_forget (fun j v hj => by match j, hj with
  | 0, hj => exact hj
  | 1, hj => exact (by cases hj)
  | j + 2, hj => exact hj) k
theorem v_forget_2 {a0 a1 : Option Value} {w : Option Value} (k : V X E pc (a0 :: a1 :: none :: L) st σ μ) : V X E pc (a0 :: a1 :: w :: L) st σ μ := v_forget (fun j v hj => by match j, hj with
  | 0, hj => exact hj
  | 1, hj => exact hj
  | 2, hj => exact (by cases hj)
  | j + 3, hj => exact hj) k
theorem v_forget_3 {a0 a1 a2 : Option Value} {w : Option Value} (k : V X E pc (a0 :: a1 :: a2 :: none :: L) st σ μ) : V X E pc (a0 :: a1 :: a2 :: w :: L) st σ μ := v_forget (fun j v hj => by match j, hj with
  | 0, hj => exact hj
  | 1, hj => exact hj
  | 2, hj => exact hj
  | 3, hj => exact (by cases hj)
  | j + 4, hj => exact hj) k
theorem v_forget_4 {a0 a1 a2 a3 : Option Value} {w : Option Value} (k : V X E pc (a0 :: a1 :: a2 :: a3 :: none :: L) st σ μ) : V X E pc (a0 :: a1 :: a2 :: a3 :: w :: L) st σ μ := v_forget (fun j v hj => by match j, hj with
  | 0, hj => exact hj
  | 1, hj => exact hj
  | 2, hj => exact hj
  | 3, hj => exact hj
  | 4, hj => exact (by cases hj)
  | j + 5, hj => exact hj) k
theorem v_forget_5 {a0 a1 a2 a3 a4 : Option Value} {w : Option Value} (k : V X E pc (a0 :: a1 :: a2 :: a3 :: a4 :: none :: L) st σ μ) : V X E pc (a0 :: a1 :: a2 :: a3 :: a4 :: w :: L) st σ μ := v_forget (fun j v hj => by match j, hj with
  | 0, hj => exact hj
  | 1, hj => exact hj
  | 2, hj => exact hj
  | 3, hj => exact hj
  | 4, hj => exact hj
  | 5, hj => exact (by cases hj)
  | j + 6, hj => exact hj) k
theorem v_forget_6 {a0 a1 a2 a3 a4 a5 : Option Value} {w : Option Value} (k : V X E pc (a0 :: a1 :: a2 :: a3 :: a4 :: a5 :: none :: L) st σ μ) : V X E pc (a0 :: a1 :: a2 :: a3 :: a4 :: a5 :: w :: L) st σ μ := v_forget (fun j v hj => by match j, hj with
  | 0, hj => exact hj
  | 1, hj => exact hj
  | 2, hj => exact hj
  | 3, hj => exact hj
  | 4, hj => exact hj
  | 5, hj => exact hj
  | 6, hj => exact (by cases hj)
  | j + 7, hj => exact hj) k
theorem v_forget_7 {a0 a1 a2 a3 a4 a5 a6 : Option Value} {w : Option Value} (k : V X E pc (a0 :: a1 :: a2 :: a3 :: a4 :: a5 :: a6 :: none :: L) st σ μ) : V X E pc (a0 :: a1 :: a2 :: a3 :: a4 :: a5 :: a6 :: w :: L) st σ μ := v_forget (fun j v hj => by match j, hj with
  | 0, hj => exact hj
  | 1, hj => exact hj
  | 2, hj => exact hj
  | 3, hj => exact hj
  | 4, hj => exact hj
  | 5, hj => exact hj
  | 6, hj => exact hj
  | 7, hj => exact (by cases hj)
  | j + 8, hj => exact hj) k
theorem v_forget_8 {a0 a1 a2 a3 a4 a5 a6 a7 : Option Value} {w : Option Value} (k : V X E pc (a0 :: a1 :: a2 :: a3 :: a4 :: a5 :: a6 :: a7 :: none :: L) st σ μ) : V X E pc (a0 :: a1 :: a2 :: a3 :: a4 :: a5 :: a6 :: a7 :: w :: L) st σ μ := v_forget (fun j v hj => by match j, hj with
  | 0, hj => exact hj
  | 1, hj => exact hj
  | 2, hj => exact hj
  | 3, hj => exact hj
  | 4, hj => exact hj
  | 5, hj => exact hj
  | 6, hj => exact hj
  | 7, hj => exact hj
  | 8, hj => exact (by cases hj)
  | j + 9, hj => exact hj) k
theorem v_forget_9 {a0 a1 a2 a3 a4 a5 a6 a7 a8 : Option Value} {w : Option Value} (k : V X E pc (a0 :: a1 :: a2 :: a3 :: a4 :: a5 :: a6 :: a7 :: a8 :: none :: L) st σ μ) : V X E pc (a0 :: a1 :: a2 :: a3 :: a4 :: a5 :: a6 :: a7 :: a8 :: w :: L) st σ μ := v_forget (fun j v hj => by match j, hj with
  | 0, hj => exact hj
  | 1, hj => exact hj
  | 2, hj => exact hj
  | 3, hj => exact hj
  | 4, hj => exact hj
  | 5, hj => exact hj
  | 6, hj => exact hj
  | 7, hj => exact hj
  | 8, hj => exact hj
  | 9, hj => exact (by cases hj)
  | j + 10, hj => exact hj) k
theorem v_forget_10 {a0 a1 a2 a3 a4 a5 a6 a7 a8 a9 : Option Value} {w : Option Value} (k : V X E pc (a0 :: a1 :: a2 :: a3 :: a4 :: a5 :: a6 :: a7 :: a8 :: a9 :: none :: L) st σ μ) : V X E pc (a0 :: a1 :: a2 :: a3 :: a4 :: a5 :: a6 :: a7 :: a8 :: a9 :: w :: L) st σ μ := v_forget (fun j v hj => by match j, hj with
  | 0, hj => exact hj
  | 1, hj => exact hj
  | 2, hj => exact hj
  | 3, hj => exact hj
  | 4, hj => exact hj
  | 5, hj => exact hj
  | 6, hj => exact hj
  | 7, hj => exact hj
  | 8, hj => exact hj
  | 9, hj => exact hj
  | 10, hj => exact (by cases hj)
  | j + 11, hj => exact hj) k
theorem v_forget_11 {a0 a1 a2 a3 a4 a5 a6 a7 a8 a9 a10 : Option Value} {w : Option Value} (k : V X E pc (a0 :: a1 :: a2 :: a3 :: a4 :: a5 :: a6 :: a7 :: a8 :: a9 :: a10 :: none :: L) st σ μ) : V X E pc (a0 :: a1 :: a2 :: a3 :: a4 :: a5 :: a6 :: a7 :: a8 :: a9 :: a10 :: w :: L) st σ μ := v_forget (fun j v hj => by match j, hj with
  | 0, hj => exact hj
  | 1, hj => exact hj
  | 2, hj => exact hj
  | 3, hj => exact hj
  | 4, hj => exact hj
  | 5, hj => exact hj
  | 6, hj => exact hj
  | 7, hj => exact hj
  | 8, hj => exact hj
  | 9, hj => exact hj
  | 10, hj => exact hj
  | 11, hj => exact (by cases hj)
  | j + 12, hj => exact hj) k
theorem v_forget_12 {a0 a1 a2 a3 a4 a5 a6 a7 a8 a9 a10 a11 : Option Value} {w : Option Value} (k : V X E pc (a0 :: a1 :: a2 :: a3 :: a4 :: a5 :: a6 :: a7 :: a8 :: a9 :: a10 :: a11 :: none :: L) st σ μ) : V X E pc (a0 :: a1 :: a2 :: a3 :: a4 :: a5 :: a6 :: a7 :: a8 :: a9 :: a10 :: a11 :: w :: L) st σ μ := v_forget (fun j v hj => by match j, hj with
  | 0, hj => exact hj
  | 1, hj => exact hj
  | 2, hj => exact hj
  | 3, hj => exact hj
  | 4, hj => exact hj
  | 5, hj => exact hj
  | 6, hj => exact hj
  | 7, hj => exact hj
  | 8, hj => exact hj
  | 9, hj => exact hj
  | 10, hj => exact hj
  | 11, hj => exact hj
  | 12, hj => exact (by cases hj)
  | j + 13, hj => exact hj) k
theorem v_forget_13 {a0 a1 a2 a3 a4 a5 a6 a7 a8 a9 a10 a11 a12 : Option Value} {w : Option Value} (k : V X E pc (a0 :: a1 :: a2 :: a3 :: a4 :: a5 :: a6 :: a7 :: a8 :: a9 :: a10 :: a11 :: a12 :: none :: L) st σ μ) : V X E pc (a0 :: a1 :: a2 :: a3 :: a4 :: a5 :: a6 :: a7 :: a8 :: a9 :: a10 :: a11 :: a12 :: w :: L) st σ μ := v_forget (fun j v hj => by match j, hj with
  | 0, hj => exact hj
  | 1, hj => exact hj
  | 2, hj => exact hj
  | 3, hj => exact hj
  | 4, hj => exact hj
  | 5, hj => exact hj
  | 6, hj => exact hj
  | 7, hj => exact hj
  | 8, hj => exact hj
  | 9, hj => exact hj
  | 10, hj => exact hj
  | 11, hj => exact hj
  | 12, hj => exact hj
  | 13, hj => exact (by cases hj)
  | j + 14, hj => exact hj) k
/-- a field's link: class ci, field i -/
def FL (own : String) (idx ci i : Nat) : Prop := ∃ (Cn : String) (T : u_T) (N : Nat), vwCl[ci]? = some (Cn, T, N) ∧ i < N ∧ (∀ w ∈ u_ws Cn T N, w ∈ gT) ∧ (Cond.fieldLink own idx (T i).1 (T i).2.1 (T i).2.2.1 ∈ gT ∨ ∃ host, Cond.fieldLinkNest own idx (T i).1 (T i).2.1 (T i).2.2.1 host ∈ nT)
theorem v_get (hC : Cx X E cc own nL R0) {k idx ci i : Nat} {fs : List Value} {v : Value} (hF : FL own idx ci i) (hk : k < 65) (he : ent E σ μ k = .inr (ci, fs)) (hv : fs[i]? = some v) (hd : decode cc pc = .ok (.getfield idx, 3)) (kk : V X E (pc + 3) L (v :: st) σ μ) : V X E pc L (.ref (adr E k) :: st) σ μ := fun H locs ls hP hS hl => by
  obtain ⟨Cn, T, N, h1, h2, h3, h4⟩ := hF
  rcases h4 with h4 | ⟨host, h4⟩
  · exact va_get hC.1 hC.2.1 hC.2.2.2.2.1 h3 hC.2.2.2.1 hC.2.2.2.2.2.1.1 hP k (by rw [mkW_get hk, he]) h1 i h2 (hC.2.2.2.2.1 _ h4) (fun _ h => h) hv hd (kk H locs ls hP hS hl)
  · exact va_getN hC.1 hC.2.1 hC.2.2.2.2.1 h3 hC.2.2.2.1 hC.2.2.2.2.2.1.1 hP k (by rw [mkW_get hk, he]) h1 i h2 (va_Nw.use rfl (hC.2.2.2.2.2.1.2.2 _ h4)) (fun _ h => h) hv hd (kk H locs ls hP hS hl)
/-- a field's link for writing -/
def FP (own : String) (idx ci i : Nat) (ty : FieldType) : Prop := ∃ (Cn : String) (T : u_T) (N : Nat) (ty0 : Nat → FieldType), vwCl[ci]? = some (Cn, T, N) ∧ i < N ∧ (∀ w ∈ u_ws Cn T N, w ∈ gT) ∧ (∀ k, k < N → parseFieldDescriptor (T k).2.2.1 = some (ty0 k)) ∧ (∀ a, a < N → ∀ b, b < N → a ≠ b → (T a).2.1 ≠ (T b).2.1) ∧ (T i).2.2.2 = false ∧ ty0 i = ty ∧ Cond.fieldLink own idx (T i).1 (T i).2.1 (T i).2.2.1 ∈ gT
theorem put_lem (hC : Cx X E cc own nL R0) {k idx ci i : Nat} {fs : List Value} {x : Int32} {ty : FieldType} {σ' μ' : St} (hF : FP own idx ci i ty) (hn : narrow ty (.int x) = .int x) (hft : fits ty (.int x) = true) (hk : k < 65) (he : ent E σ μ k = .inr (ci, fs)) (hl0 : i < fs.length) (h1 : ent E σ' μ' k = .inr (ci, fs.set i (.int x))) (h2 : ∀ j, j ≠ k → ent E σ' μ' j = ent E σ μ j) (hd : decode cc pc = .ok (.putfield idx, 3)) (kk : V X E (pc + 3) L st σ' μ') : V X E pc L (.int x :: .ref (adr E k) :: st) σ μ := fun H locs ls hP hS hl => by
  obtain ⟨Cn, T, N, ty0, q1, q2, q3, q4, q5, q6, q7, q8⟩ := hF
  refine va_put hC.1 hC.2.1 hC.2.2.2.2.1 q3 ty0 q4 q5 hC.2.2.2.1 hC.2.2.2.2.2.1.1 hP (mkW_D hC.2.2.2.2.2.1.2.1 hC.2.2.2.2.2.2.2.1) hS k (by rw [mkW_get hk, he]) q1 i q2 (hC.2.2.2.2.1 _ q8) (fun _ h => h) q6 (by rw [q4 i q2, q7]) hn hft hl0 hd (fun H1 locs1 hP1 hD1 hS1 => ?_)
  rw [mkW_set hk h1 h2] at hP1
  exact kk H1 locs1 ls hP1 hS1 hl
theorem ent_wr {k i j : Nat} {x : Int32} (h : j ≠ k) : ent E (wr σ k i x) μ j = ent E σ μ j := ent_same E j (wr_ne h) rfl
theorem ent_wrA {k j : Nat} {f : Nat → Int32} (h : j ≠ k) : ent E (wrA σ k f) μ j = ent E σ μ j := ent_same E j (wrA_ne h) rfl
theorem ent_wm {k i j : Nat} {x : Int32} (hk : k < 11) (h : j ≠ k + 54) : ent E σ (wr μ k i x) j = ent E σ μ j := by
  rcases Nat.lt_or_ge j 54 with q | q
  · unfold ent
    split <;> first | rfl | omega
  · exact ent_same E j rfl (wr_ne (by omega))
theorem ent_wmA {k j : Nat} {f : Nat → Int32} (hk : k < 11) (h : j ≠ k + 54) : ent E σ (wrA μ k f) j = ent E σ μ j := by
  rcases Nat.lt_or_ge j 54 with q | q
  · unfold ent
    split <;> first | rfl | omega
  · exact ent_same E j rfl (wrA_ne (by omega))
/-- an int field of the system's cells is written; of a boolean field: 0 or 1 -/
theorem v_put (hC : Cx X E cc own nL R0) {k idx ci i : Nat} {fs : List Value} {x : Int32} (hF : FP own idx ci i .int) (hk : k < 54) (he : ent E σ μ k = .inr (ci, fs)) (hl0 : i < fs.length) (h1 : ent E (wr σ k i x) μ k = .inr (ci, fs.set i (.int x))) (hd : decode cc pc = .ok (.putfield idx, 3)) (kk : V X E (pc + 3) L st (wr σ k i x) μ) : V X E pc L (.int x :: .ref (adr E k) :: st) σ μ :=
  put_lem hC hF rfl rfl (by omega) he hl0 h1 (fun j hj => ent_wr hj) hd kk
theorem v_putZ1 (hC : Cx X E cc own nL R0) {k idx ci i : Nat} {fs : List Value} (hF : FP own idx ci i .boolean) (hk : k < 54) (he : ent E σ μ k = .inr (ci, fs)) (hl0 : i < fs.length) (h1 : ent E (wr σ k i (nI 1)) μ k = .inr (ci, fs.set i (.int (nI 1)))) (hd : decode cc pc = .ok (.putfield idx, 3)) (kk : V X E (pc + 3) L st (wr σ k i (nI 1)) μ) : V X E pc L (.int (nI 1) :: .ref (adr E k) :: st) σ μ :=
  put_lem hC hF (by decide +kernel) (by decide +kernel) (by omega) he hl0 h1 (fun j hj => ent_wr hj) hd kk
theorem w_put (hC : Cx X E cc own nL R0) {k idx ci i : Nat} {fs : List Value} {x : Int32} (hF : FP own idx ci i .int) (hk : k < 11) (he : ent E σ μ (k + 54) = .inr (ci, fs)) (hl0 : i < fs.length) (h1 : ent E σ (wr μ k i x) (k + 54) = .inr (ci, fs.set i (.int x))) (hd : decode cc pc = .ok (.putfield idx, 3)) (kk : V X E (pc + 3) L st σ (wr μ k i x)) : V X E pc L (.int x :: .ref (adr E (k + 54)) :: st) σ μ :=
  put_lem hC hF rfl rfl (by omega) he hl0 h1 (fun j hj => ent_wm hk hj) hd kk
theorem w_putZ1 (hC : Cx X E cc own nL R0) {k idx ci i : Nat} {fs : List Value} (hF : FP own idx ci i .boolean) (hk : k < 11) (he : ent E σ μ (k + 54) = .inr (ci, fs)) (hl0 : i < fs.length) (h1 : ent E σ (wr μ k i (nI 1)) (k + 54) = .inr (ci, fs.set i (.int (nI 1)))) (hd : decode cc pc = .ok (.putfield idx, 3)) (kk : V X E (pc + 3) L st σ (wr μ k i (nI 1))) : V X E pc L (.int (nI 1) :: .ref (adr E (k + 54)) :: st) σ μ :=
  put_lem hC hF (by decide +kernel) (by decide +kernel) (by omega) he hl0 h1 (fun j hj => ent_wm hk hj) hd kk
theorem v_iald (hC : Cx X E cc own nL R0) {k n j : Nat} (hk : isC k n) (hj : j < n) (hd : decode cc pc = .ok (.iaload, 1)) (kk : V X E (pc + 1) L (.int (σ k j) :: st) σ μ) : V X E pc L (.int (nI j) :: .ref (adr E k) :: st) σ μ := fun H locs ls hP hS hl => by
  have h1 := hk.1
  have h2 := hk.2.1
  have hc : (nI j).toNatClampNeg = j := nI_clamp (by omega)
  refine va_iald hC.1 hC.2.1 hC.2.2.2.2.2.1.1 hP k 0 (by rw [mkW_get (by omega), hk.2.2]) rfl (vp_in_nI hj (by omega)) hd ?_
  rw [hc]
  exact kk H locs ls hP hS hl
theorem v_iast (hC : Cx X E cc own nL R0) {k n j : Nat} {x : Int32} (hk : isC k n) (hj : j < n) (hd : decode cc pc = .ok (.iastore, 1)) (kk : V X E (pc + 1) L st (wr σ k j x) μ) : V X E pc L (.int x :: .int (nI j) :: .ref (adr E k) :: st) σ μ := fun H locs ls hP hS hl => by
  have h1 := hk.1
  have h2 := hk.2.1
  have hc : (nI j).toNatClampNeg = j := nI_clamp (by omega)
  refine va_iast hC.1 hC.2.1 hC.2.2.2.2.2.1.1 hP (mkW_D hC.2.2.2.2.2.1.2.1 hC.2.2.2.2.2.2.2.1) hS k 0 (by rw [mkW_get (by omega), hk.2.2]) rfl (vp_in_nI hj (by omega)) hd (fun H1 locs1 hP1 hD1 hS1 => ?_)
  rw [mkW_set (σ' := wr σ k j x) (μ' := μ) (by omega) (by rw [hk.2.2, wr_row, hc]) (fun i hi => ent_wr hi)] at hP1
  exact kk H1 locs1 ls hP1 hS1 hl
theorem w_iald (hC : Cx X E cc own nL R0) {k n j : Nat} (hk : isM k n) (hj : j < n) (hd : decode cc pc = .ok (.iaload, 1)) (kk : V X E (pc + 1) L (.int (μ k j) :: st) σ μ) : V X E pc L (.int (nI j) :: .ref (adr E (k + 54)) :: st) σ μ := fun H locs ls hP hS hl => by
  have h1 := hk.1
  have h2 := hk.2.1
  have hc : (nI j).toNatClampNeg = j := nI_clamp (by omega)
  refine va_iald hC.1 hC.2.1 hC.2.2.2.2.2.1.1 hP (k + 54) 0 (by rw [mkW_get (by omega), hk.2.2]) rfl (vp_in_nI hj (by omega)) hd ?_
  rw [hc]
  exact kk H locs ls hP hS hl
theorem w_iast (hC : Cx X E cc own nL R0) {k n j : Nat} {x : Int32} (hk : isM k n) (hj : j < n) (hd : decode cc pc = .ok (.iastore, 1)) (kk : V X E (pc + 1) L st σ (wr μ k j x)) : V X E pc L (.int x :: .int (nI j) :: .ref (adr E (k + 54)) :: st) σ μ := fun H locs ls hP hS hl => by
  have h1 := hk.1
  have h2 := hk.2.1
  have hc : (nI j).toNatClampNeg = j := nI_clamp (by omega)
  refine va_iast hC.1 hC.2.1 hC.2.2.2.2.2.1.1 hP (mkW_D hC.2.2.2.2.2.1.2.1 hC.2.2.2.2.2.2.2.1) hS (k + 54) 0 (by rw [mkW_get (by omega), hk.2.2]) rfl (vp_in_nI hj (by omega)) hd (fun H1 locs1 hP1 hD1 hS1 => ?_)
  rw [mkW_set (σ' := σ) (μ' := wr μ k j x) (by omega) (by rw [hk.2.2, wr_row, hc]) (fun i hi => ent_wm h1 hi)] at hP1
  exact kk H1 locs1 ls hP1 hS1 hl
theorem v_alen (hC : Cx X E cc own nL R0) {k n : Nat} (hk : isC k n) (hd : decode cc pc = .ok (.arraylength, 1)) (kk : V X E (pc + 1) L (.int (nI n) :: st) σ μ) : V X E pc L (.ref (adr E k) :: st) σ μ := fun H locs ls hP hS hl => by
  have h1 := hk.1
  exact va_alen (x := (n, .inl (σ k))) hC.1 hC.2.1 hC.2.2.2.2.2.1.1 hP k 0 (by rw [mkW_get (by omega), hk.2.2]) rfl rfl hd (kk H locs ls hP hS hl)
theorem v_aald (hC : Cx X E cc own nL R0) {j : Nat} (hj : j < 4) (hd : decode cc pc = .ok (.aaload, 1)) (kk : V X E (pc + 1) L (.ref (adr E (46 + j)) :: st) σ μ) : V X E pc L (.int (nI j) :: .ref (adr E 45) :: st) σ μ := fun H locs ls hP hS hl => by
  have hc : (nI j).toNatClampNeg = j := nI_clamp (by omega)
  refine va_aldq hC.1 hC.2.1 hC.2.2.2.2.2.1.1 hP 45 1 (by rw [mkW_get (by omega)]; rfl) rfl (vp_in_nI hj (by omega)) hd ?_
  rw [hc]
  exact kk H locs ls hP hS hl
theorem v_gets (hC : Cx X E cc own nL R0) {idx : Nat} {host : String} (hl0 : Cond.fieldLinkNest own idx "WellField" "COUNTS_TIMES" "[I" host ∈ nT) (hd : decode cc pc = .ok (.getstatic idx, 3)) (kk : V X E (pc + 3) L (.ref E.2.2.2.2 :: st) σ μ) : V X E pc L st σ μ := fun H locs ls hP hS hl =>
  va_getsN hC.1 hC.2.1 hC.2.2.2.2.2.2.1.1 hS hC.2.2.2.1 (va_Nw.use rfl (hC.2.2.2.2.2.1.2.2 _ hl0)) (fun _ h => h) hd (kk H locs ls hP hS hl)
theorem v_tald (hC : Cx X E cc own nL R0) {j : Nat} (hj : j < 6) (hd : decode cc pc = .ok (.iaload, 1)) (kk : V X E (pc + 1) L (.int (ctf j) :: st) σ μ) : V X E pc L (.int (nI j) :: .ref E.2.2.2.2 :: st) σ μ := fun H locs ls hP hS hl => by
  have hc : (nI j).toNatClampNeg = j := nI_clamp (by omega)
  exact va_ti hC.1 hC.2.1 hC.2.2.2.2.2.2.1.2 hS (vp_in_nI hj (by omega)) (by rw [hc]) hd (kk H locs ls hP hS hl)
/-- System.arraycopy between rows of the system -/
theorem v_acopy (hC : Cx X E cc own nL R0) {k n k2 n2 sp dp m idx : Nat} (hk : isC k n) (hk2 : isC k2 n2) (h1 : sp + m ≤ n) (h2 : dp + m ≤ n2) (hl1 : Cond.methodLink own idx arraycopyName ∈ gT) (hl2 : Cond.native arraycopyName ∈ gT) (hl3 : Cond.static arraycopyName ∈ gT) (hl4 : Cond.initialized "java/lang/System" ∈ gT) (hf : 1 ≤ R0.frames) (hlo : (st.map fun v => v.category).sum + 18 ≤ R0.locals) (hd : decode cc pc = .ok (.invokestatic idx, 3)) (kk : V X E (pc + 3) L st (wrA σ k2 (va_cpy (σ k) (σ k2) sp dp m)) μ) : V X E pc L (.int (nI m) :: .int (nI dp) :: .ref (adr E k2) :: .int (nI sp) :: .ref (adr E k) :: st) σ μ := fun H locs ls hP hS hl => by
  have a1 := hk.1
  have a2 := hk.2.1
  have b1 := hk2.1
  have b2 := hk2.2.1
  have c1 : (nI sp).toNatClampNeg = sp := nI_clamp (by omega)
  have c2 : (nI dp).toNatClampNeg = dp := nI_clamp (by omega)
  have c3 : (nI m).toNatClampNeg = m := nI_clamp (by omega)
  refine va_copyi hC.1 hC.2.1 hl.1.symm hC.2.2.2.1 (hC.2.2.2.2.1 _ hl1) (hC.2.2.2.2.1 _ hl2) (hC.2.2.2.2.1 _ hl3) (hC.2.2.2.2.1 _ hl4) hC.2.2.2.2.2.1.1 hP (mkW_D hC.2.2.2.2.2.1.2.1 hC.2.2.2.2.2.2.2.1) hS k k2 0 0 (ty := .int) (by rw [mkW_get (by omega), hk.2.2]) (by rw [mkW_get (by omega), hk2.2.2]) rfl rfl rfl (nI_pos (by omega)) (nI_pos (by omega)) (nI_pos (by omega)) (by rw [c1, c3]; exact h1) (by rw [c2, c3]; exact h2) (fun _ _ => rfl) (by rw [hC.2.2.2.2.2.2.2.2.1]; exact hf) (by rw [hC.2.2.2.2.2.2.2.2.1]; exact hlo) hd (fun H1 locs1 hP1 hD1 hS1 => ?_)
  rw [c1, c2, c3, mkW_set (σ' := wrA σ k2 (va_cpy (σ k) (σ k2) sp dp m)) (μ' := μ) (by omega) (by rw [hk2.2.2, wrA_row]) (fun i hi => ent_wrA hi)] at hP1
  exact kk H1 locs1 ls hP1 hS1 hl
/-- Math.max, min, abs -/
def mx (x y : Int32) : Int32 := if x < y then y else x
def mn (x y : Int32) : Int32 := if y < x then y else x
def ab (x : Int32) : Int32 := if 0 ≤ x then x else 0 - x
theorem v_max (hC : Cx X E cc own nL R0) {x y : Int32} {idx : Nat} (h1 : Cond.methodLink own idx Lib.Math.max.name ∈ gT) (h2 : Cond.static Lib.Math.max.name ∈ gT) (h3 : Cond.initialized "java/lang/Math" ∈ gT) (h4 : Cond.code Lib.Math.max.name Lib.Math.max.code 2 (some .int) ∈ gT) (hf : 1 ≤ R0.frames) (hlo : (st.map fun v => v.category).sum + 13 ≤ R0.locals) (hd : decode cc pc = .ok (.invokestatic idx, 3)) (kk : V X E (pc + 3) L (.int (mx x y) :: st) σ μ) : V X E pc L (.int y :: .int x :: st) σ μ := fun H locs ls hP hS hl =>
  va_mmax hC.1 hC.2.1 hl.1.symm hC.2.2.2.1 (hC.2.2.2.2.1 _ h1) (hC.2.2.2.2.1 _ h2) (hC.2.2.2.2.1 _ h3) (hC.2.2.2.2.1 _ h4) (by rw [hC.2.2.2.2.2.2.2.2.1]; exact hf) (by rw [hC.2.2.2.2.2.2.2.2.1]; exact hlo) (by rw [hC.2.2.2.2.2.2.2.2.1]; exact hC.2.2.2.2.2.2.2.2.2.1) (by rw [hC.2.2.2.2.2.2.2.2.1]; exact hC.2.2.2.2.2.2.2.2.2.2) hd (kk H locs ls hP hS hl)
theorem v_min (hC : Cx X E cc own nL R0) {x y : Int32} {idx : Nat} (h1 : Cond.methodLink own idx Lib.Math.min.name ∈ gT) (h2 : Cond.static Lib.Math.min.name ∈ gT) (h3 : Cond.initialized "java/lang/Math" ∈ gT) (h4 : Cond.code Lib.Math.min.name Lib.Math.min.code 2 (some .int) ∈ gT) (hf : 1 ≤ R0.frames) (hlo : (st.map fun v => v.category).sum + 13 ≤ R0.locals) (hd : decode cc pc = .ok (.invokestatic idx, 3)) (kk : V X E (pc + 3) L (.int (mn x y) :: st) σ μ) : V X E pc L (.int y :: .int x :: st) σ μ := fun H locs ls hP hS hl =>
  va_mmin hC.1 hC.2.1 hl.1.symm hC.2.2.2.1 (hC.2.2.2.2.1 _ h1) (hC.2.2.2.2.1 _ h2) (hC.2.2.2.2.1 _ h3) (hC.2.2.2.2.1 _ h4) (by rw [hC.2.2.2.2.2.2.2.2.1]; exact hf) (by rw [hC.2.2.2.2.2.2.2.2.1]; exact hlo) (by rw [hC.2.2.2.2.2.2.2.2.1]; exact hC.2.2.2.2.2.2.2.2.2.1) (by rw [hC.2.2.2.2.2.2.2.2.1]; exact hC.2.2.2.2.2.2.2.2.2.2) hd (kk H locs ls hP hS hl)
theorem v_abs (hC : Cx X E cc own nL R0) {x : Int32} {idx : Nat} (h1 : Cond.methodLink own idx Lib.Math.abs.name ∈ gT) (h2 : Cond.static Lib.Math.abs.name ∈ gT) (h3 : Cond.initialized "java/lang/Math" ∈ gT) (h4 : Cond.code Lib.Math.abs.name Lib.Math.abs.code 1 (some .int) ∈ gT) (hf : 1 ≤ R0.frames) (hlo : (st.map fun v => v.category).sum + 13 ≤ R0.locals) (hd : decode cc pc = .ok (.invokestatic idx, 3)) (kk : V X E (pc + 3) L (.int (ab x) :: st) σ μ) : V X E pc L (.int x :: st) σ μ := fun H locs ls hP hS hl =>
  va_mabs hC.1 hC.2.1 hl.1.symm hC.2.2.2.1 (hC.2.2.2.2.1 _ h1) (hC.2.2.2.2.1 _ h2) (hC.2.2.2.2.1 _ h3) (hC.2.2.2.2.1 _ h4) (by rw [hC.2.2.2.2.2.2.2.2.1]; exact hf) (by rw [hC.2.2.2.2.2.2.2.2.1]; exact hlo) (by rw [hC.2.2.2.2.2.2.2.2.1]; exact hC.2.2.2.2.2.2.2.2.2.1) (by rw [hC.2.2.2.2.2.2.2.2.1]; exact hC.2.2.2.2.2.2.2.2.2.2) hd (kk H locs ls hP hS hl)
/-- returns -/
theorem v_iret (hC : Cx X E cc own nL R0) {x r : Int32} {σr : St} (hT : Tx X E (some .int) (some (.int r)) σr μ) (h : (r, σr) = (x, σ)) (hd : decode cc pc = .ok (.ireturn, 1)) : V X E pc L [.int x] σ μ := fun H locs ls hP hS hl => by
  cases h
  rw [hT.1]
  exact W.iret hC.1 hC.2.1 hT.2.2.1 (fun t ht hW => ⟨rfl, by rw [ht]; exact hP, by rw [← hT.2.1]; exact hS.F ht⟩) (fun q hq => by rw [← hT.2.1]; exact hS.2.2 q hq) hd hT.2.2.2
theorem v_iretM (hC : Cx X E cc own nL R0) {x r : Int32} {μr : St} (hT : Tx X E (some .int) (some (.int r)) σ μr) (h : (r, μr) = (x, μ)) (hd : decode cc pc = .ok (.ireturn, 1)) : V X E pc L [.int x] σ μ := fun H locs ls hP hS hl => by
  cases h
  exact v_iret hC hT rfl hd H locs ls hP hS hl
theorem v_lret (hC : Cx X E cc own nL R0) {x r : Int64} {σr μr : St} (hT : Tx X E (some .long) (some (.long r)) σr μr) (h : (r, σr, μr) = (x, σ, μ)) (hd : decode cc pc = .ok (.lreturn, 1)) : V X E pc L [.long x] σ μ := fun H locs ls hP hS hl => by
  cases h
  rw [hT.1]
  exact W.lret hC.1 hC.2.1 hT.2.2.1 (fun t ht hW => ⟨rfl, by rw [ht]; exact hP, by rw [← hT.2.1]; exact hS.F ht⟩) (fun q hq => by rw [← hT.2.1]; exact hS.2.2 q hq) hd hT.2.2.2
theorem v_vret (hC : Cx X E cc own nL R0) {σr μr : St} (hT : Tx X E none none σr μr) (h : (σr, μr) = (σ, μ)) (hd : decode cc pc = .ok (.return_, 1)) : V X E pc L [] σ μ := fun H locs ls hP hS hl => by
  cases h
  rw [hT.1]
  exact W.vret hC.1 hC.2.1 hT.2.2.1 (fun t ht hW => ⟨rfl, by rw [ht]; exact hP, by rw [← hT.2.1]; exact hS.F ht⟩) (fun q hq => by rw [← hT.2.1]; exact hS.2.2 q hq) hd hT.2.2.2
/-- a truth value as an int -/
def bI (c : Prop) [Decidable c] : Int32 := if c then 1 else 0
theorem narrow_bI (c : Prop) [Decidable c] : narrow .boolean (.int (bI c)) = .int (bI c) := by unfold bI; split <;> decide +kernel
theorem v_zret (hC : Cx X E cc own nL R0) {x : Int32} {c : Prop} [Decidable c] (hT : Tx X E (some .boolean) (some (.int (bI c))) σ μ) (h : bI c = x) (hd : decode cc pc = .ok (.ireturn, 1)) : V X E pc L [.int x] σ μ := fun H locs ls hP hS hl => by
  subst h
  rw [hT.1]
  exact W.zret hC.1 hC.2.1 hT.2.2.1 (narrow_bI c) (fun t ht hW => ⟨rfl, by rw [ht]; exact hP, by rw [← hT.2.1]; exact hS.F ht⟩) (fun q hq => by rw [← hT.2.1]; exact hS.2.2 q hq) hd hT.2.2.2
theorem v_ifeqb (hC : Cx X E cc own nL R0) {c : Prop} [Decidable c] {off : Int} {tgt : Nat} (hd : decode cc pc = .ok (.ifCond .eq off, 3)) (ht : (pc : Int) + off = (tgt : Int)) (kt : ¬ c → V X E tgt L st σ μ) (kf : c → V X E (pc + 3) L st σ μ) : V X E pc L (.int (bI c) :: st) σ μ :=
  v_ifeq hC hd ht (fun h => kt (fun hc => by rw [bI, if_pos hc] at h; revert h; decide)) (fun h => kf (by by_cases hc : c; exact hc; exact absurd (by rw [bI, if_neg hc]) h))
theorem v_ifneb (hC : Cx X E cc own nL R0) {c : Prop} [Decidable c] {off : Int} {tgt : Nat} (hd : decode cc pc = .ok (.ifCond .ne off, 3)) (ht : (pc : Int) + off = (tgt : Int)) (kt : c → V X E tgt L st σ μ) (kf : ¬ c → V X E (pc + 3) L st σ μ) : V X E pc L (.int (bI c) :: st) σ μ :=
  v_ifne hC hd ht (fun h => kt (by by_cases hc : c; exact hc; exact absurd (by rw [bI, if_neg hc]) h)) (fun h => kf (fun hc => by rw [bI, if_pos hc] at h; revert h; decide))
end
end
section
section
variable {X : XT} {E : ET} {cc : ByteArray} {own : String} {nL : Nat} {R0 : Room} {pc : Nat} {L : List (Option Value)} {st : List Value} {σ μ σ2 μ2 : St}
theorem callQ {p : Program} {l : Launch} {e : Env} {R : Room} {s : State} {m : MethodId} {args : Array Value} {below : List Frame} {meth : Method} {c : Code} {H : Heap} {locs : List Loc} {cells slots : Nat} {Q : State → Prop} {ls : Array Slot} {rest st0 : List Value} {ar : Array Value} {A0 : Nat → Prop} {H0 : Heap} {v : Option Value}
    (hr : va_Run p l e R s m args below meth c H locs cells slots 0 0 (F0 m pc ls st0) rest (Qr E v σ μ ar) (AA E)) (hS : va_S A0 H0 H locs) (hA : ∀ q, AA E q → A0 q)
    (kk : ∀ (H1 : Heap) (locs1 : List Loc), va_P E.1 vwCl (mkW E σ μ) H1 → va_S A0 H0 H1 locs1 → W p l e R s m args below meth c H1 locs1 cells slots Q (F0 m (pc + 3) ls (v.toList ++ rest))) : W p l e R s m args below meth c H locs cells slots Q (F0 m pc ls st0) := by
  intro T hT X
  obtain ⟨v2, st₀, t, T', L, h0, X', hL, e1, e2, ⟨hv, hP, hz, hk⟩, stp⟩ := hr T hT X
  cases hv
  rw [h0] at hz hk
  obtain ⟨t2, a1, b1⟩ := kk T'.heap (locs ++ L) (by rw [e1]; exact hP)
    ⟨Nat.le_trans hS.1 (by rw [e1]; exact hz), fun q h1 h2 => by rw [e1, hk q (Nat.lt_of_lt_of_le h1 hS.1) (fun z => h2 (hA q z))]; exact hS.2.1 q h1 h2, fun q hq => by
      rcases List.mem_append.mp hq with h | h
      · exact hS.2.2 q h
      · exact hA _ (hL q h)⟩ T' rfl X'
  exact ⟨t2, stp t2 a1, b1⟩
def okM (M : MT) (n : Nat) : Prop := Cond.initialized M.1.cls ∈ gT ∧ Cond.code M.1 M.2.1 M.2.2.1 M.2.2.2.1 ∈ gT ∧ (M.1.cls ≠ "java/lang/invoke/MethodHandle" ∧ M.1.cls ≠ "java/lang/invoke/VarHandle" ∧ (parseMethodDescriptor M.1.desc).map (fun d => d.parameters.length) = some n)
def lnk (own : String) (idx : Nat) (y : MethodName) : Prop := Cond.methodLink own idx y ∈ gT ∨ ∃ host, Cond.methodLinkNest own idx y host ∈ nT
def LkV (own : String) (idx : Nat) (M : MT) (n : Nat) : Prop := lnk own idx M.1 ∧ okM M n ∧ Cond.instanceMethod M.1 ∈ gT ∧ Cond.selects M.1.cls M.1 M.1 ∈ gT
def LkS (own : String) (idx : Nat) (M : MT) (n : Nat) : Prop := lnk own idx M.1 ∧ okM M n ∧ Cond.static M.1 ∈ gT
def rmOk (R0 : Room) (M : MT) : Prop := M.2.2.2.2.frames + 1 ≤ R0.frames ∧ 8 + (M.2.2.1 + 11) + M.2.2.2.2.locals ≤ R0.locals ∧ M.2.2.2.2.cells = 0 ∧ M.2.2.2.2.slots = 0
theorem good_ws {M : MT} {n : Nat} (h : okM M n) : GoodIn gT (Cond.code M.1 M.2.1 M.2.2.1 M.2.2.2.1 :: gT) := by
  intro w hw
  rcases List.mem_cons.mp hw with rfl | hw
  · exact ⟨h.2.1, gT_good h.2.1⟩
  · exact ⟨hw, gT_good hw⟩
theorem Cx.wd (hC : Cx X E cc own nL R0) {H : Heap} {locs : List Loc} (hP : va_P E.1 vwCl (mkW E σ μ) H) (hS : va_S (xA X) (xs X).heap H locs) (U : State) (hU : U.heap = H) (hW : (xs X).WarmedH U.vm) : Wd E σ μ U := by
  refine ⟨by rw [hU]; exact hP, hC.2.2.2.2.2.1.warm hW, ?_⟩
  rw [hU]
  exact ((hC.2.2.2.2.2.2.1.kept hS.2.1).moved hW.alike).narrow (fun q ⟨k, hk, e⟩ => e ▸ hC.2.2.2.2.2.2.2.1 k hk)
theorem v_callV (hC : Cx X E cc own nL R0) {M : MT} {n k idx ci : Nat} {As fs : List Value} {v : Option Value} {q : vw_C} (hL : LkV own idx M n) (hM : Ct (xl X) E M (.ref (adr E k) :: As) σ μ v σ2 μ2) (hk : k < 65) (he : ent E σ μ k = .inr (ci, fs)) (hq : vwCl[ci]? = some q) (hqn : q.1 = M.1.cls) (hR : rmOk R0 M) (hn : As.length = n) (hst : (st.map fun v => v.category).sum ≤ 8) (hd : decode cc pc = .ok (.invokevirtual idx, 3)) {s0 : List Value} (hs0 : s0 = As.reverse ++ .ref (adr E k) :: st)
    (kk : V X E (pc + 3) L (v.toList ++ st) σ2 μ2) : V X E pc L s0 σ μ := fun H locs ls hP hS hl => by
  obtain ⟨y, b, mL, r, rm⟩ := M
  obtain ⟨hl1, hok, hin, hsel⟩ := hL
  have hts := hC.2.2.2.2.1
  have hRx := hC.2.2.2.2.2.2.2.2.1
  have hg := good_ws hok
  have hrcv : ∃ cellB : Cell, H[adr E k]? = some cellB ∧ cellB.vm.isStatics = false ∧ (xs X).vm.findClass y.cls = some cellB.cls := by
    have h := va_recv hC.2.2.2.2.2.1.1 hP hq (a := adr E k) (q0 := k) (ci := ci) (fs := fs) (by rw [mkW_get hk, he])
    rw [hqn] at h
    exact h
  have hpre : PreV (xs X) H y.cls (adr E k) (va_Pc (.ref (adr E k) :: As) (Wd E σ μ)) As := ⟨Wd.blind, hrcv, fun U hU hW => ⟨rfl, hC.wd hP hS U hU hW⟩⟩
  have hrun : va_Run (xp X) (xl X) (xe X) (xR X) (xs X) (xm X) (xa X) (xb X) (xM X) (xc X) H locs (xk X) (xn X) 0 0 (F0 (xm X) pc ls s0) st (Qr E v σ2 μ2 (Value.ref (adr E k) :: As).toArray) (AA E) := by
    rcases hl1 with hl1 | ⟨host, hl1⟩
    · exact va_runV (g := F0 (xm X) pc ls s0) (rest := st) ⟨hC.1, hC.2.1, rfl, hC.2.2.2.1, hts⟩ hM ⟨callB_of n hts hg rfl hR.2.2.1 hR.2.2.2 (hts _ hok.1) (hts _ hl1) hok.2.2 (by rw [hRx]; exact ⟨hR.1, hR.2.1⟩), hts _ hin, hts _ hsel⟩ hpre rfl hn hl.1 hs0 (lv_room hst) hd (by rw [hRx]; exact ⟨hC.2.2.2.2.2.2.2.2.2.1, hC.2.2.2.2.2.2.2.2.2.2⟩)
    · exact va_runVN (g := F0 (xm X) pc ls s0) (rest := st) ⟨hC.1, hC.2.1, rfl, hC.2.2.2.1, hts⟩ hM ⟨va_cnB n hts hg rfl hR.2.2.1 hR.2.2.2 (hC.2.2.2.2.2.1.2.2 _ hl1) (hts _ hok.1) hok.2.2 (by rw [hRx]; exact ⟨hR.1, hR.2.1⟩), hts _ hin, hts _ hsel⟩ hpre rfl hn hl.1 hs0 (lv_room hst) hd (by rw [hRx]; exact ⟨hC.2.2.2.2.2.2.2.2.2.1, hC.2.2.2.2.2.2.2.2.2.2⟩)
  exact callQ hrun hS (fun q ⟨j, hj, e⟩ => e ▸ hC.2.2.2.2.2.2.2.1 j hj) (fun H1 locs1 hP1 hS1 => kk H1 locs1 ls hP1 hS1 hl)
theorem v_callS (hC : Cx X E cc own nL R0) {M : MT} {n idx : Nat} {As : List Value} {v : Option Value} (hL : LkS own idx M n) (hM : Ct (xl X) E M As σ μ v σ2 μ2) (hR : rmOk R0 M) (hn : As.length = n) (hst : (st.map fun v => v.category).sum ≤ 8) (hd : decode cc pc = .ok (.invokestatic idx, 3)) {s0 : List Value} (hs0 : s0 = As.reverse ++ st)
    (kk : V X E (pc + 3) L (v.toList ++ st) σ2 μ2) : V X E pc L s0 σ μ := fun H locs ls hP hS hl => by
  obtain ⟨y, b, mL, r, rm⟩ := M
  obtain ⟨hl1, hok, hstt⟩ := hL
  have hts := hC.2.2.2.2.1
  have hRx := hC.2.2.2.2.2.2.2.2.1
  have hg := good_ws hok
  have hpre : PreS (xs X) H (va_Pc As (Wd E σ μ)) As := ⟨Wd.blind, fun U hU hW => ⟨rfl, hC.wd hP hS U hU hW⟩⟩
  have hrun : va_Run (xp X) (xl X) (xe X) (xR X) (xs X) (xm X) (xa X) (xb X) (xM X) (xc X) H locs (xk X) (xn X) 0 0 (F0 (xm X) pc ls s0) st (Qr E v σ2 μ2 As.toArray) (AA E) := by
    rcases hl1 with hl1 | ⟨host, hl1⟩
    · exact va_runS (g := F0 (xm X) pc ls s0) (rest := st) ⟨hC.1, hC.2.1, rfl, hC.2.2.2.1, hts⟩ hM ⟨callB_of n hts hg rfl hR.2.2.1 hR.2.2.2 (hts _ hok.1) (hts _ hl1) hok.2.2 (by rw [hRx]; exact ⟨hR.1, hR.2.1⟩), hts _ hstt⟩ hpre rfl hn hl.1 hs0 (lv_room hst) hd (by rw [hRx]; exact ⟨hC.2.2.2.2.2.2.2.2.2.1, hC.2.2.2.2.2.2.2.2.2.2⟩)
    · exact va_runSN (g := F0 (xm X) pc ls s0) (rest := st) ⟨hC.1, hC.2.1, rfl, hC.2.2.2.1, hts⟩ hM ⟨va_cnB n hts hg rfl hR.2.2.1 hR.2.2.2 (hC.2.2.2.2.2.1.2.2 _ hl1) (hts _ hok.1) hok.2.2 (by rw [hRx]; exact ⟨hR.1, hR.2.1⟩), hts _ hstt, trivial⟩ hpre rfl hn hl.1 hs0 (lv_room hst) hd (by rw [hRx]; exact ⟨hC.2.2.2.2.2.2.2.2.2.1, hC.2.2.2.2.2.2.2.2.2.2⟩)
  exact callQ hrun hS (fun q ⟨j, hj, e⟩ => e ▸ hC.2.2.2.2.2.2.2.1 j hj) (fun H1 locs1 hP1 hS1 => kk H1 locs1 ls hP1 hS1 hl)
/-- an object's class: the receiver of a call -/
def rcv (k : Nat) (M : MT) : Prop := k < 65 ∧ ∃ (ci : Nat) (q : vw_C), vwCl[ci]? = some q ∧ q.1 = M.1.cls ∧ ∀ (E : ET) (σ μ : St), ∃ fs, ent E σ μ k = .inr (ci, fs)
theorem v_cv0r (hC : Cx X E cc own nL R0) {M : MT} {k idx : Nat} {v : Value} (hL : LkV own idx M 0) (hr : rcv k M) (hM : Ct (xl X) E M [.ref (adr E k)] σ μ (some v) σ2 μ2) (hR : rmOk R0 M) (hst : (st.map fun v => v.category).sum ≤ 8) (hd : decode cc pc = .ok (.invokevirtual idx, 3)) (kk : V X E (pc + 3) L (v :: st) σ2 μ2) : V X E pc L (.ref (adr E k) :: st) σ μ := by
  obtain ⟨h1, ci, q, h2, h3, h4⟩ := hr
  obtain ⟨fs, h5⟩ := h4 E σ μ
  exact v_callV (As := []) hC hL hM h1 h5 h2 h3 hR rfl hst hd rfl kk
theorem v_cv0 (hC : Cx X E cc own nL R0) {M : MT} {k idx : Nat} (hL : LkV own idx M 0) (hr : rcv k M) (hM : Ct (xl X) E M [.ref (adr E k)] σ μ (none) σ2 μ2) (hR : rmOk R0 M) (hst : (st.map fun v => v.category).sum ≤ 8) (hd : decode cc pc = .ok (.invokevirtual idx, 3)) (kk : V X E (pc + 3) L (st) σ2 μ2) : V X E pc L (.ref (adr E k) :: st) σ μ := by
  obtain ⟨h1, ci, q, h2, h3, h4⟩ := hr
  obtain ⟨fs, h5⟩ := h4 E σ μ
  exact v_callV (As := []) hC hL hM h1 h5 h2 h3 hR rfl hst hd rfl kk
theorem v_cv1r (hC : Cx X E cc own nL R0) {M : MT} {k idx : Nat} {x0 : Value} {v : Value} (hL : LkV own idx M 1) (hr : rcv k M) (hM : Ct (xl X) E M [.ref (adr E k), x0] σ μ (some v) σ2 μ2) (hR : rmOk R0 M) (hst : (st.map fun v => v.category).sum ≤ 8) (hd : decode cc pc = .ok (.invokevirtual idx, 3)) (kk : V X E (pc + 3) L (v :: st) σ2 μ2) : V X E pc L (x0 :: .ref (adr E k) :: st) σ μ := by
  obtain ⟨h1, ci, q, h2, h3, h4⟩ := hr
  obtain ⟨fs, h5⟩ := h4 E σ μ
  exact v_callV (As := [x0]) hC hL hM h1 h5 h2 h3 hR rfl hst hd rfl kk
theorem v_cs1r (hC : Cx X E cc own nL R0) {M : MT} {idx : Nat} {x0 : Value} {v : Value} (hL : LkS own idx M 1) (hM : Ct (xl X) E M [x0] σ μ (some v) σ2 μ2) (hR : rmOk R0 M) (hst : (st.map fun v => v.category).sum ≤ 8) (hd : decode cc pc = .ok (.invokestatic idx, 3)) (kk : V X E (pc + 3) L (v :: st) σ2 μ2) : V X E pc L (x0 :: st) σ μ := v_callS (As := [x0]) hC hL hM hR rfl hst hd rfl kk
theorem v_cv1 (hC : Cx X E cc own nL R0) {M : MT} {k idx : Nat} {x0 : Value} (hL : LkV own idx M 1) (hr : rcv k M) (hM : Ct (xl X) E M [.ref (adr E k), x0] σ μ (none) σ2 μ2) (hR : rmOk R0 M) (hst : (st.map fun v => v.category).sum ≤ 8) (hd : decode cc pc = .ok (.invokevirtual idx, 3)) (kk : V X E (pc + 3) L (st) σ2 μ2) : V X E pc L (x0 :: .ref (adr E k) :: st) σ μ := by
  obtain ⟨h1, ci, q, h2, h3, h4⟩ := hr
  obtain ⟨fs, h5⟩ := h4 E σ μ
  exact v_callV (As := [x0]) hC hL hM h1 h5 h2 h3 hR rfl hst hd rfl kk
theorem v_cs1 (hC : Cx X E cc own nL R0) {M : MT} {idx : Nat} {x0 : Value} (hL : LkS own idx M 1) (hM : Ct (xl X) E M [x0] σ μ (none) σ2 μ2) (hR : rmOk R0 M) (hst : (st.map fun v => v.category).sum ≤ 8) (hd : decode cc pc = .ok (.invokestatic idx, 3)) (kk : V X E (pc + 3) L (st) σ2 μ2) : V X E pc L (x0 :: st) σ μ := v_callS (As := [x0]) hC hL hM hR rfl hst hd rfl kk
theorem v_cv2r (hC : Cx X E cc own nL R0) {M : MT} {k idx : Nat} {x0 x1 : Value} {v : Value} (hL : LkV own idx M 2) (hr : rcv k M) (hM : Ct (xl X) E M [.ref (adr E k), x0, x1] σ μ (some v) σ2 μ2) (hR : rmOk R0 M) (hst : (st.map fun v => v.category).sum ≤ 8) (hd : decode cc pc = .ok (.invokevirtual idx, 3)) (kk : V X E (pc + 3) L (v :: st) σ2 μ2) : V X E pc L (x1 :: x0 :: .ref (adr E k) :: st) σ μ := by
  obtain ⟨h1, ci, q, h2, h3, h4⟩ := hr
  obtain ⟨fs, h5⟩ := h4 E σ μ
  exact v_callV (As := [x0, x1]) hC hL hM h1 h5 h2 h3 hR rfl hst hd rfl kk
theorem v_cs2r (hC : Cx X E cc own nL R0) {M : MT} {idx : Nat} {x0 x1 : Value} {v : Value} (hL : LkS own idx M 2) (hM : Ct (xl X) E M [x0, x1] σ μ (some v) σ2 μ2) (hR : rmOk R0 M) (hst : (st.map fun v => v.category).sum ≤ 8) (hd : decode cc pc = .ok (.invokestatic idx, 3)) (kk : V X E (pc + 3) L (v :: st) σ2 μ2) : V X E pc L (x1 :: x0 :: st) σ μ := v_callS (As := [x0, x1]) hC hL hM hR rfl hst hd rfl kk
theorem v_cv2 (hC : Cx X E cc own nL R0) {M : MT} {k idx : Nat} {x0 x1 : Value} (hL : LkV own idx M 2) (hr : rcv k M) (hM : Ct (xl X) E M [.ref (adr E k), x0, x1] σ μ (none) σ2 μ2) (hR : rmOk R0 M) (hst : (st.map fun v => v.category).sum ≤ 8) (hd : decode cc pc = .ok (.invokevirtual idx, 3)) (kk : V X E (pc + 3) L (st) σ2 μ2) : V X E pc L (x1 :: x0 :: .ref (adr E k) :: st) σ μ := by
  obtain ⟨h1, ci, q, h2, h3, h4⟩ := hr
  obtain ⟨fs, h5⟩ := h4 E σ μ
  exact v_callV (As := [x0, x1]) hC hL hM h1 h5 h2 h3 hR rfl hst hd rfl kk
theorem v_cs2 (hC : Cx X E cc own nL R0) {M : MT} {idx : Nat} {x0 x1 : Value} (hL : LkS own idx M 2) (hM : Ct (xl X) E M [x0, x1] σ μ (none) σ2 μ2) (hR : rmOk R0 M) (hst : (st.map fun v => v.category).sum ≤ 8) (hd : decode cc pc = .ok (.invokestatic idx, 3)) (kk : V X E (pc + 3) L (st) σ2 μ2) : V X E pc L (x1 :: x0 :: st) σ μ := v_callS (As := [x0, x1]) hC hL hM hR rfl hst hd rfl kk
theorem v_cv3r (hC : Cx X E cc own nL R0) {M : MT} {k idx : Nat} {x0 x1 x2 : Value} {v : Value} (hL : LkV own idx M 3) (hr : rcv k M) (hM : Ct (xl X) E M [.ref (adr E k), x0, x1, x2] σ μ (some v) σ2 μ2) (hR : rmOk R0 M) (hst : (st.map fun v => v.category).sum ≤ 8) (hd : decode cc pc = .ok (.invokevirtual idx, 3)) (kk : V X E (pc + 3) L (v :: st) σ2 μ2) : V X E pc L (x2 :: x1 :: x0 :: .ref (adr E k) :: st) σ μ := by
  obtain ⟨h1, ci, q, h2, h3, h4⟩ := hr
  obtain ⟨fs, h5⟩ := h4 E σ μ
  exact v_callV (As := [x0, x1, x2]) hC hL hM h1 h5 h2 h3 hR rfl hst hd rfl kk
theorem v_cs3r (hC : Cx X E cc own nL R0) {M : MT} {idx : Nat} {x0 x1 x2 : Value} {v : Value} (hL : LkS own idx M 3) (hM : Ct (xl X) E M [x0, x1, x2] σ μ (some v) σ2 μ2) (hR : rmOk R0 M) (hst : (st.map fun v => v.category).sum ≤ 8) (hd : decode cc pc = .ok (.invokestatic idx, 3)) (kk : V X E (pc + 3) L (v :: st) σ2 μ2) : V X E pc L (x2 :: x1 :: x0 :: st) σ μ := v_callS (As := [x0, x1, x2]) hC hL hM hR rfl hst hd rfl kk
theorem v_cv3 (hC : Cx X E cc own nL R0) {M : MT} {k idx : Nat} {x0 x1 x2 : Value} (hL : LkV own idx M 3) (hr : rcv k M) (hM : Ct (xl X) E M [.ref (adr E k), x0, x1, x2] σ μ (none) σ2 μ2) (hR : rmOk R0 M) (hst : (st.map fun v => v.category).sum ≤ 8) (hd : decode cc pc = .ok (.invokevirtual idx, 3)) (kk : V X E (pc + 3) L (st) σ2 μ2) : V X E pc L (x2 :: x1 :: x0 :: .ref (adr E k) :: st) σ μ := by
  obtain ⟨h1, ci, q, h2, h3, h4⟩ := hr
  obtain ⟨fs, h5⟩ := h4 E σ μ
  exact v_callV (As := [x0, x1, x2]) hC hL hM h1 h5 h2 h3 hR rfl hst hd rfl kk
theorem v_cs3 (hC : Cx X E cc own nL R0) {M : MT} {idx : Nat} {x0 x1 x2 : Value} (hL : LkS own idx M 3) (hM : Ct (xl X) E M [x0, x1, x2] σ μ (none) σ2 μ2) (hR : rmOk R0 M) (hst : (st.map fun v => v.category).sum ≤ 8) (hd : decode cc pc = .ok (.invokestatic idx, 3)) (kk : V X E (pc + 3) L (st) σ2 μ2) : V X E pc L (x2 :: x1 :: x0 :: st) σ μ := v_callS (As := [x0, x1, x2]) hC hL hM hR rfl hst hd rfl kk
theorem v_cv4r (hC : Cx X E cc own nL R0) {M : MT} {k idx : Nat} {x0 x1 x2 x3 : Value} {v : Value} (hL : LkV own idx M 4) (hr : rcv k M) (hM : Ct (xl X) E M [.ref (adr E k), x0, x1, x2, x3] σ μ (some v) σ2 μ2) (hR : rmOk R0 M) (hst : (st.map fun v => v.category).sum ≤ 8) (hd : decode cc pc = .ok (.invokevirtual idx, 3)) (kk : V X E (pc + 3) L (v :: st) σ2 μ2) : V X E pc L (x3 :: x2 :: x1 :: x0 :: .ref (adr E k) :: st) σ μ := by
  obtain ⟨h1, ci, q, h2, h3, h4⟩ := hr
  obtain ⟨fs, h5⟩ := h4 E σ μ
  exact v_callV (As := [x0, x1, x2, x3]) hC hL hM h1 h5 h2 h3 hR rfl hst hd rfl kk
theorem v_cs4r (hC : Cx X E cc own nL R0) {M : MT} {idx : Nat} {x0 x1 x2 x3 : Value} {v : Value} (hL : LkS own idx M 4) (hM : Ct (xl X) E M [x0, x1, x2, x3] σ μ (some v) σ2 μ2) (hR : rmOk R0 M) (hst : (st.map fun v => v.category).sum ≤ 8) (hd : decode cc pc = .ok (.invokestatic idx, 3)) (kk : V X E (pc + 3) L (v :: st) σ2 μ2) : V X E pc L (x3 :: x2 :: x1 :: x0 :: st) σ μ := v_callS (As := [x0, x1, x2, x3]) hC hL hM hR rfl hst hd rfl kk
theorem v_cv4 (hC : Cx X E cc own nL R0) {M : MT} {k idx : Nat} {x0 x1 x2 x3 : Value} (hL : LkV own idx M 4) (hr : rcv k M) (hM : Ct (xl X) E M [.ref (adr E k), x0, x1, x2, x3] σ μ (none) σ2 μ2) (hR : rmOk R0 M) (hst : (st.map fun v => v.category).sum ≤ 8) (hd : decode cc pc = .ok (.invokevirtual idx, 3)) (kk : V X E (pc + 3) L (st) σ2 μ2) : V X E pc L (x3 :: x2 :: x1 :: x0 :: .ref (adr E k) :: st) σ μ := by
  obtain ⟨h1, ci, q, h2, h3, h4⟩ := hr
  obtain ⟨fs, h5⟩ := h4 E σ μ
  exact v_callV (As := [x0, x1, x2, x3]) hC hL hM h1 h5 h2 h3 hR rfl hst hd rfl kk
theorem v_cs4 (hC : Cx X E cc own nL R0) {M : MT} {idx : Nat} {x0 x1 x2 x3 : Value} (hL : LkS own idx M 4) (hM : Ct (xl X) E M [x0, x1, x2, x3] σ μ (none) σ2 μ2) (hR : rmOk R0 M) (hst : (st.map fun v => v.category).sum ≤ 8) (hd : decode cc pc = .ok (.invokestatic idx, 3)) (kk : V X E (pc + 3) L (st) σ2 μ2) : V X E pc L (x3 :: x2 :: x1 :: x0 :: st) σ μ := v_callS (As := [x0, x1, x2, x3]) hC hL hM hR rfl hst hd rfl kk
theorem v_cv5r (hC : Cx X E cc own nL R0) {M : MT} {k idx : Nat} {x0 x1 x2 x3 x4 : Value} {v : Value} (hL : LkV own idx M 5) (hr : rcv k M) (hM : Ct (xl X) E M [.ref (adr E k), x0, x1, x2, x3, x4] σ μ (some v) σ2 μ2) (hR : rmOk R0 M) (hst : (st.map fun v => v.category).sum ≤ 8) (hd : decode cc pc = .ok (.invokevirtual idx, 3)) (kk : V X E (pc + 3) L (v :: st) σ2 μ2) : V X E pc L (x4 :: x3 :: x2 :: x1 :: x0 :: .ref (adr E k) :: st) σ μ := by
  obtain ⟨h1, ci, q, h2, h3, h4⟩ := hr
  obtain ⟨fs, h5⟩ := h4 E σ μ
  exact v_callV (As := [x0, x1, x2, x3, x4]) hC hL hM h1 h5 h2 h3 hR rfl hst hd rfl kk
theorem v_cs5r (hC : Cx X E cc own nL R0) {M : MT} {idx : Nat} {x0 x1 x2 x3 x4 : Value} {v : Value} (hL : LkS own idx M 5) (hM : Ct (xl X) E M [x0, x1, x2, x3, x4] σ μ (some v) σ2 μ2) (hR : rmOk R0 M) (hst : (st.map fun v => v.category).sum ≤ 8) (hd : decode cc pc = .ok (.invokestatic idx, 3)) (kk : V X E (pc + 3) L (v :: st) σ2 μ2) : V X E pc L (x4 :: x3 :: x2 :: x1 :: x0 :: st) σ μ := v_callS (As := [x0, x1, x2, x3, x4]) hC hL hM hR rfl hst hd rfl kk
theorem v_cv5 (hC : Cx X E cc own nL R0) {M : MT} {k idx : Nat} {x0 x1 x2 x3 x4 : Value} (hL : LkV own idx M 5) (hr : rcv k M) (hM : Ct (xl X) E M [.ref (adr E k), x0, x1, x2, x3, x4] σ μ (none) σ2 μ2) (hR : rmOk R0 M) (hst : (st.map fun v => v.category).sum ≤ 8) (hd : decode cc pc = .ok (.invokevirtual idx, 3)) (kk : V X E (pc + 3) L (st) σ2 μ2) : V X E pc L (x4 :: x3 :: x2 :: x1 :: x0 :: .ref (adr E k) :: st) σ μ := by
  obtain ⟨h1, ci, q, h2, h3, h4⟩ := hr
  obtain ⟨fs, h5⟩ := h4 E σ μ
  exact v_callV (As := [x0, x1, x2, x3, x4]) hC hL hM h1 h5 h2 h3 hR rfl hst hd rfl kk
theorem v_cs5 (hC : Cx X E cc own nL R0) {M : MT} {idx : Nat} {x0 x1 x2 x3 x4 : Value} (hL : LkS own idx M 5) (hM : Ct (xl X) E M [x0, x1, x2, x3, x4] σ μ (none) σ2 μ2) (hR : rmOk R0 M) (hst : (st.map fun v => v.category).sum ≤ 8) (hd : decode cc pc = .ok (.invokestatic idx, 3)) (kk : V X E (pc + 3) L (st) σ2 μ2) : V X E pc L (x4 :: x3 :: x2 :: x1 :: x0 :: st) σ μ := v_callS (As := [x0, x1, x2, x3, x4]) hC hL hM hR rfl hst hd rfl kk
end
end
section
set_option maxRecDepth 100000 in
theorem ini_X0 : Cond.initialized RX0 ∈ gT := mem_gT 73 (by decide +kernel) (by decide +kernel)
set_option maxRecDepth 100000 in
theorem ini_X1 : Cond.initialized RX1 ∈ gT := mem_gT 74 (by decide +kernel) (by decide +kernel)
set_option maxRecDepth 100000 in
theorem ini_X2 : Cond.initialized RX2 ∈ gT := mem_gT 75 (by decide +kernel) (by decide +kernel)
set_option maxRecDepth 100000 in
theorem ini_X3 : Cond.initialized RX3 ∈ gT := mem_gT 72 (by decide +kernel) (by decide +kernel)
set_option maxRecDepth 100000 in
theorem ini_X4 : Cond.initialized RX4 ∈ gT := mem_gT 70 (by decide +kernel) (by decide +kernel)
set_option maxRecDepth 100000 in
theorem ini_X5 : Cond.initialized RX5 ∈ gT := mem_gT 71 (by decide +kernel) (by decide +kernel)
set_option maxRecDepth 100000 in
theorem ini_X6 : Cond.initialized RX6 ∈ gT := mem_gT 69 (by decide +kernel) (by decide +kernel)
set_option maxRecDepth 100000 in
theorem ini_X7 : Cond.initialized RX7 ∈ gT := mem_gT 76 (by decide +kernel) (by decide +kernel)
set_option maxRecDepth 100000 in
theorem ini_Math : Cond.initialized "java/lang/Math" ∈ gT := mem_gT 77 (by decide +kernel) (by decide +kernel)
set_option maxRecDepth 100000 in
theorem ini_System : Cond.initialized "java/lang/System" ∈ gT := mem_gT 78 (by decide +kernel) (by decide +kernel)
set_option maxRecDepth 100000 in
theorem st_max : Cond.static Lib.Math.max.name ∈ gT := mem_gT 333 (by decide +kernel) (by decide +kernel)
set_option maxRecDepth 100000 in
theorem co_max : Cond.code Lib.Math.max.name Lib.Math.max.code 2 (some .int) ∈ gT := mem_gT 334 (by decide +kernel) (by decide +kernel)
set_option maxRecDepth 100000 in
theorem st_min : Cond.static Lib.Math.min.name ∈ gT := mem_gT 336 (by decide +kernel) (by decide +kernel)
set_option maxRecDepth 100000 in
theorem co_min : Cond.code Lib.Math.min.name Lib.Math.min.code 2 (some .int) ∈ gT := mem_gT 337 (by decide +kernel) (by decide +kernel)
set_option maxRecDepth 100000 in
theorem st_abs : Cond.static Lib.Math.abs.name ∈ gT := mem_gT 330 (by decide +kernel) (by decide +kernel)
set_option maxRecDepth 100000 in
theorem co_abs : Cond.code Lib.Math.abs.name Lib.Math.abs.code 1 (some .int) ∈ gT := mem_gT 331 (by decide +kernel) (by decide +kernel)
set_option maxRecDepth 100000 in
theorem st_acopy : Cond.static arraycopyName ∈ gT := mem_gT 403 (by decide +kernel) (by decide +kernel)
set_option maxRecDepth 100000 in
theorem na_acopy : Cond.native arraycopyName ∈ gT := mem_gT 404 (by decide +kernel) (by decide +kernel)
abbrev MX0_add : MT := (yX0_add, cX0_add, 5, (some .int), { frames := 0, cells := 0, slots := 0, locals := 0 })
set_option maxRecDepth 100000 in
theorem ok_X0_add : okM MX0_add 3 := ⟨ini_X0, mem_gT 560 rfl (by decide +kernel), (by decide +kernel)⟩
set_option maxRecDepth 100000 in
theorem im_X0_add : Cond.instanceMethod yX0_add ∈ gT := mem_gT 559 (by decide +kernel) (by decide +kernel)
set_option maxRecDepth 100000 in
theorem se_X0_add : Cond.selects yX0_add.cls yX0_add yX0_add ∈ gT := mem_gT 28 (by decide +kernel) (by decide +kernel)
abbrev MX0_nextUnserved : MT := (yX0_nextUnserved, cX0_nextUnserved, 3, (some .int), { frames := 0, cells := 0, slots := 0, locals := 0 })
set_option maxRecDepth 100000 in
theorem ok_X0_nextUnserved : okM MX0_nextUnserved 0 := ⟨ini_X0, mem_gT 573 rfl (by decide +kernel), (by decide +kernel)⟩
set_option maxRecDepth 100000 in
theorem im_X0_nextUnserved : Cond.instanceMethod yX0_nextUnserved ∈ gT := mem_gT 572 (by decide +kernel) (by decide +kernel)
set_option maxRecDepth 100000 in
theorem se_X0_nextUnserved : Cond.selects yX0_nextUnserved.cls yX0_nextUnserved yX0_nextUnserved ∈ gT := mem_gT 30 (by decide +kernel) (by decide +kernel)
abbrev MX0_take : MT := (yX0_take, cX0_take, 2, none, { frames := 2, cells := 0, slots := 0, locals := 47 })
set_option maxRecDepth 100000 in
theorem ok_X0_take : okM MX0_take 1 := ⟨ini_X0, mem_gT 681 rfl (by decide +kernel), (by decide +kernel)⟩
set_option maxRecDepth 100000 in
theorem im_X0_take : Cond.instanceMethod yX0_take ∈ gT := mem_gT 680 (by decide +kernel) (by decide +kernel)
set_option maxRecDepth 100000 in
theorem se_X0_take : Cond.selects yX0_take.cls yX0_take yX0_take ∈ gT := mem_gT 46 (by decide +kernel) (by decide +kernel)
abbrev MX1_has : MT := (yX1_has, cX1_has, 3, (some .boolean), { frames := 0, cells := 0, slots := 0, locals := 0 })
set_option maxRecDepth 100000 in
theorem ok_X1_has : okM MX1_has 2 := ⟨ini_X1, mem_gT 616 rfl (by decide +kernel), (by decide +kernel)⟩
set_option maxRecDepth 100000 in
theorem im_X1_has : Cond.instanceMethod yX1_has ∈ gT := mem_gT 615 (by decide +kernel) (by decide +kernel)
set_option maxRecDepth 100000 in
theorem se_X1_has : Cond.selects yX1_has.cls yX1_has yX1_has ∈ gT := mem_gT 36 (by decide +kernel) (by decide +kernel)
abbrev MX1_at : MT := (yX1_at, cX1_at, 3, (some .int), { frames := 0, cells := 0, slots := 0, locals := 0 })
set_option maxRecDepth 100000 in
theorem ok_X1_at : okM MX1_at 2 := ⟨ini_X1, mem_gT 633 rfl (by decide +kernel), (by decide +kernel)⟩
set_option maxRecDepth 100000 in
theorem im_X1_at : Cond.instanceMethod yX1_at ∈ gT := mem_gT 632 (by decide +kernel) (by decide +kernel)
set_option maxRecDepth 100000 in
theorem se_X1_at : Cond.selects yX1_at.cls yX1_at yX1_at ∈ gT := mem_gT 39 (by decide +kernel) (by decide +kernel)
abbrev MX1_write : MT := (yX1_write, cX1_write, 4, none, { frames := 1, cells := 0, slots := 0, locals := 22 })
set_option maxRecDepth 100000 in
theorem ok_X1_write : okM MX1_write 3 := ⟨ini_X1, mem_gT 620 rfl (by decide +kernel), (by decide +kernel)⟩
set_option maxRecDepth 100000 in
theorem im_X1_write : Cond.instanceMethod yX1_write ∈ gT := mem_gT 619 (by decide +kernel) (by decide +kernel)
set_option maxRecDepth 100000 in
theorem se_X1_write : Cond.selects yX1_write.cls yX1_write yX1_write ∈ gT := mem_gT 37 (by decide +kernel) (by decide +kernel)
abbrev MX1_take : MT := (yX1_take, cX1_take, 2, none, { frames := 2, cells := 0, slots := 0, locals := 47 })
set_option maxRecDepth 100000 in
theorem ok_X1_take : okM MX1_take 1 := ⟨ini_X1, mem_gT 686 rfl (by decide +kernel), (by decide +kernel)⟩
set_option maxRecDepth 100000 in
theorem im_X1_take : Cond.instanceMethod yX1_take ∈ gT := mem_gT 685 (by decide +kernel) (by decide +kernel)
set_option maxRecDepth 100000 in
theorem se_X1_take : Cond.selects yX1_take.cls yX1_take yX1_take ∈ gT := mem_gT 47 (by decide +kernel) (by decide +kernel)
abbrev MX2_isMissing : MT := (yX2_isMissing, cX2_isMissing, 1, (some .boolean), { frames := 0, cells := 0, slots := 0, locals := 0 })
set_option maxRecDepth 100000 in
theorem ok_X2_isMissing : okM MX2_isMissing 0 := ⟨ini_X2, mem_gT 382 rfl (by decide +kernel), (by decide +kernel)⟩
set_option maxRecDepth 100000 in
theorem im_X2_isMissing : Cond.instanceMethod yX2_isMissing ∈ gT := mem_gT 381 (by decide +kernel) (by decide +kernel)
set_option maxRecDepth 100000 in
theorem se_X2_isMissing : Cond.selects yX2_isMissing.cls yX2_isMissing yX2_isMissing ∈ gT := mem_gT 9 (by decide +kernel) (by decide +kernel)
abbrev MX2_start : MT := (yX2_start, cX2_start, 3, (some .int), { frames := 1, cells := 0, slots := 0, locals := 22 })
set_option maxRecDepth 100000 in
theorem ok_X2_start : okM MX2_start 2 := ⟨ini_X2, mem_gT 371 rfl (by decide +kernel), (by decide +kernel)⟩
set_option maxRecDepth 100000 in
theorem im_X2_start : Cond.instanceMethod yX2_start ∈ gT := mem_gT 370 (by decide +kernel) (by decide +kernel)
set_option maxRecDepth 100000 in
theorem se_X2_start : Cond.selects yX2_start.cls yX2_start yX2_start ∈ gT := mem_gT 8 (by decide +kernel) (by decide +kernel)
abbrev MX2_write : MT := (yX2_write, cX2_write, 3, none, { frames := 1, cells := 0, slots := 0, locals := 20 })
set_option maxRecDepth 100000 in
theorem ok_X2_write : okM MX2_write 2 := ⟨ini_X2, mem_gT 387 rfl (by decide +kernel), (by decide +kernel)⟩
set_option maxRecDepth 100000 in
theorem im_X2_write : Cond.instanceMethod yX2_write ∈ gT := mem_gT 386 (by decide +kernel) (by decide +kernel)
set_option maxRecDepth 100000 in
theorem se_X2_write : Cond.selects yX2_write.cls yX2_write yX2_write ∈ gT := mem_gT 10 (by decide +kernel) (by decide +kernel)
abbrev MX2_hasPart : MT := (yX2_hasPart, cX2_hasPart, 3, (some .boolean), { frames := 0, cells := 0, slots := 0, locals := 0 })
set_option maxRecDepth 100000 in
theorem ok_X2_hasPart : okM MX2_hasPart 2 := ⟨ini_X2, mem_gT 401 rfl (by decide +kernel), (by decide +kernel)⟩
set_option maxRecDepth 100000 in
theorem im_X2_hasPart : Cond.instanceMethod yX2_hasPart ∈ gT := mem_gT 400 (by decide +kernel) (by decide +kernel)
set_option maxRecDepth 100000 in
theorem se_X2_hasPart : Cond.selects yX2_hasPart.cls yX2_hasPart yX2_hasPart ∈ gT := mem_gT 11 (by decide +kernel) (by decide +kernel)
abbrev MX2_startsWithNumbers : MT := (yX2_startsWithNumbers, cX2_startsWithNumbers, 3, (some .boolean), { frames := 1, cells := 0, slots := 0, locals := 20 })
set_option maxRecDepth 100000 in
theorem ok_X2_startsWithNumbers : okM MX2_startsWithNumbers 1 := ⟨ini_X2, mem_gT 416 rfl (by decide +kernel), (by decide +kernel)⟩
set_option maxRecDepth 100000 in
theorem im_X2_startsWithNumbers : Cond.instanceMethod yX2_startsWithNumbers ∈ gT := mem_gT 415 (by decide +kernel) (by decide +kernel)
set_option maxRecDepth 100000 in
theorem se_X2_startsWithNumbers : Cond.selects yX2_startsWithNumbers.cls yX2_startsWithNumbers yX2_startsWithNumbers ∈ gT := mem_gT 12 (by decide +kernel) (by decide +kernel)
abbrev MX2_startsWithAmounts : MT := (yX2_startsWithAmounts, cX2_startsWithAmounts, 3, (some .boolean), { frames := 2, cells := 0, slots := 0, locals := 43 })
set_option maxRecDepth 100000 in
theorem ok_X2_startsWithAmounts : okM MX2_startsWithAmounts 1 := ⟨ini_X2, mem_gT 421 rfl (by decide +kernel), (by decide +kernel)⟩
set_option maxRecDepth 100000 in
theorem im_X2_startsWithAmounts : Cond.instanceMethod yX2_startsWithAmounts ∈ gT := mem_gT 420 (by decide +kernel) (by decide +kernel)
set_option maxRecDepth 100000 in
theorem se_X2_startsWithAmounts : Cond.selects yX2_startsWithAmounts.cls yX2_startsWithAmounts yX2_startsWithAmounts ∈ gT := mem_gT 13 (by decide +kernel) (by decide +kernel)
abbrev MX2_whole : MT := (yX2_whole, cX2_whole, 2, (some .int), { frames := 1, cells := 0, slots := 0, locals := 22 })
set_option maxRecDepth 100000 in
theorem ok_X2_whole : okM MX2_whole 1 := ⟨ini_X2, mem_gT 425 rfl (by decide +kernel), (by decide +kernel)⟩
set_option maxRecDepth 100000 in
theorem im_X2_whole : Cond.instanceMethod yX2_whole ∈ gT := mem_gT 424 (by decide +kernel) (by decide +kernel)
set_option maxRecDepth 100000 in
theorem se_X2_whole : Cond.selects yX2_whole.cls yX2_whole yX2_whole ∈ gT := mem_gT 14 (by decide +kernel) (by decide +kernel)
abbrev MX2_isNoNumber : MT := (yX2_isNoNumber, cX2_isNoNumber, 1, (some .boolean), { frames := 0, cells := 0, slots := 0, locals := 0 })
set_option maxRecDepth 100000 in
theorem ok_X2_isNoNumber : okM MX2_isNoNumber 1 := ⟨ini_X2, mem_gT 390 rfl (by decide +kernel), (by decide +kernel)⟩
set_option maxRecDepth 100000 in
theorem st_X2_isNoNumber : Cond.static yX2_isNoNumber ∈ gT := mem_gT 389 (by decide +kernel) (by decide +kernel)
abbrev MX2_cut : MT := (yX2_cut, cX2_cut, 3, (some .int), { frames := 0, cells := 0, slots := 0, locals := 0 })
set_option maxRecDepth 100000 in
theorem ok_X2_cut : okM MX2_cut 1 := ⟨ini_X2, mem_gT 428 rfl (by decide +kernel), (by decide +kernel)⟩
set_option maxRecDepth 100000 in
theorem st_X2_cut : Cond.static yX2_cut ∈ gT := mem_gT 427 (by decide +kernel) (by decide +kernel)
abbrev MX3_row : MT := (yX3_row, cX3_row, 2, (some .int), { frames := 0, cells := 0, slots := 0, locals := 0 })
set_option maxRecDepth 100000 in
theorem ok_X3_row : okM MX3_row 2 := ⟨ini_X3, mem_gT 137 rfl (by decide +kernel), (by decide +kernel)⟩
set_option maxRecDepth 100000 in
theorem st_X3_row : Cond.static yX3_row ∈ gT := mem_gT 136 (by decide +kernel) (by decide +kernel)
abbrev MX3_keepsOrder : MT := (yX3_keepsOrder, cX3_keepsOrder, 5, (some .boolean), { frames := 1, cells := 0, slots := 0, locals := 21 })
set_option maxRecDepth 100000 in
theorem ok_X3_keepsOrder : okM MX3_keepsOrder 4 := ⟨ini_X3, mem_gT 354 rfl (by decide +kernel), (by decide +kernel)⟩
set_option maxRecDepth 100000 in
theorem im_X3_keepsOrder : Cond.instanceMethod yX3_keepsOrder ∈ gT := mem_gT 353 (by decide +kernel) (by decide +kernel)
set_option maxRecDepth 100000 in
theorem se_X3_keepsOrder : Cond.selects yX3_keepsOrder.cls yX3_keepsOrder yX3_keepsOrder ∈ gT := mem_gT 7 (by decide +kernel) (by decide +kernel)
abbrev MX3_startTrial : MT := (yX3_startTrial, cX3_startTrial, 4, none, { frames := 1, cells := 0, slots := 0, locals := 21 })
set_option maxRecDepth 100000 in
theorem ok_X3_startTrial : okM MX3_startTrial 2 := ⟨ini_X3, mem_gT 641 rfl (by decide +kernel), (by decide +kernel)⟩
set_option maxRecDepth 100000 in
theorem im_X3_startTrial : Cond.instanceMethod yX3_startTrial ∈ gT := mem_gT 640 (by decide +kernel) (by decide +kernel)
set_option maxRecDepth 100000 in
theorem se_X3_startTrial : Cond.selects yX3_startTrial.cls yX3_startTrial yX3_startTrial ∈ gT := mem_gT 40 (by decide +kernel) (by decide +kernel)
abbrev MX3_tryFactor : MT := (yX3_tryFactor, cX3_tryFactor, 5, none, { frames := 1, cells := 0, slots := 0, locals := 21 })
set_option maxRecDepth 100000 in
theorem ok_X3_tryFactor : okM MX3_tryFactor 3 := ⟨ini_X3, mem_gT 646 rfl (by decide +kernel), (by decide +kernel)⟩
set_option maxRecDepth 100000 in
theorem im_X3_tryFactor : Cond.instanceMethod yX3_tryFactor ∈ gT := mem_gT 645 (by decide +kernel) (by decide +kernel)
set_option maxRecDepth 100000 in
theorem se_X3_tryFactor : Cond.selects yX3_tryFactor.cls yX3_tryFactor yX3_tryFactor ∈ gT := mem_gT 41 (by decide +kernel) (by decide +kernel)
abbrev MX3_take : MT := (yX3_take, cX3_take, 2, none, { frames := 2, cells := 0, slots := 0, locals := 47 })
set_option maxRecDepth 100000 in
theorem ok_X3_take : okM MX3_take 1 := ⟨ini_X3, mem_gT 676 rfl (by decide +kernel), (by decide +kernel)⟩
set_option maxRecDepth 100000 in
theorem im_X3_take : Cond.instanceMethod yX3_take ∈ gT := mem_gT 675 (by decide +kernel) (by decide +kernel)
set_option maxRecDepth 100000 in
theorem se_X3_take : Cond.selects yX3_take.cls yX3_take yX3_take ∈ gT := mem_gT 45 (by decide +kernel) (by decide +kernel)
abbrev MX4_drawOf : MT := (yX4_drawOf, cX4_drawOf, 3, (some .int), { frames := 0, cells := 0, slots := 0, locals := 0 })
set_option maxRecDepth 100000 in
theorem ok_X4_drawOf : okM MX4_drawOf 2 := ⟨ini_X4, mem_gT 320 rfl (by decide +kernel), (by decide +kernel)⟩
set_option maxRecDepth 100000 in
theorem im_X4_drawOf : Cond.instanceMethod yX4_drawOf ∈ gT := mem_gT 319 (by decide +kernel) (by decide +kernel)
set_option maxRecDepth 100000 in
theorem se_X4_drawOf : Cond.selects yX4_drawOf.cls yX4_drawOf yX4_drawOf ∈ gT := mem_gT 5 (by decide +kernel) (by decide +kernel)
abbrev MX4_setDraw : MT := (yX4_setDraw, cX4_setDraw, 4, none, { frames := 0, cells := 0, slots := 0, locals := 0 })
set_option maxRecDepth 100000 in
theorem ok_X4_setDraw : okM MX4_setDraw 3 := ⟨ini_X4, mem_gT 437 rfl (by decide +kernel), (by decide +kernel)⟩
set_option maxRecDepth 100000 in
theorem im_X4_setDraw : Cond.instanceMethod yX4_setDraw ∈ gT := mem_gT 436 (by decide +kernel) (by decide +kernel)
set_option maxRecDepth 100000 in
theorem se_X4_setDraw : Cond.selects yX4_setDraw.cls yX4_setDraw yX4_setDraw ∈ gT := mem_gT 15 (by decide +kernel) (by decide +kernel)
abbrev MX4_sumOfDraws : MT := (yX4_sumOfDraws, cX4_sumOfDraws, 4, (some .int), { frames := 1, cells := 0, slots := 0, locals := 22 })
set_option maxRecDepth 100000 in
theorem ok_X4_sumOfDraws : okM MX4_sumOfDraws 1 := ⟨ini_X4, mem_gT 316 rfl (by decide +kernel), (by decide +kernel)⟩
set_option maxRecDepth 100000 in
theorem im_X4_sumOfDraws : Cond.instanceMethod yX4_sumOfDraws ∈ gT := mem_gT 315 (by decide +kernel) (by decide +kernel)
set_option maxRecDepth 100000 in
theorem se_X4_sumOfDraws : Cond.selects yX4_sumOfDraws.cls yX4_sumOfDraws yX4_sumOfDraws ∈ gT := mem_gT 4 (by decide +kernel) (by decide +kernel)
abbrev MX4_counted : MT := (yX4_counted, cX4_counted, 3, (some .int), { frames := 1, cells := 0, slots := 0, locals := 22 })
set_option maxRecDepth 100000 in
theorem ok_X4_counted : okM MX4_counted 2 := ⟨ini_X4, mem_gT 450 rfl (by decide +kernel), (by decide +kernel)⟩
set_option maxRecDepth 100000 in
theorem im_X4_counted : Cond.instanceMethod yX4_counted ∈ gT := mem_gT 449 (by decide +kernel) (by decide +kernel)
set_option maxRecDepth 100000 in
theorem se_X4_counted : Cond.selects yX4_counted.cls yX4_counted yX4_counted ∈ gT := mem_gT 16 (by decide +kernel) (by decide +kernel)
abbrev MX4_rowBetween : MT := (yX4_rowBetween, cX4_rowBetween, 3, (some .int), { frames := 2, cells := 0, slots := 0, locals := 44 })
set_option maxRecDepth 100000 in
theorem ok_X4_rowBetween : okM MX4_rowBetween 2 := ⟨ini_X4, mem_gT 486 rfl (by decide +kernel), (by decide +kernel)⟩
set_option maxRecDepth 100000 in
theorem im_X4_rowBetween : Cond.instanceMethod yX4_rowBetween ∈ gT := mem_gT 485 (by decide +kernel) (by decide +kernel)
set_option maxRecDepth 100000 in
theorem se_X4_rowBetween : Cond.selects yX4_rowBetween.cls yX4_rowBetween yX4_rowBetween ∈ gT := mem_gT 21 (by decide +kernel) (by decide +kernel)
abbrev MX4_lowering : MT := (yX4_lowering, cX4_lowering, 8, (some .int), { frames := 3, cells := 0, slots := 0, locals := 66 })
set_option maxRecDepth 100000 in
theorem ok_X4_lowering : okM MX4_lowering 4 := ⟨ini_X4, mem_gT 482 rfl (by decide +kernel), (by decide +kernel)⟩
set_option maxRecDepth 100000 in
theorem im_X4_lowering : Cond.instanceMethod yX4_lowering ∈ gT := mem_gT 481 (by decide +kernel) (by decide +kernel)
set_option maxRecDepth 100000 in
theorem se_X4_lowering : Cond.selects yX4_lowering.cls yX4_lowering yX4_lowering ∈ gT := mem_gT 20 (by decide +kernel) (by decide +kernel)
abbrev MX4_loweringOfOneMore : MT := (yX4_loweringOfOneMore, cX4_loweringOfOneMore, 8, (some .int), { frames := 3, cells := 0, slots := 0, locals := 66 })
set_option maxRecDepth 100000 in
theorem ok_X4_loweringOfOneMore : okM MX4_loweringOfOneMore 4 := ⟨ini_X4, mem_gT 550 rfl (by decide +kernel), (by decide +kernel)⟩
set_option maxRecDepth 100000 in
theorem im_X4_loweringOfOneMore : Cond.instanceMethod yX4_loweringOfOneMore ∈ gT := mem_gT 549 (by decide +kernel) (by decide +kernel)
set_option maxRecDepth 100000 in
theorem se_X4_loweringOfOneMore : Cond.selects yX4_loweringOfOneMore.cls yX4_loweringOfOneMore yX4_loweringOfOneMore ∈ gT := mem_gT 27 (by decide +kernel) (by decide +kernel)
abbrev MX4_raisedByRain : MT := (yX4_raisedByRain, cX4_raisedByRain, 4, (some .int), { frames := 1, cells := 0, slots := 0, locals := 21 })
set_option maxRecDepth 100000 in
theorem ok_X4_raisedByRain : okM MX4_raisedByRain 1 := ⟨ini_X4, mem_gT 477 rfl (by decide +kernel), (by decide +kernel)⟩
set_option maxRecDepth 100000 in
theorem im_X4_raisedByRain : Cond.instanceMethod yX4_raisedByRain ∈ gT := mem_gT 476 (by decide +kernel) (by decide +kernel)
set_option maxRecDepth 100000 in
theorem se_X4_raisedByRain : Cond.selects yX4_raisedByRain.cls yX4_raisedByRain yX4_raisedByRain ∈ gT := mem_gT 19 (by decide +kernel) (by decide +kernel)
abbrev MX4_headOf : MT := (yX4_headOf, cX4_headOf, 5, (some .int), { frames := 4, cells := 0, slots := 0, locals := 93 })
set_option maxRecDepth 100000 in
theorem ok_X4_headOf : okM MX4_headOf 2 := ⟨ini_X4, mem_gT 473 rfl (by decide +kernel), (by decide +kernel)⟩
set_option maxRecDepth 100000 in
theorem im_X4_headOf : Cond.instanceMethod yX4_headOf ∈ gT := mem_gT 472 (by decide +kernel) (by decide +kernel)
set_option maxRecDepth 100000 in
theorem se_X4_headOf : Cond.selects yX4_headOf.cls yX4_headOf yX4_headOf ∈ gT := mem_gT 18 (by decide +kernel) (by decide +kernel)
abbrev MX4_aboveLimit : MT := (yX4_aboveLimit, cX4_aboveLimit, 3, (some .int), { frames := 5, cells := 0, slots := 0, locals := 117 })
set_option maxRecDepth 100000 in
theorem ok_X4_aboveLimit : okM MX4_aboveLimit 2 := ⟨ini_X4, mem_gT 515 rfl (by decide +kernel), (by decide +kernel)⟩
set_option maxRecDepth 100000 in
theorem im_X4_aboveLimit : Cond.instanceMethod yX4_aboveLimit ∈ gT := mem_gT 514 (by decide +kernel) (by decide +kernel)
set_option maxRecDepth 100000 in
theorem se_X4_aboveLimit : Cond.selects yX4_aboveLimit.cls yX4_aboveLimit yX4_aboveLimit ∈ gT := mem_gT 23 (by decide +kernel) (by decide +kernel)
abbrev MX4_findSpare : MT := (yX4_findSpare, cX4_findSpare, 4, none, { frames := 6, cells := 0, slots := 0, locals := 139 })
set_option maxRecDepth 100000 in
theorem ok_X4_findSpare : okM MX4_findSpare 1 := ⟨ini_X4, mem_gT 536 rfl (by decide +kernel), (by decide +kernel)⟩
set_option maxRecDepth 100000 in
theorem im_X4_findSpare : Cond.instanceMethod yX4_findSpare ∈ gT := mem_gT 535 (by decide +kernel) (by decide +kernel)
set_option maxRecDepth 100000 in
theorem se_X4_findSpare : Cond.selects yX4_findSpare.cls yX4_findSpare yX4_findSpare ∈ gT := mem_gT 24 (by decide +kernel) (by decide +kernel)
abbrev MX4_useSpare : MT := (yX4_useSpare, cX4_useSpare, 6, none, { frames := 4, cells := 0, slots := 0, locals := 93 })
set_option maxRecDepth 100000 in
theorem ok_X4_useSpare : okM MX4_useSpare 3 := ⟨ini_X4, mem_gT 585 rfl (by decide +kernel), (by decide +kernel)⟩
set_option maxRecDepth 100000 in
theorem im_X4_useSpare : Cond.instanceMethod yX4_useSpare ∈ gT := mem_gT 584 (by decide +kernel) (by decide +kernel)
set_option maxRecDepth 100000 in
theorem se_X4_useSpare : Cond.selects yX4_useSpare.cls yX4_useSpare yX4_useSpare ∈ gT := mem_gT 33 (by decide +kernel) (by decide +kernel)
abbrev MX4_freeOf : MT := (yX4_freeOf, cX4_freeOf, 7, (some .int), { frames := 4, cells := 0, slots := 0, locals := 93 })
set_option maxRecDepth 100000 in
theorem ok_X4_freeOf : okM MX4_freeOf 2 := ⟨ini_X4, mem_gT 541 rfl (by decide +kernel), (by decide +kernel)⟩
set_option maxRecDepth 100000 in
theorem im_X4_freeOf : Cond.instanceMethod yX4_freeOf ∈ gT := mem_gT 540 (by decide +kernel) (by decide +kernel)
set_option maxRecDepth 100000 in
theorem se_X4_freeOf : Cond.selects yX4_freeOf.cls yX4_freeOf yX4_freeOf ∈ gT := mem_gT 25 (by decide +kernel) (by decide +kernel)
abbrev MX4_unserve : MT := (yX4_unserve, cX4_unserve, 4, none, { frames := 1, cells := 0, slots := 0, locals := 23 })
set_option maxRecDepth 100000 in
theorem ok_X4_unserve : okM MX4_unserve 1 := ⟨ini_X4, mem_gT 568 rfl (by decide +kernel), (by decide +kernel)⟩
set_option maxRecDepth 100000 in
theorem im_X4_unserve : Cond.instanceMethod yX4_unserve ∈ gT := mem_gT 567 (by decide +kernel) (by decide +kernel)
set_option maxRecDepth 100000 in
theorem se_X4_unserve : Cond.selects yX4_unserve.cls yX4_unserve yX4_unserve ∈ gT := mem_gT 29 (by decide +kernel) (by decide +kernel)
abbrev MX4_grant : MT := (yX4_grant, cX4_grant, 7, (some .int), { frames := 5, cells := 0, slots := 0, locals := 118 })
set_option maxRecDepth 100000 in
theorem ok_X4_grant : okM MX4_grant 3 := ⟨ini_X4, mem_gT 577 rfl (by decide +kernel), (by decide +kernel)⟩
set_option maxRecDepth 100000 in
theorem im_X4_grant : Cond.instanceMethod yX4_grant ∈ gT := mem_gT 576 (by decide +kernel) (by decide +kernel)
set_option maxRecDepth 100000 in
theorem se_X4_grant : Cond.selects yX4_grant.cls yX4_grant yX4_grant ∈ gT := mem_gT 31 (by decide +kernel) (by decide +kernel)
abbrev MX4_roomForDraws : MT := (yX4_roomForDraws, cX4_roomForDraws, 5, (some .int), { frames := 1, cells := 0, slots := 0, locals := 22 })
set_option maxRecDepth 100000 in
theorem ok_X4_roomForDraws : okM MX4_roomForDraws 2 := ⟨ini_X4, mem_gT 581 rfl (by decide +kernel), (by decide +kernel)⟩
set_option maxRecDepth 100000 in
theorem im_X4_roomForDraws : Cond.instanceMethod yX4_roomForDraws ∈ gT := mem_gT 580 (by decide +kernel) (by decide +kernel)
set_option maxRecDepth 100000 in
theorem se_X4_roomForDraws : Cond.selects yX4_roomForDraws.cls yX4_roomForDraws yX4_roomForDraws ∈ gT := mem_gT 32 (by decide +kernel) (by decide +kernel)
abbrev MX4_leastToHold : MT := (yX4_leastToHold, cX4_leastToHold, 6, (some .int), { frames := 5, cells := 0, slots := 0, locals := 117 })
set_option maxRecDepth 100000 in
theorem ok_X4_leastToHold : okM MX4_leastToHold 3 := ⟨ini_X4, mem_gT 597 rfl (by decide +kernel), (by decide +kernel)⟩
set_option maxRecDepth 100000 in
theorem im_X4_leastToHold : Cond.instanceMethod yX4_leastToHold ∈ gT := mem_gT 596 (by decide +kernel) (by decide +kernel)
set_option maxRecDepth 100000 in
theorem se_X4_leastToHold : Cond.selects yX4_leastToHold.cls yX4_leastToHold yX4_leastToHold ∈ gT := mem_gT 34 (by decide +kernel) (by decide +kernel)
abbrev MX4_mostToMove : MT := (yX4_mostToMove, cX4_mostToMove, 12, (some .int), { frames := 3, cells := 0, slots := 0, locals := 66 })
set_option maxRecDepth 100000 in
theorem ok_X4_mostToMove : okM MX4_mostToMove 3 := ⟨ini_X4, mem_gT 605 rfl (by decide +kernel), (by decide +kernel)⟩
set_option maxRecDepth 100000 in
theorem im_X4_mostToMove : Cond.instanceMethod yX4_mostToMove ∈ gT := mem_gT 604 (by decide +kernel) (by decide +kernel)
set_option maxRecDepth 100000 in
theorem se_X4_mostToMove : Cond.selects yX4_mostToMove.cls yX4_mostToMove yX4_mostToMove ∈ gT := mem_gT 35 (by decide +kernel) (by decide +kernel)
abbrev MX4_difference : MT := (yX4_difference, cX4_difference, 3, (some .int), { frames := 5, cells := 0, slots := 0, locals := 117 })
set_option maxRecDepth 100000 in
theorem ok_X4_difference : okM MX4_difference 2 := ⟨ini_X4, mem_gT 629 rfl (by decide +kernel), (by decide +kernel)⟩
set_option maxRecDepth 100000 in
theorem im_X4_difference : Cond.instanceMethod yX4_difference ∈ gT := mem_gT 628 (by decide +kernel) (by decide +kernel)
set_option maxRecDepth 100000 in
theorem se_X4_difference : Cond.selects yX4_difference.cls yX4_difference yX4_difference ∈ gT := mem_gT 38 (by decide +kernel) (by decide +kernel)
abbrev MX4_sumOfSquares : MT := (yX4_sumOfSquares, cX4_sumOfSquares, 7, (some .long), { frames := 6, cells := 0, slots := 0, locals := 139 })
set_option maxRecDepth 100000 in
theorem ok_X4_sumOfSquares : okM MX4_sumOfSquares 0 := ⟨ini_X4, mem_gT 651 rfl (by decide +kernel), (by decide +kernel)⟩
set_option maxRecDepth 100000 in
theorem im_X4_sumOfSquares : Cond.instanceMethod yX4_sumOfSquares ∈ gT := mem_gT 650 (by decide +kernel) (by decide +kernel)
set_option maxRecDepth 100000 in
theorem se_X4_sumOfSquares : Cond.selects yX4_sumOfSquares.cls yX4_sumOfSquares yX4_sumOfSquares ∈ gT := mem_gT 42 (by decide +kernel) (by decide +kernel)
abbrev MX4_take : MT := (yX4_take, cX4_take, 2, none, { frames := 3, cells := 0, slots := 0, locals := 68 })
set_option maxRecDepth 100000 in
theorem ok_X4_take : okM MX4_take 1 := ⟨ini_X4, mem_gT 665 rfl (by decide +kernel), (by decide +kernel)⟩
set_option maxRecDepth 100000 in
theorem im_X4_take : Cond.instanceMethod yX4_take ∈ gT := mem_gT 664 (by decide +kernel) (by decide +kernel)
set_option maxRecDepth 100000 in
theorem se_X4_take : Cond.selects yX4_take.cls yX4_take yX4_take ∈ gT := mem_gT 43 (by decide +kernel) (by decide +kernel)
abbrev MX5_add : MT := (yX5_add, cX5_add, 6, (some .int), { frames := 0, cells := 0, slots := 0, locals := 0 })
set_option maxRecDepth 100000 in
theorem ok_X5_add : okM MX5_add 4 := ⟨ini_X5, mem_gT 290 rfl (by decide +kernel), (by decide +kernel)⟩
set_option maxRecDepth 100000 in
theorem im_X5_add : Cond.instanceMethod yX5_add ∈ gT := mem_gT 289 (by decide +kernel) (by decide +kernel)
set_option maxRecDepth 100000 in
theorem se_X5_add : Cond.selects yX5_add.cls yX5_add yX5_add ∈ gT := mem_gT 1 (by decide +kernel) (by decide +kernel)
abbrev MX5_isOneOf : MT := (yX5_isOneOf, cX5_isOneOf, 3, (some .boolean), { frames := 0, cells := 0, slots := 0, locals := 0 })
set_option maxRecDepth 100000 in
theorem ok_X5_isOneOf : okM MX5_isOneOf 2 := ⟨ini_X5, mem_gT 307 rfl (by decide +kernel), (by decide +kernel)⟩
set_option maxRecDepth 100000 in
theorem im_X5_isOneOf : Cond.instanceMethod yX5_isOneOf ∈ gT := mem_gT 306 (by decide +kernel) (by decide +kernel)
set_option maxRecDepth 100000 in
theorem se_X5_isOneOf : Cond.selects yX5_isOneOf.cls yX5_isOneOf yX5_isOneOf ∈ gT := mem_gT 3 (by decide +kernel) (by decide +kernel)
abbrev MX5_isDrawing : MT := (yX5_isDrawing, cX5_isDrawing, 2, (some .boolean), { frames := 0, cells := 0, slots := 0, locals := 0 })
set_option maxRecDepth 100000 in
theorem ok_X5_isDrawing : okM MX5_isDrawing 1 := ⟨ini_X5, mem_gT 545 rfl (by decide +kernel), (by decide +kernel)⟩
set_option maxRecDepth 100000 in
theorem im_X5_isDrawing : Cond.instanceMethod yX5_isDrawing ∈ gT := mem_gT 544 (by decide +kernel) (by decide +kernel)
set_option maxRecDepth 100000 in
theorem se_X5_isDrawing : Cond.selects yX5_isDrawing.cls yX5_isDrawing yX5_isDrawing ∈ gT := mem_gT 26 (by decide +kernel) (by decide +kernel)
abbrev MX5_isOwnMonth : MT := (yX5_isOwnMonth, cX5_isOwnMonth, 3, (some .boolean), { frames := 0, cells := 0, slots := 0, locals := 0 })
set_option maxRecDepth 100000 in
theorem ok_X5_isOwnMonth : okM MX5_isOwnMonth 2 := ⟨ini_X5, mem_gT 454 rfl (by decide +kernel), (by decide +kernel)⟩
set_option maxRecDepth 100000 in
theorem im_X5_isOwnMonth : Cond.instanceMethod yX5_isOwnMonth ∈ gT := mem_gT 453 (by decide +kernel) (by decide +kernel)
set_option maxRecDepth 100000 in
theorem se_X5_isOwnMonth : Cond.selects yX5_isOwnMonth.cls yX5_isOwnMonth yX5_isOwnMonth ∈ gT := mem_gT 17 (by decide +kernel) (by decide +kernel)
abbrev MX5_apart : MT := (yX5_apart, cX5_apart, 4, (some .int), { frames := 1, cells := 0, slots := 0, locals := 21 })
set_option maxRecDepth 100000 in
theorem ok_X5_apart : okM MX5_apart 2 := ⟨ini_X5, mem_gT 328 rfl (by decide +kernel), (by decide +kernel)⟩
set_option maxRecDepth 100000 in
theorem im_X5_apart : Cond.instanceMethod yX5_apart ∈ gT := mem_gT 327 (by decide +kernel) (by decide +kernel)
set_option maxRecDepth 100000 in
theorem se_X5_apart : Cond.selects yX5_apart.cls yX5_apart yX5_apart ∈ gT := mem_gT 6 (by decide +kernel) (by decide +kernel)
abbrev MX5_layer : MT := (yX5_layer, cX5_layer, 3, (some .int), { frames := 0, cells := 0, slots := 0, locals := 0 })
set_option maxRecDepth 100000 in
theorem ok_X5_layer : okM MX5_layer 2 := ⟨ini_X5, mem_gT 490 rfl (by decide +kernel), (by decide +kernel)⟩
set_option maxRecDepth 100000 in
theorem im_X5_layer : Cond.instanceMethod yX5_layer ∈ gT := mem_gT 489 (by decide +kernel) (by decide +kernel)
set_option maxRecDepth 100000 in
theorem se_X5_layer : Cond.selects yX5_layer.cls yX5_layer yX5_layer ∈ gT := mem_gT 22 (by decide +kernel) (by decide +kernel)
abbrev MX5_take : MT := (yX5_take, cX5_take, 2, none, { frames := 2, cells := 0, slots := 0, locals := 47 })
set_option maxRecDepth 100000 in
theorem ok_X5_take : okM MX5_take 1 := ⟨ini_X5, mem_gT 669 rfl (by decide +kernel), (by decide +kernel)⟩
set_option maxRecDepth 100000 in
theorem im_X5_take : Cond.instanceMethod yX5_take ∈ gT := mem_gT 668 (by decide +kernel) (by decide +kernel)
set_option maxRecDepth 100000 in
theorem se_X5_take : Cond.selects yX5_take.cls yX5_take yX5_take ∈ gT := mem_gT 44 (by decide +kernel) (by decide +kernel)
abbrev MX6_well : MT := (yX6_well, cX6_well, 5, (some .int), { frames := 2, cells := 0, slots := 0, locals := 42 })
set_option maxRecDepth 100000 in
theorem ok_X6_well : okM MX6_well 4 := ⟨ini_X6, mem_gT 266 rfl (by decide +kernel), (by decide +kernel)⟩
set_option maxRecDepth 100000 in
theorem im_X6_well : Cond.instanceMethod yX6_well ∈ gT := mem_gT 264 (by decide +kernel) (by decide +kernel)
set_option maxRecDepth 100000 in
theorem se_X6_well : Cond.selects yX6_well.cls yX6_well yX6_well ∈ gT := mem_gT 265 (by decide +kernel) (by decide +kernel)
abbrev MX6_limit : MT := (yX6_limit, cX6_limit, 4, (some .int), { frames := 2, cells := 0, slots := 0, locals := 43 })
set_option maxRecDepth 100000 in
theorem ok_X6_limit : okM MX6_limit 2 := ⟨ini_X6, mem_gT 295 rfl (by decide +kernel), (by decide +kernel)⟩
set_option maxRecDepth 100000 in
theorem im_X6_limit : Cond.instanceMethod yX6_limit ∈ gT := mem_gT 293 (by decide +kernel) (by decide +kernel)
set_option maxRecDepth 100000 in
theorem se_X6_limit : Cond.selects yX6_limit.cls yX6_limit yX6_limit ∈ gT := mem_gT 294 (by decide +kernel) (by decide +kernel)
abbrev MX6_as : MT := (yX6_as, cX6_as, 3, (some .int), { frames := 2, cells := 0, slots := 0, locals := 43 })
set_option maxRecDepth 100000 in
theorem ok_X6_as : okM MX6_as 2 := ⟨ini_X6, mem_gT 303 rfl (by decide +kernel), (by decide +kernel)⟩
set_option maxRecDepth 100000 in
theorem im_X6_as : Cond.instanceMethod yX6_as ∈ gT := mem_gT 301 (by decide +kernel) (by decide +kernel)
set_option maxRecDepth 100000 in
theorem se_X6_as : Cond.selects yX6_as.cls yX6_as yX6_as ∈ gT := mem_gT 302 (by decide +kernel) (by decide +kernel)
abbrev MX6_of : MT := (yX6_of, cX6_of, 3, (some .int), { frames := 2, cells := 0, slots := 0, locals := 45 })
set_option maxRecDepth 100000 in
theorem ok_X6_of : okM MX6_of 2 := ⟨ini_X6, mem_gT 312 rfl (by decide +kernel), (by decide +kernel)⟩
set_option maxRecDepth 100000 in
theorem im_X6_of : Cond.instanceMethod yX6_of ∈ gT := mem_gT 310 (by decide +kernel) (by decide +kernel)
set_option maxRecDepth 100000 in
theorem se_X6_of : Cond.selects yX6_of.cls yX6_of yX6_of ∈ gT := mem_gT 311 (by decide +kernel) (by decide +kernel)
abbrev MX6_distance : MT := (yX6_distance, cX6_distance, 3, (some .int), { frames := 2, cells := 0, slots := 0, locals := 44 })
set_option maxRecDepth 100000 in
theorem ok_X6_distance : okM MX6_distance 2 := ⟨ini_X6, mem_gT 324 rfl (by decide +kernel), (by decide +kernel)⟩
set_option maxRecDepth 100000 in
theorem im_X6_distance : Cond.instanceMethod yX6_distance ∈ gT := mem_gT 322 (by decide +kernel) (by decide +kernel)
set_option maxRecDepth 100000 in
theorem se_X6_distance : Cond.selects yX6_distance.cls yX6_distance yX6_distance ∈ gT := mem_gT 323 (by decide +kernel) (by decide +kernel)
abbrev MX6_table : MT := (yX6_table, cX6_table, 7, (some .int), { frames := 2, cells := 0, slots := 0, locals := 45 })
set_option maxRecDepth 100000 in
theorem ok_X6_table : okM MX6_table 4 := ⟨ini_X6, mem_gT 341 rfl (by decide +kernel), (by decide +kernel)⟩
set_option maxRecDepth 100000 in
theorem im_X6_table : Cond.instanceMethod yX6_table ∈ gT := mem_gT 339 (by decide +kernel) (by decide +kernel)
set_option maxRecDepth 100000 in
theorem se_X6_table : Cond.selects yX6_table.cls yX6_table yX6_table ∈ gT := mem_gT 340 (by decide +kernel) (by decide +kernel)
abbrev MX6_rainTable : MT := (yX6_rainTable, cX6_rainTable, 4, (some .int), { frames := 2, cells := 0, slots := 0, locals := 42 })
set_option maxRecDepth 100000 in
theorem ok_X6_rainTable : okM MX6_rainTable 2 := ⟨ini_X6, mem_gT 360 rfl (by decide +kernel), (by decide +kernel)⟩
set_option maxRecDepth 100000 in
theorem im_X6_rainTable : Cond.instanceMethod yX6_rainTable ∈ gT := mem_gT 358 (by decide +kernel) (by decide +kernel)
set_option maxRecDepth 100000 in
theorem se_X6_rainTable : Cond.selects yX6_rainTable.cls yX6_rainTable yX6_rainTable ∈ gT := mem_gT 359 (by decide +kernel) (by decide +kernel)
abbrev MX6_sheet : MT := (yX6_sheet, cX6_sheet, 4, (some .int), { frames := 2, cells := 0, slots := 0, locals := 44 })
set_option maxRecDepth 100000 in
theorem ok_X6_sheet : okM MX6_sheet 3 := ⟨ini_X6, mem_gT 364 rfl (by decide +kernel), (by decide +kernel)⟩
set_option maxRecDepth 100000 in
theorem im_X6_sheet : Cond.instanceMethod yX6_sheet ∈ gT := mem_gT 362 (by decide +kernel) (by decide +kernel)
set_option maxRecDepth 100000 in
theorem se_X6_sheet : Cond.selects yX6_sheet.cls yX6_sheet yX6_sheet ∈ gT := mem_gT 363 (by decide +kernel) (by decide +kernel)
abbrev MX6_put : MT := (yX6_put, cX6_put, 4, (some .int), { frames := 2, cells := 0, slots := 0, locals := 42 })
set_option maxRecDepth 100000 in
theorem ok_X6_put : okM MX6_put 3 := ⟨ini_X6, mem_gT 378 rfl (by decide +kernel), (by decide +kernel)⟩
set_option maxRecDepth 100000 in
theorem im_X6_put : Cond.instanceMethod yX6_put ∈ gT := mem_gT 376 (by decide +kernel) (by decide +kernel)
set_option maxRecDepth 100000 in
theorem se_X6_put : Cond.selects yX6_put.cls yX6_put yX6_put ∈ gT := mem_gT 377 (by decide +kernel) (by decide +kernel)
abbrev MX6_copy : MT := (yX6_copy, cX6_copy, 6, (some .int), { frames := 2, cells := 0, slots := 0, locals := 42 })
set_option maxRecDepth 100000 in
theorem ok_X6_copy : okM MX6_copy 5 := ⟨ini_X6, mem_gT 397 rfl (by decide +kernel), (by decide +kernel)⟩
set_option maxRecDepth 100000 in
theorem im_X6_copy : Cond.instanceMethod yX6_copy ∈ gT := mem_gT 395 (by decide +kernel) (by decide +kernel)
set_option maxRecDepth 100000 in
theorem se_X6_copy : Cond.selects yX6_copy.cls yX6_copy yX6_copy ∈ gT := mem_gT 396 (by decide +kernel) (by decide +kernel)
abbrev MX6_draws : MT := (yX6_draws, cX6_draws, 7, (some .int), { frames := 3, cells := 0, slots := 0, locals := 65 })
set_option maxRecDepth 100000 in
theorem ok_X6_draws : okM MX6_draws 3 := ⟨ini_X6, mem_gT 408 rfl (by decide +kernel), (by decide +kernel)⟩
set_option maxRecDepth 100000 in
theorem im_X6_draws : Cond.instanceMethod yX6_draws ∈ gT := mem_gT 406 (by decide +kernel) (by decide +kernel)
set_option maxRecDepth 100000 in
theorem se_X6_draws : Cond.selects yX6_draws.cls yX6_draws yX6_draws ∈ gT := mem_gT 407 (by decide +kernel) (by decide +kernel)
abbrev MX6_draw : MT := (yX6_draw, cX6_draw, 5, (some .int), { frames := 2, cells := 0, slots := 0, locals := 43 })
set_option maxRecDepth 100000 in
theorem ok_X6_draw : okM MX6_draw 3 := ⟨ini_X6, mem_gT 441 rfl (by decide +kernel), (by decide +kernel)⟩
set_option maxRecDepth 100000 in
theorem im_X6_draw : Cond.instanceMethod yX6_draw ∈ gT := mem_gT 439 (by decide +kernel) (by decide +kernel)
set_option maxRecDepth 100000 in
theorem se_X6_draw : Cond.selects yX6_draw.cls yX6_draw yX6_draw ∈ gT := mem_gT 440 (by decide +kernel) (by decide +kernel)
abbrev MX6_counts : MT := (yX6_counts, cX6_counts, 3, (some .int), { frames := 2, cells := 0, slots := 0, locals := 44 })
set_option maxRecDepth 100000 in
theorem ok_X6_counts : okM MX6_counts 2 := ⟨ini_X6, mem_gT 446 rfl (by decide +kernel), (by decide +kernel)⟩
set_option maxRecDepth 100000 in
theorem im_X6_counts : Cond.instanceMethod yX6_counts ∈ gT := mem_gT 444 (by decide +kernel) (by decide +kernel)
set_option maxRecDepth 100000 in
theorem se_X6_counts : Cond.selects yX6_counts.cls yX6_counts yX6_counts ∈ gT := mem_gT 445 (by decide +kernel) (by decide +kernel)
abbrev MX6_rain : MT := (yX6_rain, cX6_rain, 4, (some .int), { frames := 2, cells := 0, slots := 0, locals := 42 })
set_option maxRecDepth 100000 in
theorem ok_X6_rain : okM MX6_rain 2 := ⟨ini_X6, mem_gT 460 rfl (by decide +kernel), (by decide +kernel)⟩
set_option maxRecDepth 100000 in
theorem im_X6_rain : Cond.instanceMethod yX6_rain ∈ gT := mem_gT 458 (by decide +kernel) (by decide +kernel)
set_option maxRecDepth 100000 in
theorem se_X6_rain : Cond.selects yX6_rain.cls yX6_rain yX6_rain ∈ gT := mem_gT 459 (by decide +kernel) (by decide +kernel)
abbrev MX6_dry : MT := (yX6_dry, cX6_dry, 1, (some .int), { frames := 1, cells := 0, slots := 0, locals := 22 })
set_option maxRecDepth 100000 in
theorem ok_X6_dry : okM MX6_dry 0 := ⟨ini_X6, mem_gT 464 rfl (by decide +kernel), (by decide +kernel)⟩
set_option maxRecDepth 100000 in
theorem im_X6_dry : Cond.instanceMethod yX6_dry ∈ gT := mem_gT 462 (by decide +kernel) (by decide +kernel)
set_option maxRecDepth 100000 in
theorem se_X6_dry : Cond.selects yX6_dry.cls yX6_dry yX6_dry ∈ gT := mem_gT 463 (by decide +kernel) (by decide +kernel)
abbrev MX6_head : MT := (yX6_head, cX6_head, 3, (some .int), { frames := 5, cells := 0, slots := 0, locals := 117 })
set_option maxRecDepth 100000 in
theorem ok_X6_head : okM MX6_head 2 := ⟨ini_X6, mem_gT 469 rfl (by decide +kernel), (by decide +kernel)⟩
set_option maxRecDepth 100000 in
theorem im_X6_head : Cond.instanceMethod yX6_head ∈ gT := mem_gT 467 (by decide +kernel) (by decide +kernel)
set_option maxRecDepth 100000 in
theorem se_X6_head : Cond.selects yX6_head.cls yX6_head yX6_head ∈ gT := mem_gT 468 (by decide +kernel) (by decide +kernel)
abbrev MX6_by : MT := (yX6_by, cX6_by, 4, (some .int), { frames := 4, cells := 0, slots := 0, locals := 93 })
set_option maxRecDepth 100000 in
theorem ok_X6_by : okM MX6_by 3 := ⟨ini_X6, mem_gT 496 rfl (by decide +kernel), (by decide +kernel)⟩
set_option maxRecDepth 100000 in
theorem im_X6_by : Cond.instanceMethod yX6_by ∈ gT := mem_gT 494 (by decide +kernel) (by decide +kernel)
set_option maxRecDepth 100000 in
theorem se_X6_by : Cond.selects yX6_by.cls yX6_by yX6_by ∈ gT := mem_gT 495 (by decide +kernel) (by decide +kernel)
abbrev MX6_rained : MT := (yX6_rained, cX6_rained, 3, (some .int), { frames := 2, cells := 0, slots := 0, locals := 44 })
set_option maxRecDepth 100000 in
theorem ok_X6_rained : okM MX6_rained 2 := ⟨ini_X6, mem_gT 501 rfl (by decide +kernel), (by decide +kernel)⟩
set_option maxRecDepth 100000 in
theorem im_X6_rained : Cond.instanceMethod yX6_rained ∈ gT := mem_gT 499 (by decide +kernel) (by decide +kernel)
set_option maxRecDepth 100000 in
theorem se_X6_rained : Cond.selects yX6_rained.cls yX6_rained yX6_rained ∈ gT := mem_gT 500 (by decide +kernel) (by decide +kernel)
abbrev MX6_most : MT := (yX6_most, cX6_most, 7, (some .int), { frames := 4, cells := 0, slots := 0, locals := 93 })
set_option maxRecDepth 100000 in
theorem ok_X6_most : okM MX6_most 2 := ⟨ini_X6, mem_gT 506 rfl (by decide +kernel), (by decide +kernel)⟩
set_option maxRecDepth 100000 in
theorem im_X6_most : Cond.instanceMethod yX6_most ∈ gT := mem_gT 504 (by decide +kernel) (by decide +kernel)
set_option maxRecDepth 100000 in
theorem se_X6_most : Cond.selects yX6_most.cls yX6_most yX6_most ∈ gT := mem_gT 505 (by decide +kernel) (by decide +kernel)
abbrev MX6_when : MT := (yX6_when, cX6_when, 4, (some .int), { frames := 6, cells := 0, slots := 0, locals := 139 })
set_option maxRecDepth 100000 in
theorem ok_X6_when : okM MX6_when 2 := ⟨ini_X6, mem_gT 511 rfl (by decide +kernel), (by decide +kernel)⟩
set_option maxRecDepth 100000 in
theorem im_X6_when : Cond.instanceMethod yX6_when ∈ gT := mem_gT 509 (by decide +kernel) (by decide +kernel)
set_option maxRecDepth 100000 in
theorem se_X6_when : Cond.selects yX6_when.cls yX6_when yX6_when ∈ gT := mem_gT 510 (by decide +kernel) (by decide +kernel)
abbrev MX6_near : MT := (yX6_near, cX6_near, 5, (some .int), { frames := 6, cells := 0, slots := 0, locals := 139 })
set_option maxRecDepth 100000 in
theorem ok_X6_near : okM MX6_near 2 := ⟨ini_X6, mem_gT 520 rfl (by decide +kernel), (by decide +kernel)⟩
set_option maxRecDepth 100000 in
theorem im_X6_near : Cond.instanceMethod yX6_near ∈ gT := mem_gT 518 (by decide +kernel) (by decide +kernel)
set_option maxRecDepth 100000 in
theorem se_X6_near : Cond.selects yX6_near.cls yX6_near yX6_near ∈ gT := mem_gT 519 (by decide +kernel) (by decide +kernel)
abbrev MX6_low : MT := (yX6_low, cX6_low, 4, (some .int), { frames := 6, cells := 0, slots := 0, locals := 139 })
set_option maxRecDepth 100000 in
theorem ok_X6_low : okM MX6_low 1 := ⟨ini_X6, mem_gT 524 rfl (by decide +kernel), (by decide +kernel)⟩
set_option maxRecDepth 100000 in
theorem im_X6_low : Cond.instanceMethod yX6_low ∈ gT := mem_gT 522 (by decide +kernel) (by decide +kernel)
set_option maxRecDepth 100000 in
theorem se_X6_low : Cond.selects yX6_low.cls yX6_low yX6_low ∈ gT := mem_gT 523 (by decide +kernel) (by decide +kernel)
abbrev MX6_without : MT := (yX6_without, cX6_without, 5, (some .int), { frames := 4, cells := 0, slots := 0, locals := 93 })
set_option maxRecDepth 100000 in
theorem ok_X6_without : okM MX6_without 4 := ⟨ini_X6, mem_gT 528 rfl (by decide +kernel), (by decide +kernel)⟩
set_option maxRecDepth 100000 in
theorem im_X6_without : Cond.instanceMethod yX6_without ∈ gT := mem_gT 526 (by decide +kernel) (by decide +kernel)
set_option maxRecDepth 100000 in
theorem se_X6_without : Cond.selects yX6_without.cls yX6_without yX6_without ∈ gT := mem_gT 527 (by decide +kernel) (by decide +kernel)
abbrev MX6_free : MT := (yX6_free, cX6_free, 3, (some .int), { frames := 7, cells := 0, slots := 0, locals := 162 })
set_option maxRecDepth 100000 in
theorem ok_X6_free : okM MX6_free 2 := ⟨ini_X6, mem_gT 532 rfl (by decide +kernel), (by decide +kernel)⟩
set_option maxRecDepth 100000 in
theorem im_X6_free : Cond.instanceMethod yX6_free ∈ gT := mem_gT 530 (by decide +kernel) (by decide +kernel)
set_option maxRecDepth 100000 in
theorem se_X6_free : Cond.selects yX6_free.cls yX6_free yX6_free ∈ gT := mem_gT 531 (by decide +kernel) (by decide +kernel)
abbrev MX6_licence : MT := (yX6_licence, cX6_licence, 4, (some .int), { frames := 2, cells := 0, slots := 0, locals := 43 })
set_option maxRecDepth 100000 in
theorem ok_X6_licence : okM MX6_licence 3 := ⟨ini_X6, mem_gT 555 rfl (by decide +kernel), (by decide +kernel)⟩
set_option maxRecDepth 100000 in
theorem im_X6_licence : Cond.instanceMethod yX6_licence ∈ gT := mem_gT 553 (by decide +kernel) (by decide +kernel)
set_option maxRecDepth 100000 in
theorem se_X6_licence : Cond.selects yX6_licence.cls yX6_licence yX6_licence ∈ gT := mem_gT 554 (by decide +kernel) (by decide +kernel)
abbrev MX6_serve : MT := (yX6_serve, cX6_serve, 6, (some .int), { frames := 7, cells := 0, slots := 0, locals := 162 })
set_option maxRecDepth 100000 in
theorem ok_X6_serve : okM MX6_serve 1 := ⟨ini_X6, mem_gT 564 rfl (by decide +kernel), (by decide +kernel)⟩
set_option maxRecDepth 100000 in
theorem im_X6_serve : Cond.instanceMethod yX6_serve ∈ gT := mem_gT 562 (by decide +kernel) (by decide +kernel)
set_option maxRecDepth 100000 in
theorem se_X6_serve : Cond.selects yX6_serve.cls yX6_serve yX6_serve ∈ gT := mem_gT 563 (by decide +kernel) (by decide +kernel)
abbrev MX6_served : MT := (yX6_served, cX6_served, 4, (some .int), { frames := 1, cells := 0, slots := 0, locals := 22 })
set_option maxRecDepth 100000 in
theorem ok_X6_served : okM MX6_served 2 := ⟨ini_X6, mem_gT 589 rfl (by decide +kernel), (by decide +kernel)⟩
set_option maxRecDepth 100000 in
theorem im_X6_served : Cond.instanceMethod yX6_served ∈ gT := mem_gT 587 (by decide +kernel) (by decide +kernel)
set_option maxRecDepth 100000 in
theorem se_X6_served : Cond.selects yX6_served.cls yX6_served yX6_served ∈ gT := mem_gT 588 (by decide +kernel) (by decide +kernel)
abbrev MX6_hold : MT := (yX6_hold, cX6_hold, 5, (some .int), { frames := 6, cells := 0, slots := 0, locals := 142 })
set_option maxRecDepth 100000 in
theorem ok_X6_hold : okM MX6_hold 3 := ⟨ini_X6, mem_gT 593 rfl (by decide +kernel), (by decide +kernel)⟩
set_option maxRecDepth 100000 in
theorem im_X6_hold : Cond.instanceMethod yX6_hold ∈ gT := mem_gT 591 (by decide +kernel) (by decide +kernel)
set_option maxRecDepth 100000 in
theorem se_X6_hold : Cond.selects yX6_hold.cls yX6_hold yX6_hold ∈ gT := mem_gT 592 (by decide +kernel) (by decide +kernel)
abbrev MX6_move : MT := (yX6_move, cX6_move, 5, (some .int), { frames := 4, cells := 0, slots := 0, locals := 97 })
set_option maxRecDepth 100000 in
theorem ok_X6_move : okM MX6_move 3 := ⟨ini_X6, mem_gT 601 rfl (by decide +kernel), (by decide +kernel)⟩
set_option maxRecDepth 100000 in
theorem im_X6_move : Cond.instanceMethod yX6_move ∈ gT := mem_gT 599 (by decide +kernel) (by decide +kernel)
set_option maxRecDepth 100000 in
theorem se_X6_move : Cond.selects yX6_move.cls yX6_move yX6_move ∈ gT := mem_gT 600 (by decide +kernel) (by decide +kernel)
abbrev MX6_read : MT := (yX6_read, cX6_read, 4, (some .int), { frames := 2, cells := 0, slots := 0, locals := 45 })
set_option maxRecDepth 100000 in
theorem ok_X6_read : okM MX6_read 3 := ⟨ini_X6, mem_gT 610 rfl (by decide +kernel), (by decide +kernel)⟩
set_option maxRecDepth 100000 in
theorem im_X6_read : Cond.instanceMethod yX6_read ∈ gT := mem_gT 608 (by decide +kernel) (by decide +kernel)
set_option maxRecDepth 100000 in
theorem se_X6_read : Cond.selects yX6_read.cls yX6_read yX6_read ∈ gT := mem_gT 609 (by decide +kernel) (by decide +kernel)
abbrev MX6_differ : MT := (yX6_differ, cX6_differ, 3, (some .int), { frames := 6, cells := 0, slots := 0, locals := 139 })
set_option maxRecDepth 100000 in
theorem ok_X6_differ : okM MX6_differ 2 := ⟨ini_X6, mem_gT 625 rfl (by decide +kernel), (by decide +kernel)⟩
set_option maxRecDepth 100000 in
theorem im_X6_differ : Cond.instanceMethod yX6_differ ∈ gT := mem_gT 623 (by decide +kernel) (by decide +kernel)
set_option maxRecDepth 100000 in
theorem se_X6_differ : Cond.selects yX6_differ.cls yX6_differ yX6_differ ∈ gT := mem_gT 624 (by decide +kernel) (by decide +kernel)
abbrev MX6_fit : MT := (yX6_fit, cX6_fit, 9, (some .int), { frames := 7, cells := 0, slots := 0, locals := 165 })
set_option maxRecDepth 100000 in
theorem ok_X6_fit : okM MX6_fit 2 := ⟨ini_X6, mem_gT 637 rfl (by decide +kernel), (by decide +kernel)⟩
set_option maxRecDepth 100000 in
theorem im_X6_fit : Cond.instanceMethod yX6_fit ∈ gT := mem_gT 635 (by decide +kernel) (by decide +kernel)
set_option maxRecDepth 100000 in
theorem se_X6_fit : Cond.selects yX6_fit.cls yX6_fit yX6_fit ∈ gT := mem_gT 636 (by decide +kernel) (by decide +kernel)
abbrev MX6_squares : MT := (yX6_squares, cX6_squares, 1, (some .long), { frames := 7, cells := 0, slots := 0, locals := 165 })
set_option maxRecDepth 100000 in
theorem ok_X6_squares : okM MX6_squares 0 := ⟨ini_X6, mem_gT 657 rfl (by decide +kernel), (by decide +kernel)⟩
set_option maxRecDepth 100000 in
theorem im_X6_squares : Cond.instanceMethod yX6_squares ∈ gT := mem_gT 655 (by decide +kernel) (by decide +kernel)
set_option maxRecDepth 100000 in
theorem se_X6_squares : Cond.selects yX6_squares.cls yX6_squares yX6_squares ∈ gT := mem_gT 656 (by decide +kernel) (by decide +kernel)
abbrev MX6_keep : MT := (yX6_keep, cX6_keep, 1, (some .int), { frames := 4, cells := 0, slots := 0, locals := 89 })
set_option maxRecDepth 100000 in
theorem ok_X6_keep : okM MX6_keep 0 := ⟨ini_X6, mem_gT 661 rfl (by decide +kernel), (by decide +kernel)⟩
set_option maxRecDepth 100000 in
theorem im_X6_keep : Cond.instanceMethod yX6_keep ∈ gT := mem_gT 659 (by decide +kernel) (by decide +kernel)
set_option maxRecDepth 100000 in
theorem se_X6_keep : Cond.selects yX6_keep.cls yX6_keep yX6_keep ∈ gT := mem_gT 660 (by decide +kernel) (by decide +kernel)
abbrev MX6_back : MT := (yX6_back, cX6_back, 1, (some .int), { frames := 4, cells := 0, slots := 0, locals := 89 })
set_option maxRecDepth 100000 in
theorem ok_X6_back : okM MX6_back 0 := ⟨ini_X6, mem_gT 692 rfl (by decide +kernel), (by decide +kernel)⟩
set_option maxRecDepth 100000 in
theorem im_X6_back : Cond.instanceMethod yX6_back ∈ gT := mem_gT 690 (by decide +kernel) (by decide +kernel)
set_option maxRecDepth 100000 in
theorem se_X6_back : Cond.selects yX6_back.cls yX6_back yX6_back ∈ gT := mem_gT 691 (by decide +kernel) (by decide +kernel)
abbrev MX6_told : MT := (yX6_told, cX6_told, 2, (some .int), { frames := 1, cells := 0, slots := 0, locals := 21 })
set_option maxRecDepth 100000 in
theorem ok_X6_told : okM MX6_told 1 := ⟨ini_X6, mem_gT 696 rfl (by decide +kernel), (by decide +kernel)⟩
set_option maxRecDepth 100000 in
theorem im_X6_told : Cond.instanceMethod yX6_told ∈ gT := mem_gT 694 (by decide +kernel) (by decide +kernel)
set_option maxRecDepth 100000 in
theorem se_X6_told : Cond.selects yX6_told.cls yX6_told yX6_told ∈ gT := mem_gT 695 (by decide +kernel) (by decide +kernel)
abbrev MX6_finding : MT := (yX6_finding, cX6_finding, 2, (some .int), { frames := 0, cells := 0, slots := 0, locals := 0 })
set_option maxRecDepth 100000 in
theorem ok_X6_finding : okM MX6_finding 1 := ⟨ini_X6, mem_gT 285 rfl (by decide +kernel), (by decide +kernel)⟩
set_option maxRecDepth 100000 in
theorem im_X6_finding : Cond.instanceMethod yX6_finding ∈ gT := mem_gT 284 (by decide +kernel) (by decide +kernel)
set_option maxRecDepth 100000 in
theorem se_X6_finding : Cond.selects yX6_finding.cls yX6_finding yX6_finding ∈ gT := mem_gT 0 (by decide +kernel) (by decide +kernel)
abbrev MX6_isWell : MT := (yX6_isWell, cX6_isWell, 2, (some .boolean), { frames := 1, cells := 0, slots := 0, locals := 22 })
set_option maxRecDepth 100000 in
theorem ok_X6_isWell : okM MX6_isWell 1 := ⟨ini_X6, mem_gT 299 rfl (by decide +kernel), (by decide +kernel)⟩
set_option maxRecDepth 100000 in
theorem im_X6_isWell : Cond.instanceMethod yX6_isWell ∈ gT := mem_gT 298 (by decide +kernel) (by decide +kernel)
set_option maxRecDepth 100000 in
theorem se_X6_isWell : Cond.selects yX6_isWell.cls yX6_isWell yX6_isWell ∈ gT := mem_gT 2 (by decide +kernel) (by decide +kernel)
abbrev MX6_isMonth : MT := (yX6_isMonth, cX6_isMonth, 1, (some .boolean), { frames := 1, cells := 0, slots := 0, locals := 22 })
set_option maxRecDepth 100000 in
theorem ok_X6_isMonth : okM MX6_isMonth 1 := ⟨ini_X6, mem_gT 411 rfl (by decide +kernel), (by decide +kernel)⟩
set_option maxRecDepth 100000 in
theorem st_X6_isMonth : Cond.static yX6_isMonth ∈ gT := mem_gT 410 (by decide +kernel) (by decide +kernel)
abbrev MX6_isKind : MT := (yX6_isKind, cX6_isKind, 1, (some .boolean), { frames := 1, cells := 0, slots := 0, locals := 22 })
set_option maxRecDepth 100000 in
theorem ok_X6_isKind : okM MX6_isKind 1 := ⟨ini_X6, mem_gT 269 rfl (by decide +kernel), (by decide +kernel)⟩
set_option maxRecDepth 100000 in
theorem st_X6_isKind : Cond.static yX6_isKind ∈ gT := mem_gT 268 (by decide +kernel) (by decide +kernel)
abbrev MX6_isPlace : MT := (yX6_isPlace, cX6_isPlace, 1, (some .boolean), { frames := 1, cells := 0, slots := 0, locals := 22 })
set_option maxRecDepth 100000 in
theorem ok_X6_isPlace : okM MX6_isPlace 1 := ⟨ini_X6, mem_gT 275 rfl (by decide +kernel), (by decide +kernel)⟩
set_option maxRecDepth 100000 in
theorem st_X6_isPlace : Cond.static yX6_isPlace ∈ gT := mem_gT 274 (by decide +kernel) (by decide +kernel)
abbrev MX6_isHeadBound : MT := (yX6_isHeadBound, cX6_isHeadBound, 1, (some .boolean), { frames := 1, cells := 0, slots := 0, locals := 22 })
set_option maxRecDepth 100000 in
theorem ok_X6_isHeadBound : okM MX6_isHeadBound 1 := ⟨ini_X6, mem_gT 278 rfl (by decide +kernel), (by decide +kernel)⟩
set_option maxRecDepth 100000 in
theorem st_X6_isHeadBound : Cond.static yX6_isHeadBound ∈ gT := mem_gT 277 (by decide +kernel) (by decide +kernel)
abbrev MX6_isAmount : MT := (yX6_isAmount, cX6_isAmount, 1, (some .boolean), { frames := 1, cells := 0, slots := 0, locals := 22 })
set_option maxRecDepth 100000 in
theorem ok_X6_isAmount : okM MX6_isAmount 1 := ⟨ini_X6, mem_gT 350 rfl (by decide +kernel), (by decide +kernel)⟩
set_option maxRecDepth 100000 in
theorem st_X6_isAmount : Cond.static yX6_isAmount ∈ gT := mem_gT 349 (by decide +kernel) (by decide +kernel)
abbrev MX6_isLayer : MT := (yX6_isLayer, cX6_isLayer, 1, (some .boolean), { frames := 1, cells := 0, slots := 0, locals := 22 })
set_option maxRecDepth 100000 in
theorem ok_X6_isLayer : okM MX6_isLayer 1 := ⟨ini_X6, mem_gT 344 rfl (by decide +kernel), (by decide +kernel)⟩
set_option maxRecDepth 100000 in
theorem st_X6_isLayer : Cond.static yX6_isLayer ∈ gT := mem_gT 343 (by decide +kernel) (by decide +kernel)
abbrev MX6_isAge : MT := (yX6_isAge, cX6_isAge, 1, (some .boolean), { frames := 1, cells := 0, slots := 0, locals := 22 })
set_option maxRecDepth 100000 in
theorem ok_X6_isAge : okM MX6_isAge 1 := ⟨ini_X6, mem_gT 347 rfl (by decide +kernel), (by decide +kernel)⟩
set_option maxRecDepth 100000 in
theorem st_X6_isAge : Cond.static yX6_isAge ∈ gT := mem_gT 346 (by decide +kernel) (by decide +kernel)
abbrev MX6_isSheet : MT := (yX6_isSheet, cX6_isSheet, 1, (some .boolean), { frames := 1, cells := 0, slots := 0, locals := 22 })
set_option maxRecDepth 100000 in
theorem ok_X6_isSheet : okM MX6_isSheet 1 := ⟨ini_X6, mem_gT 367 rfl (by decide +kernel), (by decide +kernel)⟩
set_option maxRecDepth 100000 in
theorem st_X6_isSheet : Cond.static yX6_isSheet ∈ gT := mem_gT 366 (by decide +kernel) (by decide +kernel)
abbrev MX6_within : MT := (yX6_within, cX6_within, 3, (some .boolean), { frames := 0, cells := 0, slots := 0, locals := 0 })
set_option maxRecDepth 100000 in
theorem ok_X6_within : okM MX6_within 3 := ⟨ini_X6, mem_gT 272 rfl (by decide +kernel), (by decide +kernel)⟩
set_option maxRecDepth 100000 in
theorem st_X6_within : Cond.static yX6_within ∈ gT := mem_gT 271 (by decide +kernel) (by decide +kernel)
abbrev MX6_clear : MT := (yX6_clear, cX6_clear, 3, (some .int), { frames := 0, cells := 0, slots := 0, locals := 0 })
set_option maxRecDepth 100000 in
theorem ok_X6_clear : okM MX6_clear 1 := ⟨ini_X6, mem_gT 374 rfl (by decide +kernel), (by decide +kernel)⟩
set_option maxRecDepth 100000 in
theorem st_X6_clear : Cond.static yX6_clear ∈ gT := mem_gT 373 (by decide +kernel) (by decide +kernel)
abbrev MX6_copyRow : MT := (yX6_copyRow, cX6_copyRow, 2, none, { frames := 1, cells := 0, slots := 0, locals := 26 })
set_option maxRecDepth 100000 in
theorem ok_X6_copyRow : okM MX6_copyRow 2 := ⟨ini_X6, mem_gT 672 rfl (by decide +kernel), (by decide +kernel)⟩
set_option maxRecDepth 100000 in
theorem st_X6_copyRow : Cond.static yX6_copyRow ∈ gT := mem_gT 671 (by decide +kernel) (by decide +kernel)
abbrev MX7_in : MT := (yX7_in, cX7_in, 3, (some .boolean), { frames := 0, cells := 0, slots := 0, locals := 0 })
set_option maxRecDepth 100000 in
theorem ok_X7_in : okM MX7_in 3 := ⟨ini_X7, mem_gT 746 rfl (by decide +kernel), (by decide +kernel)⟩
set_option maxRecDepth 100000 in
theorem st_X7_in : Cond.static yX7_in ∈ gT := mem_gT 745 (by decide +kernel) (by decide +kernel)
abbrev MX7_found : MT := (yX7_found, cX7_found, 2, (some .int), { frames := 0, cells := 0, slots := 0, locals := 0 })
set_option maxRecDepth 100000 in
theorem ok_X7_found : okM MX7_found 1 := ⟨ini_X7, mem_gT 756 rfl (by decide +kernel), (by decide +kernel)⟩
set_option maxRecDepth 100000 in
theorem im_X7_found : Cond.instanceMethod yX7_found ∈ gT := mem_gT 755 (by decide +kernel) (by decide +kernel)
set_option maxRecDepth 100000 in
theorem se_X7_found : Cond.selects yX7_found.cls yX7_found yX7_found ∈ gT := mem_gT 48 (by decide +kernel) (by decide +kernel)
abbrev MX7_wells : MT := (yX7_wells, cX7_wells, 1, (some .int), { frames := 0, cells := 0, slots := 0, locals := 0 })
set_option maxRecDepth 100000 in
theorem ok_X7_wells : okM MX7_wells 0 := ⟨ini_X7, mem_gT 760 rfl (by decide +kernel), (by decide +kernel)⟩
set_option maxRecDepth 100000 in
theorem im_X7_wells : Cond.instanceMethod yX7_wells ∈ gT := mem_gT 759 (by decide +kernel) (by decide +kernel)
set_option maxRecDepth 100000 in
theorem se_X7_wells : Cond.selects yX7_wells.cls yX7_wells yX7_wells ∈ gT := mem_gT 49 (by decide +kernel) (by decide +kernel)
abbrev MX7_isWell : MT := (yX7_isWell, cX7_isWell, 2, (some .boolean), { frames := 1, cells := 0, slots := 0, locals := 22 })
set_option maxRecDepth 100000 in
theorem ok_X7_isWell : okM MX7_isWell 1 := ⟨ini_X7, mem_gT 769 rfl (by decide +kernel), (by decide +kernel)⟩
set_option maxRecDepth 100000 in
theorem im_X7_isWell : Cond.instanceMethod yX7_isWell ∈ gT := mem_gT 768 (by decide +kernel) (by decide +kernel)
set_option maxRecDepth 100000 in
theorem se_X7_isWell : Cond.selects yX7_isWell.cls yX7_isWell yX7_isWell ∈ gT := mem_gT 50 (by decide +kernel) (by decide +kernel)
abbrev MX7_isMonth : MT := (yX7_isMonth, cX7_isMonth, 1, (some .boolean), { frames := 1, cells := 0, slots := 0, locals := 22 })
set_option maxRecDepth 100000 in
theorem ok_X7_isMonth : okM MX7_isMonth 1 := ⟨ini_X7, mem_gT 839 rfl (by decide +kernel), (by decide +kernel)⟩
set_option maxRecDepth 100000 in
theorem st_X7_isMonth : Cond.static yX7_isMonth ∈ gT := mem_gT 838 (by decide +kernel) (by decide +kernel)
abbrev MX7_isHead : MT := (yX7_isHead, cX7_isHead, 1, (some .boolean), { frames := 1, cells := 0, slots := 0, locals := 22 })
set_option maxRecDepth 100000 in
theorem ok_X7_isHead : okM MX7_isHead 1 := ⟨ini_X7, mem_gT 749 rfl (by decide +kernel), (by decide +kernel)⟩
set_option maxRecDepth 100000 in
theorem st_X7_isHead : Cond.static yX7_isHead ∈ gT := mem_gT 748 (by decide +kernel) (by decide +kernel)
abbrev MX7_told0 : MT := (yX7_told0, cX7_told0, 3, (some .int), { frames := 0, cells := 0, slots := 0, locals := 0 })
set_option maxRecDepth 100000 in
theorem ok_X7_told0 : okM MX7_told0 2 := ⟨ini_X7, mem_gT 773 rfl (by decide +kernel), (by decide +kernel)⟩
set_option maxRecDepth 100000 in
theorem im_X7_told0 : Cond.instanceMethod yX7_told0 ∈ gT := mem_gT 772 (by decide +kernel) (by decide +kernel)
set_option maxRecDepth 100000 in
theorem se_X7_told0 : Cond.selects yX7_told0.cls yX7_told0 yX7_told0 ∈ gT := mem_gT 51 (by decide +kernel) (by decide +kernel)
abbrev MX7_kindOf : MT := (yX7_kindOf, cX7_kindOf, 2, (some .int), { frames := 1, cells := 0, slots := 0, locals := 22 })
set_option maxRecDepth 100000 in
theorem ok_X7_kindOf : okM MX7_kindOf 1 := ⟨ini_X7, mem_gT 781 rfl (by decide +kernel), (by decide +kernel)⟩
set_option maxRecDepth 100000 in
theorem im_X7_kindOf : Cond.instanceMethod yX7_kindOf ∈ gT := mem_gT 780 (by decide +kernel) (by decide +kernel)
set_option maxRecDepth 100000 in
theorem se_X7_kindOf : Cond.selects yX7_kindOf.cls yX7_kindOf yX7_kindOf ∈ gT := mem_gT 52 (by decide +kernel) (by decide +kernel)
abbrev MX7_well : MT := (yX7_well, cX7_well, 6, (some .int), { frames := 2, cells := 0, slots := 0, locals := 42 })
set_option maxRecDepth 100000 in
theorem ok_X7_well : okM MX7_well 4 := ⟨ini_X7, mem_gT 743 rfl (by decide +kernel), (by decide +kernel)⟩
set_option maxRecDepth 100000 in
theorem im_X7_well : Cond.instanceMethod yX7_well ∈ gT := mem_gT 741 (by decide +kernel) (by decide +kernel)
set_option maxRecDepth 100000 in
theorem se_X7_well : Cond.selects yX7_well.cls yX7_well yX7_well ∈ gT := mem_gT 742 (by decide +kernel) (by decide +kernel)
abbrev MX7_limit : MT := (yX7_limit, cX7_limit, 4, (some .int), { frames := 2, cells := 0, slots := 0, locals := 43 })
set_option maxRecDepth 100000 in
theorem ok_X7_limit : okM MX7_limit 2 := ⟨ini_X7, mem_gT 765 rfl (by decide +kernel), (by decide +kernel)⟩
set_option maxRecDepth 100000 in
theorem im_X7_limit : Cond.instanceMethod yX7_limit ∈ gT := mem_gT 763 (by decide +kernel) (by decide +kernel)
set_option maxRecDepth 100000 in
theorem se_X7_limit : Cond.selects yX7_limit.cls yX7_limit yX7_limit ∈ gT := mem_gT 764 (by decide +kernel) (by decide +kernel)
abbrev MX7_as : MT := (yX7_as, cX7_as, 5, (some .int), { frames := 2, cells := 0, slots := 0, locals := 43 })
set_option maxRecDepth 100000 in
theorem ok_X7_as : okM MX7_as 2 := ⟨ini_X7, mem_gT 777 rfl (by decide +kernel), (by decide +kernel)⟩
set_option maxRecDepth 100000 in
theorem im_X7_as : Cond.instanceMethod yX7_as ∈ gT := mem_gT 775 (by decide +kernel) (by decide +kernel)
set_option maxRecDepth 100000 in
theorem se_X7_as : Cond.selects yX7_as.cls yX7_as yX7_as ∈ gT := mem_gT 776 (by decide +kernel) (by decide +kernel)
abbrev MX7_drawOf : MT := (yX7_drawOf, cX7_drawOf, 3, (some .int), { frames := 0, cells := 0, slots := 0, locals := 0 })
set_option maxRecDepth 100000 in
theorem ok_X7_drawOf : okM MX7_drawOf 2 := ⟨ini_X7, mem_gT 790 rfl (by decide +kernel), (by decide +kernel)⟩
set_option maxRecDepth 100000 in
theorem im_X7_drawOf : Cond.instanceMethod yX7_drawOf ∈ gT := mem_gT 789 (by decide +kernel) (by decide +kernel)
set_option maxRecDepth 100000 in
theorem se_X7_drawOf : Cond.selects yX7_drawOf.cls yX7_drawOf yX7_drawOf ∈ gT := mem_gT 53 (by decide +kernel) (by decide +kernel)
abbrev MX7_of : MT := (yX7_of, cX7_of, 5, (some .int), { frames := 2, cells := 0, slots := 0, locals := 43 })
set_option maxRecDepth 100000 in
theorem ok_X7_of : okM MX7_of 2 := ⟨ini_X7, mem_gT 786 rfl (by decide +kernel), (by decide +kernel)⟩
set_option maxRecDepth 100000 in
theorem im_X7_of : Cond.instanceMethod yX7_of ∈ gT := mem_gT 784 (by decide +kernel) (by decide +kernel)
set_option maxRecDepth 100000 in
theorem se_X7_of : Cond.selects yX7_of.cls yX7_of yX7_of ∈ gT := mem_gT 785 (by decide +kernel) (by decide +kernel)
abbrev MX7_apart : MT := (yX7_apart, cX7_apart, 6, (some .int), { frames := 1, cells := 0, slots := 0, locals := 22 })
set_option maxRecDepth 100000 in
theorem ok_X7_apart : okM MX7_apart 2 := ⟨ini_X7, mem_gT 798 rfl (by decide +kernel), (by decide +kernel)⟩
set_option maxRecDepth 100000 in
theorem im_X7_apart : Cond.instanceMethod yX7_apart ∈ gT := mem_gT 797 (by decide +kernel) (by decide +kernel)
set_option maxRecDepth 100000 in
theorem se_X7_apart : Cond.selects yX7_apart.cls yX7_apart yX7_apart ∈ gT := mem_gT 54 (by decide +kernel) (by decide +kernel)
abbrev MX7_distance : MT := (yX7_distance, cX7_distance, 3, (some .int), { frames := 2, cells := 0, slots := 0, locals := 47 })
set_option maxRecDepth 100000 in
theorem ok_X7_distance : okM MX7_distance 2 := ⟨ini_X7, mem_gT 794 rfl (by decide +kernel), (by decide +kernel)⟩
set_option maxRecDepth 100000 in
theorem im_X7_distance : Cond.instanceMethod yX7_distance ∈ gT := mem_gT 792 (by decide +kernel) (by decide +kernel)
set_option maxRecDepth 100000 in
theorem se_X7_distance : Cond.selects yX7_distance.cls yX7_distance yX7_distance ∈ gT := mem_gT 793 (by decide +kernel) (by decide +kernel)
abbrev MX7_cell : MT := (yX7_cell, cX7_cell, 3, (some .int), { frames := 0, cells := 0, slots := 0, locals := 0 })
set_option maxRecDepth 100000 in
theorem ok_X7_cell : okM MX7_cell 3 := ⟨ini_X7, mem_gT 805 rfl (by decide +kernel), (by decide +kernel)⟩
set_option maxRecDepth 100000 in
theorem st_X7_cell : Cond.static yX7_cell ∈ gT := mem_gT 804 (by decide +kernel) (by decide +kernel)
abbrev MX7_table : MT := (yX7_table, cX7_table, 6, (some .int), { frames := 1, cells := 0, slots := 0, locals := 22 })
set_option maxRecDepth 100000 in
theorem ok_X7_table : okM MX7_table 4 := ⟨ini_X7, mem_gT 802 rfl (by decide +kernel), (by decide +kernel)⟩
set_option maxRecDepth 100000 in
theorem im_X7_table : Cond.instanceMethod yX7_table ∈ gT := mem_gT 800 (by decide +kernel) (by decide +kernel)
set_option maxRecDepth 100000 in
theorem se_X7_table : Cond.selects yX7_table.cls yX7_table yX7_table ∈ gT := mem_gT 801 (by decide +kernel) (by decide +kernel)
abbrev MX7_rainTable : MT := (yX7_rainTable, cX7_rainTable, 4, (some .int), { frames := 1, cells := 0, slots := 0, locals := 22 })
set_option maxRecDepth 100000 in
theorem ok_X7_rainTable : okM MX7_rainTable 2 := ⟨ini_X7, mem_gT 810 rfl (by decide +kernel), (by decide +kernel)⟩
set_option maxRecDepth 100000 in
theorem im_X7_rainTable : Cond.instanceMethod yX7_rainTable ∈ gT := mem_gT 808 (by decide +kernel) (by decide +kernel)
set_option maxRecDepth 100000 in
theorem se_X7_rainTable : Cond.selects yX7_rainTable.cls yX7_rainTable yX7_rainTable ∈ gT := mem_gT 809 (by decide +kernel) (by decide +kernel)
abbrev MX7_isSheet : MT := (yX7_isSheet, cX7_isSheet, 1, (some .boolean), { frames := 1, cells := 0, slots := 0, locals := 22 })
set_option maxRecDepth 100000 in
theorem ok_X7_isSheet : okM MX7_isSheet 1 := ⟨ini_X7, mem_gT 817 rfl (by decide +kernel), (by decide +kernel)⟩
set_option maxRecDepth 100000 in
theorem st_X7_isSheet : Cond.static yX7_isSheet ∈ gT := mem_gT 816 (by decide +kernel) (by decide +kernel)
abbrev MX7_sheet : MT := (yX7_sheet, cX7_sheet, 5, (some .int), { frames := 2, cells := 0, slots := 0, locals := 42 })
set_option maxRecDepth 100000 in
theorem ok_X7_sheet : okM MX7_sheet 3 := ⟨ini_X7, mem_gT 814 rfl (by decide +kernel), (by decide +kernel)⟩
set_option maxRecDepth 100000 in
theorem im_X7_sheet : Cond.instanceMethod yX7_sheet ∈ gT := mem_gT 812 (by decide +kernel) (by decide +kernel)
set_option maxRecDepth 100000 in
theorem se_X7_sheet : Cond.selects yX7_sheet.cls yX7_sheet yX7_sheet ∈ gT := mem_gT 813 (by decide +kernel) (by decide +kernel)
abbrev MX7_isNone : MT := (yX7_isNone, cX7_isNone, 1, (some .boolean), { frames := 0, cells := 0, slots := 0, locals := 0 })
set_option maxRecDepth 100000 in
theorem ok_X7_isNone : okM MX7_isNone 1 := ⟨ini_X7, mem_gT 825 rfl (by decide +kernel), (by decide +kernel)⟩
set_option maxRecDepth 100000 in
theorem st_X7_isNone : Cond.static yX7_isNone ∈ gT := mem_gT 824 (by decide +kernel) (by decide +kernel)
abbrev MX7_put : MT := (yX7_put, cX7_put, 4, (some .int), { frames := 2, cells := 0, slots := 0, locals := 42 })
set_option maxRecDepth 100000 in
theorem ok_X7_put : okM MX7_put 3 := ⟨ini_X7, mem_gT 821 rfl (by decide +kernel), (by decide +kernel)⟩
set_option maxRecDepth 100000 in
theorem im_X7_put : Cond.instanceMethod yX7_put ∈ gT := mem_gT 819 (by decide +kernel) (by decide +kernel)
set_option maxRecDepth 100000 in
theorem se_X7_put : Cond.selects yX7_put.cls yX7_put yX7_put ∈ gT := mem_gT 820 (by decide +kernel) (by decide +kernel)
abbrev MX7_copy : MT := (yX7_copy, cX7_copy, 7, (some .int), { frames := 2, cells := 0, slots := 0, locals := 42 })
set_option maxRecDepth 100000 in
theorem ok_X7_copy : okM MX7_copy 5 := ⟨ini_X7, mem_gT 832 rfl (by decide +kernel), (by decide +kernel)⟩
set_option maxRecDepth 100000 in
theorem im_X7_copy : Cond.instanceMethod yX7_copy ∈ gT := mem_gT 830 (by decide +kernel) (by decide +kernel)
set_option maxRecDepth 100000 in
theorem se_X7_copy : Cond.selects yX7_copy.cls yX7_copy yX7_copy ∈ gT := mem_gT 831 (by decide +kernel) (by decide +kernel)
abbrev MX7_cut : MT := (yX7_cut, cX7_cut, 4, (some .int), { frames := 0, cells := 0, slots := 0, locals := 0 })
set_option maxRecDepth 100000 in
theorem ok_X7_cut : okM MX7_cut 1 := ⟨ini_X7, mem_gT 843 rfl (by decide +kernel), (by decide +kernel)⟩
set_option maxRecDepth 100000 in
theorem st_X7_cut : Cond.static yX7_cut ∈ gT := mem_gT 842 (by decide +kernel) (by decide +kernel)
abbrev MX7_draws : MT := (yX7_draws, cX7_draws, 7, (some .int), { frames := 2, cells := 0, slots := 0, locals := 43 })
set_option maxRecDepth 100000 in
theorem ok_X7_draws : okM MX7_draws 3 := ⟨ini_X7, mem_gT 836 rfl (by decide +kernel), (by decide +kernel)⟩
set_option maxRecDepth 100000 in
theorem im_X7_draws : Cond.instanceMethod yX7_draws ∈ gT := mem_gT 834 (by decide +kernel) (by decide +kernel)
set_option maxRecDepth 100000 in
theorem se_X7_draws : Cond.selects yX7_draws.cls yX7_draws yX7_draws ∈ gT := mem_gT 835 (by decide +kernel) (by decide +kernel)
abbrev MX7_draw : MT := (yX7_draw, cX7_draw, 5, (some .int), { frames := 2, cells := 0, slots := 0, locals := 43 })
set_option maxRecDepth 100000 in
theorem ok_X7_draw : okM MX7_draw 3 := ⟨ini_X7, mem_gT 849 rfl (by decide +kernel), (by decide +kernel)⟩
set_option maxRecDepth 100000 in
theorem im_X7_draw : Cond.instanceMethod yX7_draw ∈ gT := mem_gT 847 (by decide +kernel) (by decide +kernel)
set_option maxRecDepth 100000 in
theorem se_X7_draw : Cond.selects yX7_draw.cls yX7_draw yX7_draw ∈ gT := mem_gT 848 (by decide +kernel) (by decide +kernel)
abbrev MX7_sign : MT := (yX7_sign, cX7_sign, 4, (some .int), { frames := 2, cells := 0, slots := 0, locals := 43 })
set_option maxRecDepth 100000 in
theorem ok_X7_sign : okM MX7_sign 2 := ⟨ini_X7, mem_gT 857 rfl (by decide +kernel), (by decide +kernel)⟩
set_option maxRecDepth 100000 in
theorem im_X7_sign : Cond.instanceMethod yX7_sign ∈ gT := mem_gT 856 (by decide +kernel) (by decide +kernel)
set_option maxRecDepth 100000 in
theorem se_X7_sign : Cond.selects yX7_sign.cls yX7_sign yX7_sign ∈ gT := mem_gT 55 (by decide +kernel) (by decide +kernel)
abbrev MX7_counts : MT := (yX7_counts, cX7_counts, 3, (some .int), { frames := 3, cells := 0, slots := 0, locals := 66 })
set_option maxRecDepth 100000 in
theorem ok_X7_counts : okM MX7_counts 2 := ⟨ini_X7, mem_gT 853 rfl (by decide +kernel), (by decide +kernel)⟩
set_option maxRecDepth 100000 in
theorem im_X7_counts : Cond.instanceMethod yX7_counts ∈ gT := mem_gT 851 (by decide +kernel) (by decide +kernel)
set_option maxRecDepth 100000 in
theorem se_X7_counts : Cond.selects yX7_counts.cls yX7_counts yX7_counts ∈ gT := mem_gT 852 (by decide +kernel) (by decide +kernel)
abbrev MX7_rain : MT := (yX7_rain, cX7_rain, 4, (some .int), { frames := 2, cells := 0, slots := 0, locals := 42 })
set_option maxRecDepth 100000 in
theorem ok_X7_rain : okM MX7_rain 2 := ⟨ini_X7, mem_gT 861 rfl (by decide +kernel), (by decide +kernel)⟩
set_option maxRecDepth 100000 in
theorem im_X7_rain : Cond.instanceMethod yX7_rain ∈ gT := mem_gT 859 (by decide +kernel) (by decide +kernel)
set_option maxRecDepth 100000 in
theorem se_X7_rain : Cond.selects yX7_rain.cls yX7_rain yX7_rain ∈ gT := mem_gT 860 (by decide +kernel) (by decide +kernel)
abbrev MX7_dry : MT := (yX7_dry, cX7_dry, 3, (some .int), { frames := 0, cells := 0, slots := 0, locals := 0 })
set_option maxRecDepth 100000 in
theorem ok_X7_dry : okM MX7_dry 0 := ⟨ini_X7, mem_gT 865 rfl (by decide +kernel), (by decide +kernel)⟩
set_option maxRecDepth 100000 in
theorem im_X7_dry : Cond.instanceMethod yX7_dry ∈ gT := mem_gT 863 (by decide +kernel) (by decide +kernel)
set_option maxRecDepth 100000 in
theorem se_X7_dry : Cond.selects yX7_dry.cls yX7_dry yX7_dry ∈ gT := mem_gT 864 (by decide +kernel) (by decide +kernel)
abbrev MX7_share : MT := (yX7_share, cX7_share, 5, (some .int), { frames := 2, cells := 0, slots := 0, locals := 47 })
set_option maxRecDepth 100000 in
theorem ok_X7_share : okM MX7_share 3 := ⟨ini_X7, mem_gT 885 rfl (by decide +kernel), (by decide +kernel)⟩
set_option maxRecDepth 100000 in
theorem im_X7_share : Cond.instanceMethod yX7_share ∈ gT := mem_gT 884 (by decide +kernel) (by decide +kernel)
set_option maxRecDepth 100000 in
theorem se_X7_share : Cond.selects yX7_share.cls yX7_share yX7_share ∈ gT := mem_gT 59 (by decide +kernel) (by decide +kernel)
abbrev MX7_lowering : MT := (yX7_lowering, cX7_lowering, 7, (some .int), { frames := 3, cells := 0, slots := 0, locals := 71 })
set_option maxRecDepth 100000 in
theorem ok_X7_lowering : okM MX7_lowering 4 := ⟨ini_X7, mem_gT 881 rfl (by decide +kernel), (by decide +kernel)⟩
set_option maxRecDepth 100000 in
theorem im_X7_lowering : Cond.instanceMethod yX7_lowering ∈ gT := mem_gT 880 (by decide +kernel) (by decide +kernel)
set_option maxRecDepth 100000 in
theorem se_X7_lowering : Cond.selects yX7_lowering.cls yX7_lowering yX7_lowering ∈ gT := mem_gT 58 (by decide +kernel) (by decide +kernel)
abbrev MX7_rainOf : MT := (yX7_rainOf, cX7_rainOf, 4, (some .int), { frames := 0, cells := 0, slots := 0, locals := 0 })
set_option maxRecDepth 100000 in
theorem ok_X7_rainOf : okM MX7_rainOf 1 := ⟨ini_X7, mem_gT 877 rfl (by decide +kernel), (by decide +kernel)⟩
set_option maxRecDepth 100000 in
theorem im_X7_rainOf : Cond.instanceMethod yX7_rainOf ∈ gT := mem_gT 876 (by decide +kernel) (by decide +kernel)
set_option maxRecDepth 100000 in
theorem se_X7_rainOf : Cond.selects yX7_rainOf.cls yX7_rainOf yX7_rainOf ∈ gT := mem_gT 57 (by decide +kernel) (by decide +kernel)
abbrev MX7_headOf : MT := (yX7_headOf, cX7_headOf, 5, (some .int), { frames := 4, cells := 0, slots := 0, locals := 97 })
set_option maxRecDepth 100000 in
theorem ok_X7_headOf : okM MX7_headOf 2 := ⟨ini_X7, mem_gT 873 rfl (by decide +kernel), (by decide +kernel)⟩
set_option maxRecDepth 100000 in
theorem im_X7_headOf : Cond.instanceMethod yX7_headOf ∈ gT := mem_gT 872 (by decide +kernel) (by decide +kernel)
set_option maxRecDepth 100000 in
theorem se_X7_headOf : Cond.selects yX7_headOf.cls yX7_headOf yX7_headOf ∈ gT := mem_gT 56 (by decide +kernel) (by decide +kernel)
abbrev MX7_head : MT := (yX7_head, cX7_head, 3, (some .int), { frames := 5, cells := 0, slots := 0, locals := 121 })
set_option maxRecDepth 100000 in
theorem ok_X7_head : okM MX7_head 2 := ⟨ini_X7, mem_gT 869 rfl (by decide +kernel), (by decide +kernel)⟩
set_option maxRecDepth 100000 in
theorem im_X7_head : Cond.instanceMethod yX7_head ∈ gT := mem_gT 867 (by decide +kernel) (by decide +kernel)
set_option maxRecDepth 100000 in
theorem se_X7_head : Cond.selects yX7_head.cls yX7_head yX7_head ∈ gT := mem_gT 868 (by decide +kernel) (by decide +kernel)
abbrev MX7_by : MT := (yX7_by, cX7_by, 4, (some .int), { frames := 4, cells := 0, slots := 0, locals := 97 })
set_option maxRecDepth 100000 in
theorem ok_X7_by : okM MX7_by 3 := ⟨ini_X7, mem_gT 889 rfl (by decide +kernel), (by decide +kernel)⟩
set_option maxRecDepth 100000 in
theorem im_X7_by : Cond.instanceMethod yX7_by ∈ gT := mem_gT 887 (by decide +kernel) (by decide +kernel)
set_option maxRecDepth 100000 in
theorem se_X7_by : Cond.selects yX7_by.cls yX7_by yX7_by ∈ gT := mem_gT 888 (by decide +kernel) (by decide +kernel)
abbrev MX7_rained : MT := (yX7_rained, cX7_rained, 3, (some .int), { frames := 2, cells := 0, slots := 0, locals := 43 })
set_option maxRecDepth 100000 in
theorem ok_X7_rained : okM MX7_rained 2 := ⟨ini_X7, mem_gT 893 rfl (by decide +kernel), (by decide +kernel)⟩
set_option maxRecDepth 100000 in
theorem im_X7_rained : Cond.instanceMethod yX7_rained ∈ gT := mem_gT 891 (by decide +kernel) (by decide +kernel)
set_option maxRecDepth 100000 in
theorem se_X7_rained : Cond.selects yX7_rained.cls yX7_rained yX7_rained ∈ gT := mem_gT 892 (by decide +kernel) (by decide +kernel)
abbrev MX7_most : MT := (yX7_most, cX7_most, 7, (some .int), { frames := 4, cells := 0, slots := 0, locals := 97 })
set_option maxRecDepth 100000 in
theorem ok_X7_most : okM MX7_most 2 := ⟨ini_X7, mem_gT 897 rfl (by decide +kernel), (by decide +kernel)⟩
set_option maxRecDepth 100000 in
theorem im_X7_most : Cond.instanceMethod yX7_most ∈ gT := mem_gT 895 (by decide +kernel) (by decide +kernel)
set_option maxRecDepth 100000 in
theorem se_X7_most : Cond.selects yX7_most.cls yX7_most yX7_most ∈ gT := mem_gT 896 (by decide +kernel) (by decide +kernel)
abbrev MX7_above : MT := (yX7_above, cX7_above, 3, (some .int), { frames := 5, cells := 0, slots := 0, locals := 121 })
set_option maxRecDepth 100000 in
theorem ok_X7_above : okM MX7_above 2 := ⟨ini_X7, mem_gT 906 rfl (by decide +kernel), (by decide +kernel)⟩
set_option maxRecDepth 100000 in
theorem im_X7_above : Cond.instanceMethod yX7_above ∈ gT := mem_gT 905 (by decide +kernel) (by decide +kernel)
set_option maxRecDepth 100000 in
theorem se_X7_above : Cond.selects yX7_above.cls yX7_above yX7_above ∈ gT := mem_gT 60 (by decide +kernel) (by decide +kernel)
abbrev MX7_when : MT := (yX7_when, cX7_when, 4, (some .int), { frames := 6, cells := 0, slots := 0, locals := 143 })
set_option maxRecDepth 100000 in
theorem ok_X7_when : okM MX7_when 2 := ⟨ini_X7, mem_gT 902 rfl (by decide +kernel), (by decide +kernel)⟩
set_option maxRecDepth 100000 in
theorem im_X7_when : Cond.instanceMethod yX7_when ∈ gT := mem_gT 900 (by decide +kernel) (by decide +kernel)
set_option maxRecDepth 100000 in
theorem se_X7_when : Cond.selects yX7_when.cls yX7_when yX7_when ∈ gT := mem_gT 901 (by decide +kernel) (by decide +kernel)
abbrev MX7_near : MT := (yX7_near, cX7_near, 5, (some .int), { frames := 6, cells := 0, slots := 0, locals := 143 })
set_option maxRecDepth 100000 in
theorem ok_X7_near : okM MX7_near 2 := ⟨ini_X7, mem_gT 910 rfl (by decide +kernel), (by decide +kernel)⟩
set_option maxRecDepth 100000 in
theorem im_X7_near : Cond.instanceMethod yX7_near ∈ gT := mem_gT 908 (by decide +kernel) (by decide +kernel)
set_option maxRecDepth 100000 in
theorem se_X7_near : Cond.selects yX7_near.cls yX7_near yX7_near ∈ gT := mem_gT 909 (by decide +kernel) (by decide +kernel)
abbrev MX7_low : MT := (yX7_low, cX7_low, 4, (some .int), { frames := 6, cells := 0, slots := 0, locals := 143 })
set_option maxRecDepth 100000 in
theorem ok_X7_low : okM MX7_low 1 := ⟨ini_X7, mem_gT 914 rfl (by decide +kernel), (by decide +kernel)⟩
set_option maxRecDepth 100000 in
theorem im_X7_low : Cond.instanceMethod yX7_low ∈ gT := mem_gT 912 (by decide +kernel) (by decide +kernel)
set_option maxRecDepth 100000 in
theorem se_X7_low : Cond.selects yX7_low.cls yX7_low yX7_low ∈ gT := mem_gT 913 (by decide +kernel) (by decide +kernel)
abbrev MX7_without : MT := (yX7_without, cX7_without, 5, (some .int), { frames := 4, cells := 0, slots := 0, locals := 97 })
set_option maxRecDepth 100000 in
theorem ok_X7_without : okM MX7_without 4 := ⟨ini_X7, mem_gT 918 rfl (by decide +kernel), (by decide +kernel)⟩
set_option maxRecDepth 100000 in
theorem im_X7_without : Cond.instanceMethod yX7_without ∈ gT := mem_gT 916 (by decide +kernel) (by decide +kernel)
set_option maxRecDepth 100000 in
theorem se_X7_without : Cond.selects yX7_without.cls yX7_without yX7_without ∈ gT := mem_gT 917 (by decide +kernel) (by decide +kernel)
abbrev MX7_freeOf : MT := (yX7_freeOf, cX7_freeOf, 7, (some .int), { frames := 6, cells := 0, slots := 0, locals := 143 })
set_option maxRecDepth 100000 in
theorem ok_X7_freeOf : okM MX7_freeOf 2 := ⟨ini_X7, mem_gT 926 rfl (by decide +kernel), (by decide +kernel)⟩
set_option maxRecDepth 100000 in
theorem im_X7_freeOf : Cond.instanceMethod yX7_freeOf ∈ gT := mem_gT 925 (by decide +kernel) (by decide +kernel)
set_option maxRecDepth 100000 in
theorem se_X7_freeOf : Cond.selects yX7_freeOf.cls yX7_freeOf yX7_freeOf ∈ gT := mem_gT 61 (by decide +kernel) (by decide +kernel)
abbrev MX7_isFree : MT := (yX7_isFree, cX7_isFree, 6, (some .boolean), { frames := 1, cells := 0, slots := 0, locals := 20 })
set_option maxRecDepth 100000 in
theorem ok_X7_isFree : okM MX7_isFree 2 := ⟨ini_X7, mem_gT 930 rfl (by decide +kernel), (by decide +kernel)⟩
set_option maxRecDepth 100000 in
theorem im_X7_isFree : Cond.instanceMethod yX7_isFree ∈ gT := mem_gT 929 (by decide +kernel) (by decide +kernel)
set_option maxRecDepth 100000 in
theorem se_X7_isFree : Cond.selects yX7_isFree.cls yX7_isFree yX7_isFree ∈ gT := mem_gT 62 (by decide +kernel) (by decide +kernel)
abbrev MX7_free : MT := (yX7_free, cX7_free, 3, (some .int), { frames := 7, cells := 0, slots := 0, locals := 169 })
set_option maxRecDepth 100000 in
theorem ok_X7_free : okM MX7_free 2 := ⟨ini_X7, mem_gT 922 rfl (by decide +kernel), (by decide +kernel)⟩
set_option maxRecDepth 100000 in
theorem im_X7_free : Cond.instanceMethod yX7_free ∈ gT := mem_gT 920 (by decide +kernel) (by decide +kernel)
set_option maxRecDepth 100000 in
theorem se_X7_free : Cond.selects yX7_free.cls yX7_free yX7_free ∈ gT := mem_gT 921 (by decide +kernel) (by decide +kernel)
abbrev MX7_licenceOf : MT := (yX7_licenceOf, cX7_licenceOf, 3, (some .int), { frames := 0, cells := 0, slots := 0, locals := 0 })
set_option maxRecDepth 100000 in
theorem ok_X7_licenceOf : okM MX7_licenceOf 2 := ⟨ini_X7, mem_gT 942 rfl (by decide +kernel), (by decide +kernel)⟩
set_option maxRecDepth 100000 in
theorem im_X7_licenceOf : Cond.instanceMethod yX7_licenceOf ∈ gT := mem_gT 941 (by decide +kernel) (by decide +kernel)
set_option maxRecDepth 100000 in
theorem se_X7_licenceOf : Cond.selects yX7_licenceOf.cls yX7_licenceOf yX7_licenceOf ∈ gT := mem_gT 63 (by decide +kernel) (by decide +kernel)
abbrev MX7_licence : MT := (yX7_licence, cX7_licence, 5, (some .int), { frames := 2, cells := 0, slots := 0, locals := 43 })
set_option maxRecDepth 100000 in
theorem ok_X7_licence : okM MX7_licence 3 := ⟨ini_X7, mem_gT 934 rfl (by decide +kernel), (by decide +kernel)⟩
set_option maxRecDepth 100000 in
theorem im_X7_licence : Cond.instanceMethod yX7_licence ∈ gT := mem_gT 932 (by decide +kernel) (by decide +kernel)
set_option maxRecDepth 100000 in
theorem se_X7_licence : Cond.selects yX7_licence.cls yX7_licence yX7_licence ∈ gT := mem_gT 933 (by decide +kernel) (by decide +kernel)
abbrev MX7_serve : MT := (yX7_serve, cX7_serve, 12, (some .int), { frames := 7, cells := 0, slots := 0, locals := 169 })
set_option maxRecDepth 100000 in
theorem ok_X7_serve : okM MX7_serve 1 := ⟨ini_X7, mem_gT 938 rfl (by decide +kernel), (by decide +kernel)⟩
set_option maxRecDepth 100000 in
theorem im_X7_serve : Cond.instanceMethod yX7_serve ∈ gT := mem_gT 936 (by decide +kernel) (by decide +kernel)
set_option maxRecDepth 100000 in
theorem se_X7_serve : Cond.selects yX7_serve.cls yX7_serve yX7_serve ∈ gT := mem_gT 937 (by decide +kernel) (by decide +kernel)
abbrev MX7_served : MT := (yX7_served, cX7_served, 3, (some .int), { frames := 1, cells := 0, slots := 0, locals := 22 })
set_option maxRecDepth 100000 in
theorem ok_X7_served : okM MX7_served 2 := ⟨ini_X7, mem_gT 946 rfl (by decide +kernel), (by decide +kernel)⟩
set_option maxRecDepth 100000 in
theorem im_X7_served : Cond.instanceMethod yX7_served ∈ gT := mem_gT 944 (by decide +kernel) (by decide +kernel)
set_option maxRecDepth 100000 in
theorem se_X7_served : Cond.selects yX7_served.cls yX7_served yX7_served ∈ gT := mem_gT 945 (by decide +kernel) (by decide +kernel)
abbrev MX7_hold : MT := (yX7_hold, cX7_hold, 7, (some .int), { frames := 5, cells := 0, slots := 0, locals := 121 })
set_option maxRecDepth 100000 in
theorem ok_X7_hold : okM MX7_hold 3 := ⟨ini_X7, mem_gT 950 rfl (by decide +kernel), (by decide +kernel)⟩
set_option maxRecDepth 100000 in
theorem im_X7_hold : Cond.instanceMethod yX7_hold ∈ gT := mem_gT 948 (by decide +kernel) (by decide +kernel)
set_option maxRecDepth 100000 in
theorem se_X7_hold : Cond.selects yX7_hold.cls yX7_hold yX7_hold ∈ gT := mem_gT 949 (by decide +kernel) (by decide +kernel)
abbrev MX7_move : MT := (yX7_move, cX7_move, 7, (some .int), { frames := 4, cells := 0, slots := 0, locals := 98 })
set_option maxRecDepth 100000 in
theorem ok_X7_move : okM MX7_move 3 := ⟨ini_X7, mem_gT 954 rfl (by decide +kernel), (by decide +kernel)⟩
set_option maxRecDepth 100000 in
theorem im_X7_move : Cond.instanceMethod yX7_move ∈ gT := mem_gT 952 (by decide +kernel) (by decide +kernel)
set_option maxRecDepth 100000 in
theorem se_X7_move : Cond.selects yX7_move.cls yX7_move yX7_move ∈ gT := mem_gT 953 (by decide +kernel) (by decide +kernel)
abbrev MX7_mayMove : MT := (yX7_mayMove, cX7_mayMove, 8, (some .boolean), { frames := 3, cells := 0, slots := 0, locals := 71 })
set_option maxRecDepth 100000 in
theorem ok_X7_mayMove : okM MX7_mayMove 5 := ⟨ini_X7, mem_gT 958 rfl (by decide +kernel), (by decide +kernel)⟩
set_option maxRecDepth 100000 in
theorem im_X7_mayMove : Cond.instanceMethod yX7_mayMove ∈ gT := mem_gT 957 (by decide +kernel) (by decide +kernel)
set_option maxRecDepth 100000 in
theorem se_X7_mayMove : Cond.selects yX7_mayMove.cls yX7_mayMove yX7_mayMove ∈ gT := mem_gT 64 (by decide +kernel) (by decide +kernel)
abbrev MX7_reading : MT := (yX7_reading, cX7_reading, 3, (some .int), { frames := 0, cells := 0, slots := 0, locals := 0 })
set_option maxRecDepth 100000 in
theorem ok_X7_reading : okM MX7_reading 2 := ⟨ini_X7, mem_gT 968 rfl (by decide +kernel), (by decide +kernel)⟩
set_option maxRecDepth 100000 in
theorem im_X7_reading : Cond.instanceMethod yX7_reading ∈ gT := mem_gT 967 (by decide +kernel) (by decide +kernel)
set_option maxRecDepth 100000 in
theorem se_X7_reading : Cond.selects yX7_reading.cls yX7_reading yX7_reading ∈ gT := mem_gT 65 (by decide +kernel) (by decide +kernel)
abbrev MX7_read : MT := (yX7_read, cX7_read, 5, (some .int), { frames := 2, cells := 0, slots := 0, locals := 43 })
set_option maxRecDepth 100000 in
theorem ok_X7_read : okM MX7_read 3 := ⟨ini_X7, mem_gT 962 rfl (by decide +kernel), (by decide +kernel)⟩
set_option maxRecDepth 100000 in
theorem im_X7_read : Cond.instanceMethod yX7_read ∈ gT := mem_gT 960 (by decide +kernel) (by decide +kernel)
set_option maxRecDepth 100000 in
theorem se_X7_read : Cond.selects yX7_read.cls yX7_read yX7_read ∈ gT := mem_gT 961 (by decide +kernel) (by decide +kernel)
abbrev MX7_differ : MT := (yX7_differ, cX7_differ, 4, (some .int), { frames := 5, cells := 0, slots := 0, locals := 121 })
set_option maxRecDepth 100000 in
theorem ok_X7_differ : okM MX7_differ 2 := ⟨ini_X7, mem_gT 972 rfl (by decide +kernel), (by decide +kernel)⟩
set_option maxRecDepth 100000 in
theorem im_X7_differ : Cond.instanceMethod yX7_differ ∈ gT := mem_gT 970 (by decide +kernel) (by decide +kernel)
set_option maxRecDepth 100000 in
theorem se_X7_differ : Cond.selects yX7_differ.cls yX7_differ yX7_differ ∈ gT := mem_gT 971 (by decide +kernel) (by decide +kernel)
abbrev MX7_squaresNow : MT := (yX7_squaresNow, cX7_squaresNow, 8, (some .long), { frames := 5, cells := 0, slots := 0, locals := 121 })
set_option maxRecDepth 100000 in
theorem ok_X7_squaresNow : okM MX7_squaresNow 0 := ⟨ini_X7, mem_gT 984 rfl (by decide +kernel), (by decide +kernel)⟩
set_option maxRecDepth 100000 in
theorem im_X7_squaresNow : Cond.instanceMethod yX7_squaresNow ∈ gT := mem_gT 983 (by decide +kernel) (by decide +kernel)
set_option maxRecDepth 100000 in
theorem se_X7_squaresNow : Cond.selects yX7_squaresNow.cls yX7_squaresNow yX7_squaresNow ∈ gT := mem_gT 67 (by decide +kernel) (by decide +kernel)
abbrev MX7_times : MT := (yX7_times, cX7_times, 6, none, { frames := 1, cells := 0, slots := 0, locals := 22 })
set_option maxRecDepth 100000 in
theorem ok_X7_times : okM MX7_times 3 := ⟨ini_X7, mem_gT 980 rfl (by decide +kernel), (by decide +kernel)⟩
set_option maxRecDepth 100000 in
theorem im_X7_times : Cond.instanceMethod yX7_times ∈ gT := mem_gT 979 (by decide +kernel) (by decide +kernel)
set_option maxRecDepth 100000 in
theorem se_X7_times : Cond.selects yX7_times.cls yX7_times yX7_times ∈ gT := mem_gT 66 (by decide +kernel) (by decide +kernel)
abbrev MX7_fit : MT := (yX7_fit, cX7_fit, 9, (some .int), { frames := 6, cells := 0, slots := 0, locals := 148 })
set_option maxRecDepth 100000 in
theorem ok_X7_fit : okM MX7_fit 2 := ⟨ini_X7, mem_gT 976 rfl (by decide +kernel), (by decide +kernel)⟩
set_option maxRecDepth 100000 in
theorem im_X7_fit : Cond.instanceMethod yX7_fit ∈ gT := mem_gT 974 (by decide +kernel) (by decide +kernel)
set_option maxRecDepth 100000 in
theorem se_X7_fit : Cond.selects yX7_fit.cls yX7_fit yX7_fit ∈ gT := mem_gT 975 (by decide +kernel) (by decide +kernel)
abbrev MX7_squares : MT := (yX7_squares, cX7_squares, 1, (some .long), { frames := 6, cells := 0, slots := 0, locals := 148 })
set_option maxRecDepth 100000 in
theorem ok_X7_squares : okM MX7_squares 0 := ⟨ini_X7, mem_gT 988 rfl (by decide +kernel), (by decide +kernel)⟩
set_option maxRecDepth 100000 in
theorem im_X7_squares : Cond.instanceMethod yX7_squares ∈ gT := mem_gT 986 (by decide +kernel) (by decide +kernel)
set_option maxRecDepth 100000 in
theorem se_X7_squares : Cond.selects yX7_squares.cls yX7_squares yX7_squares ∈ gT := mem_gT 987 (by decide +kernel) (by decide +kernel)
abbrev MX7_keep : MT := (yX7_keep, cX7_keep, 2, (some .int), { frames := 1, cells := 0, slots := 0, locals := 20 })
set_option maxRecDepth 100000 in
theorem ok_X7_keep : okM MX7_keep 0 := ⟨ini_X7, mem_gT 992 rfl (by decide +kernel), (by decide +kernel)⟩
set_option maxRecDepth 100000 in
theorem im_X7_keep : Cond.instanceMethod yX7_keep ∈ gT := mem_gT 990 (by decide +kernel) (by decide +kernel)
set_option maxRecDepth 100000 in
theorem se_X7_keep : Cond.selects yX7_keep.cls yX7_keep yX7_keep ∈ gT := mem_gT 991 (by decide +kernel) (by decide +kernel)
abbrev MX7_back : MT := (yX7_back, cX7_back, 2, (some .int), { frames := 1, cells := 0, slots := 0, locals := 21 })
set_option maxRecDepth 100000 in
theorem ok_X7_back : okM MX7_back 0 := ⟨ini_X7, mem_gT 996 rfl (by decide +kernel), (by decide +kernel)⟩
set_option maxRecDepth 100000 in
theorem im_X7_back : Cond.instanceMethod yX7_back ∈ gT := mem_gT 994 (by decide +kernel) (by decide +kernel)
set_option maxRecDepth 100000 in
theorem se_X7_back : Cond.selects yX7_back.cls yX7_back yX7_back ∈ gT := mem_gT 995 (by decide +kernel) (by decide +kernel)
abbrev MX7_told : MT := (yX7_told, cX7_told, 2, (some .int), { frames := 1, cells := 0, slots := 0, locals := 21 })
set_option maxRecDepth 100000 in
theorem ok_X7_told : okM MX7_told 1 := ⟨ini_X7, mem_gT 1000 rfl (by decide +kernel), (by decide +kernel)⟩
set_option maxRecDepth 100000 in
theorem im_X7_told : Cond.instanceMethod yX7_told ∈ gT := mem_gT 998 (by decide +kernel) (by decide +kernel)
set_option maxRecDepth 100000 in
theorem se_X7_told : Cond.selects yX7_told.cls yX7_told yX7_told ∈ gT := mem_gT 999 (by decide +kernel) (by decide +kernel)
set_option maxRecDepth 100000 in
theorem lX6_34 : LkS RX6 34 MX6_isKind 1 := ⟨Or.inl (mem_gT 267 (by decide +kernel) (by decide +kernel)), ok_X6_isKind, st_X6_isKind⟩
set_option maxRecDepth 100000 in
theorem lX6_38 : LkS RX6 38 MX6_isPlace 1 := ⟨Or.inl (mem_gT 273 (by decide +kernel) (by decide +kernel)), ok_X6_isPlace, st_X6_isPlace⟩
set_option maxRecDepth 100000 in
theorem lX6_41 : LkS RX6 41 MX6_isHeadBound 1 := ⟨Or.inl (mem_gT 276 (by decide +kernel) (by decide +kernel)), ok_X6_isHeadBound, st_X6_isHeadBound⟩
set_option maxRecDepth 100000 in
theorem lX6_45 : LkV RX6 45 MX6_finding 1 := ⟨Or.inl (mem_gT 282 (by decide +kernel) (by decide +kernel)), ok_X6_finding, im_X6_finding, se_X6_finding⟩
set_option maxRecDepth 100000 in
theorem lX6_59 : LkV RX6 59 MX5_add 4 := ⟨Or.inr ⟨"WellField", mem_nT 287 (by decide +kernel) (by decide +kernel)⟩, ok_X5_add, im_X5_add, se_X5_add⟩
set_option maxRecDepth 100000 in
theorem lX6_63 : LkV RX6 63 MX6_isWell 1 := ⟨Or.inl (mem_gT 296 (by decide +kernel) (by decide +kernel)), ok_X6_isWell, im_X6_isWell, se_X6_isWell⟩
set_option maxRecDepth 100000 in
theorem lX6_70 : LkV RX6 70 MX5_isOneOf 2 := ⟨Or.inr ⟨"WellField", mem_nT 304 (by decide +kernel) (by decide +kernel)⟩, ok_X5_isOneOf, im_X5_isOneOf, se_X5_isOneOf⟩
set_option maxRecDepth 100000 in
theorem lX6_87 : LkV RX6 87 MX4_sumOfDraws 1 := ⟨Or.inr ⟨"WellField", mem_nT 313 (by decide +kernel) (by decide +kernel)⟩, ok_X4_sumOfDraws, im_X4_sumOfDraws, se_X4_sumOfDraws⟩
set_option maxRecDepth 100000 in
theorem lX6_90 : LkV RX6 90 MX5_apart 2 := ⟨Or.inr ⟨"WellField", mem_nT 325 (by decide +kernel) (by decide +kernel)⟩, ok_X5_apart, im_X5_apart, se_X5_apart⟩
set_option maxRecDepth 100000 in
theorem lX6_94 : LkS RX6 94 MX6_isLayer 1 := ⟨Or.inl (mem_gT 342 (by decide +kernel) (by decide +kernel)), ok_X6_isLayer, st_X6_isLayer⟩
set_option maxRecDepth 100000 in
theorem lX6_97 : LkS RX6 97 MX6_isAge 1 := ⟨Or.inl (mem_gT 345 (by decide +kernel) (by decide +kernel)), ok_X6_isAge, st_X6_isAge⟩
set_option maxRecDepth 100000 in
theorem lX6_100 : LkS RX6 100 MX6_isAmount 1 := ⟨Or.inl (mem_gT 348 (by decide +kernel) (by decide +kernel)), ok_X6_isAmount, st_X6_isAmount⟩
set_option maxRecDepth 100000 in
theorem lX6_103 : LkS RX6 103 MX6_within 3 := ⟨Or.inl (mem_gT 270 (by decide +kernel) (by decide +kernel)), ok_X6_within, st_X6_within⟩
set_option maxRecDepth 100000 in
theorem lX6_111 : LkV RX6 111 MX3_keepsOrder 4 := ⟨Or.inr ⟨"WellField", mem_nT 351 (by decide +kernel) (by decide +kernel)⟩, ok_X3_keepsOrder, im_X3_keepsOrder, se_X3_keepsOrder⟩
set_option maxRecDepth 100000 in
theorem lX6_118 : LkS RX6 118 MX3_row 2 := ⟨Or.inr ⟨"WellField", mem_nT 356 (by decide +kernel) (by decide +kernel)⟩, ok_X3_row, st_X3_row⟩
set_option maxRecDepth 100000 in
theorem lX6_127 : LkS RX6 127 MX6_isSheet 1 := ⟨Or.inl (mem_gT 365 (by decide +kernel) (by decide +kernel)), ok_X6_isSheet, st_X6_isSheet⟩
set_option maxRecDepth 100000 in
theorem lX6_130 : LkV RX6 130 MX2_start 2 := ⟨Or.inr ⟨"WellField", mem_nT 368 (by decide +kernel) (by decide +kernel)⟩, ok_X2_start, im_X2_start, se_X2_start⟩
set_option maxRecDepth 100000 in
theorem lX6_133 : LkV RX6 133 MX2_isMissing 0 := ⟨Or.inr ⟨"WellField", mem_nT 379 (by decide +kernel) (by decide +kernel)⟩, ok_X2_isMissing, im_X2_isMissing, se_X2_isMissing⟩
set_option maxRecDepth 100000 in
theorem lX6_139 : LkV RX6 139 MX2_write 2 := ⟨Or.inr ⟨"WellField", mem_nT 384 (by decide +kernel) (by decide +kernel)⟩, ok_X2_write, im_X2_write, se_X2_write⟩
set_option maxRecDepth 100000 in
theorem lX6_146 : LkV RX6 146 MX2_hasPart 2 := ⟨Or.inr ⟨"WellField", mem_nT 398 (by decide +kernel) (by decide +kernel)⟩, ok_X2_hasPart, im_X2_hasPart, se_X2_hasPart⟩
set_option maxRecDepth 100000 in
theorem lX6_152 : Cond.methodLink RX6 152 arraycopyName ∈ gT := mem_gT 402 (by decide +kernel) (by decide +kernel)
set_option maxRecDepth 100000 in
theorem lX6_158 : LkS RX6 158 MX6_isMonth 1 := ⟨Or.inl (mem_gT 409 (by decide +kernel) (by decide +kernel)), ok_X6_isMonth, st_X6_isMonth⟩
set_option maxRecDepth 100000 in
theorem lX6_161 : Cond.methodLink RX6 161 Lib.Math.min.name ∈ gT := mem_gT 412 (by decide +kernel) (by decide +kernel)
set_option maxRecDepth 100000 in
theorem lX6_166 : LkV RX6 166 MX2_startsWithNumbers 1 := ⟨Or.inr ⟨"WellField", mem_nT 413 (by decide +kernel) (by decide +kernel)⟩, ok_X2_startsWithNumbers, im_X2_startsWithNumbers, se_X2_startsWithNumbers⟩
set_option maxRecDepth 100000 in
theorem lX6_170 : LkV RX6 170 MX2_startsWithAmounts 1 := ⟨Or.inr ⟨"WellField", mem_nT 418 (by decide +kernel) (by decide +kernel)⟩, ok_X2_startsWithAmounts, im_X2_startsWithAmounts, se_X2_startsWithAmounts⟩
set_option maxRecDepth 100000 in
theorem lX6_173 : LkV RX6 173 MX2_whole 1 := ⟨Or.inr ⟨"WellField", mem_nT 433 (by decide +kernel) (by decide +kernel)⟩, ok_X2_whole, im_X2_whole, se_X2_whole⟩
set_option maxRecDepth 100000 in
theorem lX6_176 : LkV RX6 176 MX4_setDraw 3 := ⟨Or.inr ⟨"WellField", mem_nT 434 (by decide +kernel) (by decide +kernel)⟩, ok_X4_setDraw, im_X4_setDraw, se_X4_setDraw⟩
set_option maxRecDepth 100000 in
theorem lX6_180 : LkV RX6 180 MX4_drawOf 2 := ⟨Or.inr ⟨"WellField", mem_nT 442 (by decide +kernel) (by decide +kernel)⟩, ok_X4_drawOf, im_X4_drawOf, se_X4_drawOf⟩
set_option maxRecDepth 100000 in
theorem lX6_183 : LkV RX6 183 MX4_counted 2 := ⟨Or.inr ⟨"WellField", mem_nT 447 (by decide +kernel) (by decide +kernel)⟩, ok_X4_counted, im_X4_counted, se_X4_counted⟩
set_option maxRecDepth 100000 in
theorem lX6_192 : LkS RX6 192 MX6_clear 1 := ⟨Or.inl (mem_gT 465 (by decide +kernel) (by decide +kernel)), ok_X6_clear, st_X6_clear⟩
set_option maxRecDepth 100000 in
theorem lX6_196 : LkV RX6 196 MX4_headOf 2 := ⟨Or.inr ⟨"WellField", mem_nT 470 (by decide +kernel) (by decide +kernel)⟩, ok_X4_headOf, im_X4_headOf, se_X4_headOf⟩
set_option maxRecDepth 100000 in
theorem lX6_199 : LkV RX6 199 MX4_lowering 4 := ⟨Or.inr ⟨"WellField", mem_nT 497 (by decide +kernel) (by decide +kernel)⟩, ok_X4_lowering, im_X4_lowering, se_X4_lowering⟩
set_option maxRecDepth 100000 in
theorem lX6_202 : LkV RX6 202 MX4_raisedByRain 1 := ⟨Or.inr ⟨"WellField", mem_nT 502 (by decide +kernel) (by decide +kernel)⟩, ok_X4_raisedByRain, im_X4_raisedByRain, se_X4_raisedByRain⟩
set_option maxRecDepth 100000 in
theorem lX6_206 : LkV RX6 206 MX4_aboveLimit 2 := ⟨Or.inr ⟨"WellField", mem_nT 512 (by decide +kernel) (by decide +kernel)⟩, ok_X4_aboveLimit, im_X4_aboveLimit, se_X4_aboveLimit⟩
set_option maxRecDepth 100000 in
theorem lX6_209 : LkV RX6 209 MX4_findSpare 1 := ⟨Or.inr ⟨"WellField", mem_nT 533 (by decide +kernel) (by decide +kernel)⟩, ok_X4_findSpare, im_X4_findSpare, se_X4_findSpare⟩
set_option maxRecDepth 100000 in
theorem lX6_213 : LkV RX6 213 MX4_freeOf 2 := ⟨Or.inr ⟨"WellField", mem_nT 538 (by decide +kernel) (by decide +kernel)⟩, ok_X4_freeOf, im_X4_freeOf, se_X4_freeOf⟩
set_option maxRecDepth 100000 in
theorem lX6_216 : LkV RX6 216 MX5_isDrawing 1 := ⟨Or.inr ⟨"WellField", mem_nT 556 (by decide +kernel) (by decide +kernel)⟩, ok_X5_isDrawing, im_X5_isDrawing, se_X5_isDrawing⟩
set_option maxRecDepth 100000 in
theorem lX6_226 : LkV RX6 226 MX0_add 3 := ⟨Or.inr ⟨"WellField", mem_nT 557 (by decide +kernel) (by decide +kernel)⟩, ok_X0_add, im_X0_add, se_X0_add⟩
set_option maxRecDepth 100000 in
theorem lX6_229 : LkV RX6 229 MX4_unserve 1 := ⟨Or.inr ⟨"WellField", mem_nT 565 (by decide +kernel) (by decide +kernel)⟩, ok_X4_unserve, im_X4_unserve, se_X4_unserve⟩
set_option maxRecDepth 100000 in
theorem lX6_232 : LkV RX6 232 MX0_nextUnserved 0 := ⟨Or.inr ⟨"WellField", mem_nT 570 (by decide +kernel) (by decide +kernel)⟩, ok_X0_nextUnserved, im_X0_nextUnserved, se_X0_nextUnserved⟩
set_option maxRecDepth 100000 in
theorem lX6_238 : LkV RX6 238 MX4_grant 3 := ⟨Or.inr ⟨"WellField", mem_nT 574 (by decide +kernel) (by decide +kernel)⟩, ok_X4_grant, im_X4_grant, se_X4_grant⟩
set_option maxRecDepth 100000 in
theorem lX6_247 : LkV RX6 247 MX4_leastToHold 3 := ⟨Or.inr ⟨"WellField", mem_nT 594 (by decide +kernel) (by decide +kernel)⟩, ok_X4_leastToHold, im_X4_leastToHold, se_X4_leastToHold⟩
set_option maxRecDepth 100000 in
theorem lX6_250 : LkV RX6 250 MX4_mostToMove 3 := ⟨Or.inr ⟨"WellField", mem_nT 602 (by decide +kernel) (by decide +kernel)⟩, ok_X4_mostToMove, im_X4_mostToMove, se_X4_mostToMove⟩
set_option maxRecDepth 100000 in
theorem lX6_259 : LkV RX6 259 MX1_has 2 := ⟨Or.inr ⟨"WellField", mem_nT 613 (by decide +kernel) (by decide +kernel)⟩, ok_X1_has, im_X1_has, se_X1_has⟩
set_option maxRecDepth 100000 in
theorem lX6_265 : LkV RX6 265 MX1_write 3 := ⟨Or.inr ⟨"WellField", mem_nT 617 (by decide +kernel) (by decide +kernel)⟩, ok_X1_write, im_X1_write, se_X1_write⟩
set_option maxRecDepth 100000 in
theorem lX6_267 : LkV RX6 267 MX4_difference 2 := ⟨Or.inr ⟨"WellField", mem_nT 626 (by decide +kernel) (by decide +kernel)⟩, ok_X4_difference, im_X4_difference, se_X4_difference⟩
set_option maxRecDepth 100000 in
theorem lX6_270 : LkV RX6 270 MX3_startTrial 2 := ⟨Or.inr ⟨"WellField", mem_nT 638 (by decide +kernel) (by decide +kernel)⟩, ok_X3_startTrial, im_X3_startTrial, se_X3_startTrial⟩
set_option maxRecDepth 100000 in
theorem lX6_277 : LkV RX6 277 MX3_tryFactor 3 := ⟨Or.inr ⟨"WellField", mem_nT 643 (by decide +kernel) (by decide +kernel)⟩, ok_X3_tryFactor, im_X3_tryFactor, se_X3_tryFactor⟩
set_option maxRecDepth 100000 in
theorem lX6_280 : LkV RX6 280 MX4_sumOfSquares 0 := ⟨Or.inr ⟨"WellField", mem_nT 648 (by decide +kernel) (by decide +kernel)⟩, ok_X4_sumOfSquares, im_X4_sumOfSquares, se_X4_sumOfSquares⟩
set_option maxRecDepth 100000 in
theorem lX6_284 : LkV RX6 284 MX4_take 1 := ⟨Or.inr ⟨"WellField", mem_nT 662 (by decide +kernel) (by decide +kernel)⟩, ok_X4_take, im_X4_take, se_X4_take⟩
set_option maxRecDepth 100000 in
theorem lX0_28 : LkS RX0 28 MX6_copyRow 2 := ⟨Or.inr ⟨"WellField", mem_nT 682 (by decide +kernel) (by decide +kernel)⟩, ok_X6_copyRow, st_X6_copyRow⟩
set_option maxRecDepth 100000 in
theorem lX1_22 : LkV RX1 22 MX1_has 2 := ⟨Or.inl (mem_gT 621 (by decide +kernel) (by decide +kernel)), ok_X1_has, im_X1_has, se_X1_has⟩
set_option maxRecDepth 100000 in
theorem lX1_26 : LkS RX1 26 MX6_copyRow 2 := ⟨Or.inr ⟨"WellField", mem_nT 687 (by decide +kernel) (by decide +kernel)⟩, ok_X6_copyRow, st_X6_copyRow⟩
set_option maxRecDepth 100000 in
theorem lX2_22 : LkS RX2 22 MX6_clear 1 := ⟨Or.inr ⟨"WellField", mem_nT 372 (by decide +kernel) (by decide +kernel)⟩, ok_X6_clear, st_X6_clear⟩
set_option maxRecDepth 100000 in
theorem lX2_26 : LkS RX2 26 MX2_isNoNumber 1 := ⟨Or.inl (mem_gT 388 (by decide +kernel) (by decide +kernel)), ok_X2_isNoNumber, st_X2_isNoNumber⟩
set_option maxRecDepth 100000 in
theorem lX2_31 : LkV RX2 31 MX2_whole 1 := ⟨Or.inl (mem_gT 422 (by decide +kernel) (by decide +kernel)), ok_X2_whole, im_X2_whole, se_X2_whole⟩
set_option maxRecDepth 100000 in
theorem lX2_35 : LkS RX2 35 MX6_isAmount 1 := ⟨Or.inr ⟨"WellField", mem_nT 432 (by decide +kernel) (by decide +kernel)⟩, ok_X6_isAmount, st_X6_isAmount⟩
set_option maxRecDepth 100000 in
theorem lX2_38 : LkS RX2 38 MX2_cut 1 := ⟨Or.inl (mem_gT 426 (by decide +kernel) (by decide +kernel)), ok_X2_cut, st_X2_cut⟩
set_option maxRecDepth 100000 in
theorem lX3_21 : LkS RX3 21 MX3_row 2 := ⟨Or.inl (mem_gT 135 (by decide +kernel) (by decide +kernel)), ok_X3_row, st_X3_row⟩
set_option maxRecDepth 100000 in
theorem lX3_25 : Cond.methodLink RX3 25 Lib.Math.min.name ∈ gT := mem_gT 647 (by decide +kernel) (by decide +kernel)
set_option maxRecDepth 100000 in
theorem lX3_30 : LkS RX3 30 MX6_copyRow 2 := ⟨Or.inr ⟨"WellField", mem_nT 677 (by decide +kernel) (by decide +kernel)⟩, ok_X6_copyRow, st_X6_copyRow⟩
set_option maxRecDepth 100000 in
theorem lX4_49 : LkV RX4 49 MX4_drawOf 2 := ⟨Or.inl (mem_gT 317 (by decide +kernel) (by decide +kernel)), ok_X4_drawOf, im_X4_drawOf, se_X4_drawOf⟩
set_option maxRecDepth 100000 in
theorem lX4_53 : LkV RX4 53 MX5_isOwnMonth 2 := ⟨Or.inr ⟨"WellField", mem_nT 451 (by decide +kernel) (by decide +kernel)⟩, ok_X5_isOwnMonth, im_X5_isOwnMonth, se_X5_isOwnMonth⟩
set_option maxRecDepth 100000 in
theorem lX4_63 : LkV RX4 63 MX5_layer 2 := ⟨Or.inr ⟨"WellField", mem_nT 487 (by decide +kernel) (by decide +kernel)⟩, ok_X5_layer, im_X5_layer, se_X5_layer⟩
set_option maxRecDepth 100000 in
theorem lX4_66 : LkV RX4 66 MX5_apart 2 := ⟨Or.inr ⟨"WellField", mem_nT 491 (by decide +kernel) (by decide +kernel)⟩, ok_X5_apart, im_X5_apart, se_X5_apart⟩
set_option maxRecDepth 100000 in
theorem lX4_69 : LkS RX4 69 MX3_row 2 := ⟨Or.inr ⟨"WellField", mem_nT 492 (by decide +kernel) (by decide +kernel)⟩, ok_X3_row, st_X3_row⟩
set_option maxRecDepth 100000 in
theorem lX4_72 : LkV RX4 72 MX4_rowBetween 2 := ⟨Or.inl (mem_gT 483 (by decide +kernel) (by decide +kernel)), ok_X4_rowBetween, im_X4_rowBetween, se_X4_rowBetween⟩
set_option maxRecDepth 100000 in
theorem lX4_75 : Cond.methodLink RX4 75 Lib.Math.max.name ∈ gT := mem_gT 478 (by decide +kernel) (by decide +kernel)
set_option maxRecDepth 100000 in
theorem lX4_89 : LkV RX4 89 MX4_raisedByRain 1 := ⟨Or.inl (mem_gT 474 (by decide +kernel) (by decide +kernel)), ok_X4_raisedByRain, im_X4_raisedByRain, se_X4_raisedByRain⟩
set_option maxRecDepth 100000 in
theorem lX4_97 : LkV RX4 97 MX4_lowering 4 := ⟨Or.inl (mem_gT 479 (by decide +kernel) (by decide +kernel)), ok_X4_lowering, im_X4_lowering, se_X4_lowering⟩
set_option maxRecDepth 100000 in
theorem lX4_101 : LkV RX4 101 MX4_headOf 2 := ⟨Or.inl (mem_gT 516 (by decide +kernel) (by decide +kernel)), ok_X4_headOf, im_X4_headOf, se_X4_headOf⟩
set_option maxRecDepth 100000 in
theorem lX4_107 : LkV RX4 107 MX4_aboveLimit 2 := ⟨Or.inl (mem_gT 537 (by decide +kernel) (by decide +kernel)), ok_X4_aboveLimit, im_X4_aboveLimit, se_X4_aboveLimit⟩
set_option maxRecDepth 100000 in
theorem lX4_110 : LkV RX4 110 MX4_loweringOfOneMore 4 := ⟨Or.inl (mem_gT 547 (by decide +kernel) (by decide +kernel)), ok_X4_loweringOfOneMore, im_X4_loweringOfOneMore, se_X4_loweringOfOneMore⟩
set_option maxRecDepth 100000 in
theorem lX4_113 : LkV RX4 113 MX5_isDrawing 1 := ⟨Or.inr ⟨"WellField", mem_nT 542 (by decide +kernel) (by decide +kernel)⟩, ok_X5_isDrawing, im_X5_isDrawing, se_X5_isDrawing⟩
set_option maxRecDepth 100000 in
theorem lX4_117 : Cond.methodLink RX4 117 Lib.Math.min.name ∈ gT := mem_gT 551 (by decide +kernel) (by decide +kernel)
set_option maxRecDepth 100000 in
theorem lX4_126 : LkV RX4 126 MX4_setDraw 3 := ⟨Or.inl (mem_gT 569 (by decide +kernel) (by decide +kernel)), ok_X4_setDraw, im_X4_setDraw, se_X4_setDraw⟩
set_option maxRecDepth 100000 in
theorem lX4_133 : LkV RX4 133 MX4_roomForDraws 2 := ⟨Or.inl (mem_gT 578 (by decide +kernel) (by decide +kernel)), ok_X4_roomForDraws, im_X4_roomForDraws, se_X4_roomForDraws⟩
set_option maxRecDepth 100000 in
theorem lX4_136 : LkV RX4 136 MX4_useSpare 3 := ⟨Or.inl (mem_gT 582 (by decide +kernel) (by decide +kernel)), ok_X4_useSpare, im_X4_useSpare, se_X4_useSpare⟩
set_option maxRecDepth 100000 in
theorem lX4_139 : LkV RX4 139 MX4_counted 2 := ⟨Or.inl (mem_gT 606 (by decide +kernel) (by decide +kernel)), ok_X4_counted, im_X4_counted, se_X4_counted⟩
set_option maxRecDepth 100000 in
theorem lX4_142 : LkV RX4 142 MX1_at 2 := ⟨Or.inr ⟨"WellField", mem_nT 630 (by decide +kernel) (by decide +kernel)⟩, ok_X1_at, im_X1_at, se_X1_at⟩
set_option maxRecDepth 100000 in
theorem lX4_145 : LkV RX4 145 MX1_has 2 := ⟨Or.inr ⟨"WellField", mem_nT 652 (by decide +kernel) (by decide +kernel)⟩, ok_X1_has, im_X1_has, se_X1_has⟩
set_option maxRecDepth 100000 in
theorem lX4_148 : LkV RX4 148 MX4_difference 2 := ⟨Or.inl (mem_gT 653 (by decide +kernel) (by decide +kernel)), ok_X4_difference, im_X4_difference, se_X4_difference⟩
set_option maxRecDepth 100000 in
theorem lX4_151 : LkV RX4 151 MX5_take 1 := ⟨Or.inr ⟨"WellField", mem_nT 666 (by decide +kernel) (by decide +kernel)⟩, ok_X5_take, im_X5_take, se_X5_take⟩
set_option maxRecDepth 100000 in
theorem lX4_155 : LkV RX4 155 MX3_take 1 := ⟨Or.inr ⟨"WellField", mem_nT 673 (by decide +kernel) (by decide +kernel)⟩, ok_X3_take, im_X3_take, se_X3_take⟩
set_option maxRecDepth 100000 in
theorem lX4_158 : LkV RX4 158 MX0_take 1 := ⟨Or.inr ⟨"WellField", mem_nT 678 (by decide +kernel) (by decide +kernel)⟩, ok_X0_take, im_X0_take, se_X0_take⟩
set_option maxRecDepth 100000 in
theorem lX4_161 : LkV RX4 161 MX1_take 1 := ⟨Or.inr ⟨"WellField", mem_nT 683 (by decide +kernel) (by decide +kernel)⟩, ok_X1_take, im_X1_take, se_X1_take⟩
set_option maxRecDepth 100000 in
theorem lX4_164 : LkS RX4 164 MX6_copyRow 2 := ⟨Or.inr ⟨"WellField", mem_nT 688 (by decide +kernel) (by decide +kernel)⟩, ok_X6_copyRow, st_X6_copyRow⟩
set_option maxRecDepth 100000 in
theorem lX5_35 : Cond.methodLink RX5 35 Lib.Math.abs.name ∈ gT := mem_gT 329 (by decide +kernel) (by decide +kernel)
set_option maxRecDepth 100000 in
theorem lX5_41 : Cond.methodLink RX5 41 Lib.Math.max.name ∈ gT := mem_gT 332 (by decide +kernel) (by decide +kernel)
set_option maxRecDepth 100000 in
theorem lX5_45 : Cond.methodLink RX5 45 Lib.Math.min.name ∈ gT := mem_gT 335 (by decide +kernel) (by decide +kernel)
set_option maxRecDepth 100000 in
theorem lX5_48 : LkS RX5 48 MX6_copyRow 2 := ⟨Or.inr ⟨"WellField", mem_nT 670 (by decide +kernel) (by decide +kernel)⟩, ok_X6_copyRow, st_X6_copyRow⟩
set_option maxRecDepth 100000 in
theorem lL_13 : LkV RL 13 MX6_well 4 := ⟨Or.inl (mem_gT 263 (by decide +kernel) (by decide +kernel)), ok_X6_well, im_X6_well, se_X6_well⟩
set_option maxRecDepth 100000 in
theorem lL_17 : LkV RL 17 MX7_well 4 := ⟨Or.inl (mem_gT 740 (by decide +kernel) (by decide +kernel)), ok_X7_well, im_X7_well, se_X7_well⟩
set_option maxRecDepth 100000 in
theorem lL_18 : LkV RL 18 MX6_limit 2 := ⟨Or.inl (mem_gT 292 (by decide +kernel) (by decide +kernel)), ok_X6_limit, im_X6_limit, se_X6_limit⟩
set_option maxRecDepth 100000 in
theorem lL_22 : LkV RL 22 MX7_limit 2 := ⟨Or.inl (mem_gT 762 (by decide +kernel) (by decide +kernel)), ok_X7_limit, im_X7_limit, se_X7_limit⟩
set_option maxRecDepth 100000 in
theorem lL_23 : LkV RL 23 MX6_as 2 := ⟨Or.inl (mem_gT 300 (by decide +kernel) (by decide +kernel)), ok_X6_as, im_X6_as, se_X6_as⟩
set_option maxRecDepth 100000 in
theorem lL_26 : LkV RL 26 MX7_as 2 := ⟨Or.inl (mem_gT 774 (by decide +kernel) (by decide +kernel)), ok_X7_as, im_X7_as, se_X7_as⟩
set_option maxRecDepth 100000 in
theorem lL_27 : LkV RL 27 MX6_of 2 := ⟨Or.inl (mem_gT 309 (by decide +kernel) (by decide +kernel)), ok_X6_of, im_X6_of, se_X6_of⟩
set_option maxRecDepth 100000 in
theorem lL_30 : LkV RL 30 MX7_of 2 := ⟨Or.inl (mem_gT 783 (by decide +kernel) (by decide +kernel)), ok_X7_of, im_X7_of, se_X7_of⟩
set_option maxRecDepth 100000 in
theorem lL_31 : LkV RL 31 MX6_distance 2 := ⟨Or.inl (mem_gT 321 (by decide +kernel) (by decide +kernel)), ok_X6_distance, im_X6_distance, se_X6_distance⟩
set_option maxRecDepth 100000 in
theorem lL_34 : LkV RL 34 MX7_distance 2 := ⟨Or.inl (mem_gT 791 (by decide +kernel) (by decide +kernel)), ok_X7_distance, im_X7_distance, se_X7_distance⟩
set_option maxRecDepth 100000 in
theorem lL_35 : LkV RL 35 MX6_table 4 := ⟨Or.inl (mem_gT 338 (by decide +kernel) (by decide +kernel)), ok_X6_table, im_X6_table, se_X6_table⟩
set_option maxRecDepth 100000 in
theorem lL_38 : LkV RL 38 MX7_table 4 := ⟨Or.inl (mem_gT 799 (by decide +kernel) (by decide +kernel)), ok_X7_table, im_X7_table, se_X7_table⟩
set_option maxRecDepth 100000 in
theorem lL_39 : LkV RL 39 MX6_rainTable 2 := ⟨Or.inl (mem_gT 357 (by decide +kernel) (by decide +kernel)), ok_X6_rainTable, im_X6_rainTable, se_X6_rainTable⟩
set_option maxRecDepth 100000 in
theorem lL_42 : LkV RL 42 MX7_rainTable 2 := ⟨Or.inl (mem_gT 807 (by decide +kernel) (by decide +kernel)), ok_X7_rainTable, im_X7_rainTable, se_X7_rainTable⟩
set_option maxRecDepth 100000 in
theorem lL_43 : LkV RL 43 MX6_sheet 3 := ⟨Or.inl (mem_gT 361 (by decide +kernel) (by decide +kernel)), ok_X6_sheet, im_X6_sheet, se_X6_sheet⟩
set_option maxRecDepth 100000 in
theorem lL_47 : LkV RL 47 MX7_sheet 3 := ⟨Or.inl (mem_gT 811 (by decide +kernel) (by decide +kernel)), ok_X7_sheet, im_X7_sheet, se_X7_sheet⟩
set_option maxRecDepth 100000 in
theorem lL_48 : LkV RL 48 MX6_put 3 := ⟨Or.inl (mem_gT 375 (by decide +kernel) (by decide +kernel)), ok_X6_put, im_X6_put, se_X6_put⟩
set_option maxRecDepth 100000 in
theorem lL_51 : LkV RL 51 MX7_put 3 := ⟨Or.inl (mem_gT 818 (by decide +kernel) (by decide +kernel)), ok_X7_put, im_X7_put, se_X7_put⟩
set_option maxRecDepth 100000 in
theorem lL_52 : LkV RL 52 MX6_copy 5 := ⟨Or.inl (mem_gT 394 (by decide +kernel) (by decide +kernel)), ok_X6_copy, im_X6_copy, se_X6_copy⟩
set_option maxRecDepth 100000 in
theorem lL_56 : LkV RL 56 MX7_copy 5 := ⟨Or.inl (mem_gT 829 (by decide +kernel) (by decide +kernel)), ok_X7_copy, im_X7_copy, se_X7_copy⟩
set_option maxRecDepth 100000 in
theorem lL_57 : LkV RL 57 MX6_draws 3 := ⟨Or.inl (mem_gT 405 (by decide +kernel) (by decide +kernel)), ok_X6_draws, im_X6_draws, se_X6_draws⟩
set_option maxRecDepth 100000 in
theorem lL_60 : LkV RL 60 MX7_draws 3 := ⟨Or.inl (mem_gT 833 (by decide +kernel) (by decide +kernel)), ok_X7_draws, im_X7_draws, se_X7_draws⟩
set_option maxRecDepth 100000 in
theorem lL_61 : LkV RL 61 MX6_draw 3 := ⟨Or.inl (mem_gT 438 (by decide +kernel) (by decide +kernel)), ok_X6_draw, im_X6_draw, se_X6_draw⟩
set_option maxRecDepth 100000 in
theorem lL_64 : LkV RL 64 MX7_draw 3 := ⟨Or.inl (mem_gT 846 (by decide +kernel) (by decide +kernel)), ok_X7_draw, im_X7_draw, se_X7_draw⟩
set_option maxRecDepth 100000 in
theorem lL_65 : LkV RL 65 MX6_counts 2 := ⟨Or.inl (mem_gT 443 (by decide +kernel) (by decide +kernel)), ok_X6_counts, im_X6_counts, se_X6_counts⟩
set_option maxRecDepth 100000 in
theorem lL_68 : LkV RL 68 MX7_counts 2 := ⟨Or.inl (mem_gT 850 (by decide +kernel) (by decide +kernel)), ok_X7_counts, im_X7_counts, se_X7_counts⟩
set_option maxRecDepth 100000 in
theorem lL_69 : LkV RL 69 MX6_rain 2 := ⟨Or.inl (mem_gT 457 (by decide +kernel) (by decide +kernel)), ok_X6_rain, im_X6_rain, se_X6_rain⟩
set_option maxRecDepth 100000 in
theorem lL_72 : LkV RL 72 MX7_rain 2 := ⟨Or.inl (mem_gT 858 (by decide +kernel) (by decide +kernel)), ok_X7_rain, im_X7_rain, se_X7_rain⟩
set_option maxRecDepth 100000 in
theorem lL_73 : LkV RL 73 MX6_dry 0 := ⟨Or.inl (mem_gT 461 (by decide +kernel) (by decide +kernel)), ok_X6_dry, im_X6_dry, se_X6_dry⟩
set_option maxRecDepth 100000 in
theorem lL_77 : LkV RL 77 MX7_dry 0 := ⟨Or.inl (mem_gT 862 (by decide +kernel) (by decide +kernel)), ok_X7_dry, im_X7_dry, se_X7_dry⟩
set_option maxRecDepth 100000 in
theorem lL_78 : LkV RL 78 MX6_head 2 := ⟨Or.inl (mem_gT 466 (by decide +kernel) (by decide +kernel)), ok_X6_head, im_X6_head, se_X6_head⟩
set_option maxRecDepth 100000 in
theorem lL_81 : LkV RL 81 MX7_head 2 := ⟨Or.inl (mem_gT 866 (by decide +kernel) (by decide +kernel)), ok_X7_head, im_X7_head, se_X7_head⟩
set_option maxRecDepth 100000 in
theorem lL_82 : LkV RL 82 MX6_by 3 := ⟨Or.inl (mem_gT 493 (by decide +kernel) (by decide +kernel)), ok_X6_by, im_X6_by, se_X6_by⟩
set_option maxRecDepth 100000 in
theorem lL_85 : LkV RL 85 MX7_by 3 := ⟨Or.inl (mem_gT 886 (by decide +kernel) (by decide +kernel)), ok_X7_by, im_X7_by, se_X7_by⟩
set_option maxRecDepth 100000 in
theorem lL_86 : LkV RL 86 MX6_rained 2 := ⟨Or.inl (mem_gT 498 (by decide +kernel) (by decide +kernel)), ok_X6_rained, im_X6_rained, se_X6_rained⟩
set_option maxRecDepth 100000 in
theorem lL_89 : LkV RL 89 MX7_rained 2 := ⟨Or.inl (mem_gT 890 (by decide +kernel) (by decide +kernel)), ok_X7_rained, im_X7_rained, se_X7_rained⟩
set_option maxRecDepth 100000 in
theorem lL_90 : LkV RL 90 MX6_most 2 := ⟨Or.inl (mem_gT 503 (by decide +kernel) (by decide +kernel)), ok_X6_most, im_X6_most, se_X6_most⟩
set_option maxRecDepth 100000 in
theorem lL_93 : LkV RL 93 MX7_most 2 := ⟨Or.inl (mem_gT 894 (by decide +kernel) (by decide +kernel)), ok_X7_most, im_X7_most, se_X7_most⟩
set_option maxRecDepth 100000 in
theorem lL_94 : LkV RL 94 MX6_when 2 := ⟨Or.inl (mem_gT 508 (by decide +kernel) (by decide +kernel)), ok_X6_when, im_X6_when, se_X6_when⟩
set_option maxRecDepth 100000 in
theorem lL_97 : LkV RL 97 MX7_when 2 := ⟨Or.inl (mem_gT 899 (by decide +kernel) (by decide +kernel)), ok_X7_when, im_X7_when, se_X7_when⟩
set_option maxRecDepth 100000 in
theorem lL_98 : LkV RL 98 MX6_near 2 := ⟨Or.inl (mem_gT 517 (by decide +kernel) (by decide +kernel)), ok_X6_near, im_X6_near, se_X6_near⟩
set_option maxRecDepth 100000 in
theorem lL_101 : LkV RL 101 MX7_near 2 := ⟨Or.inl (mem_gT 907 (by decide +kernel) (by decide +kernel)), ok_X7_near, im_X7_near, se_X7_near⟩
set_option maxRecDepth 100000 in
theorem lL_102 : LkV RL 102 MX6_low 1 := ⟨Or.inl (mem_gT 521 (by decide +kernel) (by decide +kernel)), ok_X6_low, im_X6_low, se_X6_low⟩
set_option maxRecDepth 100000 in
theorem lL_106 : LkV RL 106 MX7_low 1 := ⟨Or.inl (mem_gT 911 (by decide +kernel) (by decide +kernel)), ok_X7_low, im_X7_low, se_X7_low⟩
set_option maxRecDepth 100000 in
theorem lL_107 : LkV RL 107 MX6_without 4 := ⟨Or.inl (mem_gT 525 (by decide +kernel) (by decide +kernel)), ok_X6_without, im_X6_without, se_X6_without⟩
set_option maxRecDepth 100000 in
theorem lL_110 : LkV RL 110 MX7_without 4 := ⟨Or.inl (mem_gT 915 (by decide +kernel) (by decide +kernel)), ok_X7_without, im_X7_without, se_X7_without⟩
set_option maxRecDepth 100000 in
theorem lL_111 : LkV RL 111 MX6_free 2 := ⟨Or.inl (mem_gT 529 (by decide +kernel) (by decide +kernel)), ok_X6_free, im_X6_free, se_X6_free⟩
set_option maxRecDepth 100000 in
theorem lL_114 : LkV RL 114 MX7_free 2 := ⟨Or.inl (mem_gT 919 (by decide +kernel) (by decide +kernel)), ok_X7_free, im_X7_free, se_X7_free⟩
set_option maxRecDepth 100000 in
theorem lL_115 : LkV RL 115 MX6_licence 3 := ⟨Or.inl (mem_gT 552 (by decide +kernel) (by decide +kernel)), ok_X6_licence, im_X6_licence, se_X6_licence⟩
set_option maxRecDepth 100000 in
theorem lL_118 : LkV RL 118 MX7_licence 3 := ⟨Or.inl (mem_gT 931 (by decide +kernel) (by decide +kernel)), ok_X7_licence, im_X7_licence, se_X7_licence⟩
set_option maxRecDepth 100000 in
theorem lL_119 : LkV RL 119 MX6_serve 1 := ⟨Or.inl (mem_gT 561 (by decide +kernel) (by decide +kernel)), ok_X6_serve, im_X6_serve, se_X6_serve⟩
set_option maxRecDepth 100000 in
theorem lL_122 : LkV RL 122 MX7_serve 1 := ⟨Or.inl (mem_gT 935 (by decide +kernel) (by decide +kernel)), ok_X7_serve, im_X7_serve, se_X7_serve⟩
set_option maxRecDepth 100000 in
theorem lL_123 : LkV RL 123 MX6_served 2 := ⟨Or.inl (mem_gT 586 (by decide +kernel) (by decide +kernel)), ok_X6_served, im_X6_served, se_X6_served⟩
set_option maxRecDepth 100000 in
theorem lL_127 : LkV RL 127 MX7_served 2 := ⟨Or.inl (mem_gT 943 (by decide +kernel) (by decide +kernel)), ok_X7_served, im_X7_served, se_X7_served⟩
set_option maxRecDepth 100000 in
theorem lL_128 : LkV RL 128 MX6_hold 3 := ⟨Or.inl (mem_gT 590 (by decide +kernel) (by decide +kernel)), ok_X6_hold, im_X6_hold, se_X6_hold⟩
set_option maxRecDepth 100000 in
theorem lL_131 : LkV RL 131 MX7_hold 3 := ⟨Or.inl (mem_gT 947 (by decide +kernel) (by decide +kernel)), ok_X7_hold, im_X7_hold, se_X7_hold⟩
set_option maxRecDepth 100000 in
theorem lL_132 : LkV RL 132 MX6_move 3 := ⟨Or.inl (mem_gT 598 (by decide +kernel) (by decide +kernel)), ok_X6_move, im_X6_move, se_X6_move⟩
set_option maxRecDepth 100000 in
theorem lL_135 : LkV RL 135 MX7_move 3 := ⟨Or.inl (mem_gT 951 (by decide +kernel) (by decide +kernel)), ok_X7_move, im_X7_move, se_X7_move⟩
set_option maxRecDepth 100000 in
theorem lL_136 : LkV RL 136 MX6_read 3 := ⟨Or.inl (mem_gT 607 (by decide +kernel) (by decide +kernel)), ok_X6_read, im_X6_read, se_X6_read⟩
set_option maxRecDepth 100000 in
theorem lL_139 : LkV RL 139 MX7_read 3 := ⟨Or.inl (mem_gT 959 (by decide +kernel) (by decide +kernel)), ok_X7_read, im_X7_read, se_X7_read⟩
set_option maxRecDepth 100000 in
theorem lL_140 : LkV RL 140 MX6_differ 2 := ⟨Or.inl (mem_gT 622 (by decide +kernel) (by decide +kernel)), ok_X6_differ, im_X6_differ, se_X6_differ⟩
set_option maxRecDepth 100000 in
theorem lL_143 : LkV RL 143 MX7_differ 2 := ⟨Or.inl (mem_gT 969 (by decide +kernel) (by decide +kernel)), ok_X7_differ, im_X7_differ, se_X7_differ⟩
set_option maxRecDepth 100000 in
theorem lL_144 : LkV RL 144 MX6_fit 2 := ⟨Or.inl (mem_gT 634 (by decide +kernel) (by decide +kernel)), ok_X6_fit, im_X6_fit, se_X6_fit⟩
set_option maxRecDepth 100000 in
theorem lL_147 : LkV RL 147 MX7_fit 2 := ⟨Or.inl (mem_gT 973 (by decide +kernel) (by decide +kernel)), ok_X7_fit, im_X7_fit, se_X7_fit⟩
set_option maxRecDepth 100000 in
theorem lL_148 : LkV RL 148 MX6_squares 0 := ⟨Or.inl (mem_gT 654 (by decide +kernel) (by decide +kernel)), ok_X6_squares, im_X6_squares, se_X6_squares⟩
set_option maxRecDepth 100000 in
theorem lL_152 : LkV RL 152 MX7_squares 0 := ⟨Or.inl (mem_gT 985 (by decide +kernel) (by decide +kernel)), ok_X7_squares, im_X7_squares, se_X7_squares⟩
set_option maxRecDepth 100000 in
theorem lL_153 : LkV RL 153 MX6_keep 0 := ⟨Or.inl (mem_gT 658 (by decide +kernel) (by decide +kernel)), ok_X6_keep, im_X6_keep, se_X6_keep⟩
set_option maxRecDepth 100000 in
theorem lL_156 : LkV RL 156 MX7_keep 0 := ⟨Or.inl (mem_gT 989 (by decide +kernel) (by decide +kernel)), ok_X7_keep, im_X7_keep, se_X7_keep⟩
set_option maxRecDepth 100000 in
theorem lL_157 : LkV RL 157 MX6_back 0 := ⟨Or.inl (mem_gT 689 (by decide +kernel) (by decide +kernel)), ok_X6_back, im_X6_back, se_X6_back⟩
set_option maxRecDepth 100000 in
theorem lL_160 : LkV RL 160 MX7_back 0 := ⟨Or.inl (mem_gT 993 (by decide +kernel) (by decide +kernel)), ok_X7_back, im_X7_back, se_X7_back⟩
set_option maxRecDepth 100000 in
theorem lL_161 : LkV RL 161 MX6_told 1 := ⟨Or.inl (mem_gT 693 (by decide +kernel) (by decide +kernel)), ok_X6_told, im_X6_told, se_X6_told⟩
set_option maxRecDepth 100000 in
theorem lL_164 : LkV RL 164 MX7_told 1 := ⟨Or.inl (mem_gT 997 (by decide +kernel) (by decide +kernel)), ok_X7_told, im_X7_told, se_X7_told⟩
set_option maxRecDepth 100000 in
theorem lX7_44 : LkV RX7 44 MX7_wells 0 := ⟨Or.inl (mem_gT 757 (by decide +kernel) (by decide +kernel)), ok_X7_wells, im_X7_wells, se_X7_wells⟩
set_option maxRecDepth 100000 in
theorem lX7_48 : LkS RX7 48 MX7_in 3 := ⟨Or.inl (mem_gT 744 (by decide +kernel) (by decide +kernel)), ok_X7_in, st_X7_in⟩
set_option maxRecDepth 100000 in
theorem lX7_54 : LkV RX7 54 MX7_told0 2 := ⟨Or.inl (mem_gT 770 (by decide +kernel) (by decide +kernel)), ok_X7_told0, im_X7_told0, se_X7_told0⟩
set_option maxRecDepth 100000 in
theorem lX7_58 : LkS RX7 58 MX7_isHead 1 := ⟨Or.inl (mem_gT 747 (by decide +kernel) (by decide +kernel)), ok_X7_isHead, st_X7_isHead⟩
set_option maxRecDepth 100000 in
theorem lX7_63 : LkV RX7 63 MX7_found 1 := ⟨Or.inl (mem_gT 753 (by decide +kernel) (by decide +kernel)), ok_X7_found, im_X7_found, se_X7_found⟩
set_option maxRecDepth 100000 in
theorem lX7_68 : LkV RX7 68 MX7_isWell 1 := ⟨Or.inl (mem_gT 766 (by decide +kernel) (by decide +kernel)), ok_X7_isWell, im_X7_isWell, se_X7_isWell⟩
set_option maxRecDepth 100000 in
theorem lX7_71 : LkV RX7 71 MX7_kindOf 1 := ⟨Or.inl (mem_gT 778 (by decide +kernel) (by decide +kernel)), ok_X7_kindOf, im_X7_kindOf, se_X7_kindOf⟩
set_option maxRecDepth 100000 in
theorem lX7_75 : LkV RX7 75 MX7_drawOf 2 := ⟨Or.inl (mem_gT 787 (by decide +kernel) (by decide +kernel)), ok_X7_drawOf, im_X7_drawOf, se_X7_drawOf⟩
set_option maxRecDepth 100000 in
theorem lX7_78 : LkV RX7 78 MX7_apart 2 := ⟨Or.inl (mem_gT 795 (by decide +kernel) (by decide +kernel)), ok_X7_apart, im_X7_apart, se_X7_apart⟩
set_option maxRecDepth 100000 in
theorem lX7_81 : LkS RX7 81 MX7_cell 3 := ⟨Or.inl (mem_gT 803 (by decide +kernel) (by decide +kernel)), ok_X7_cell, st_X7_cell⟩
set_option maxRecDepth 100000 in
theorem lX7_86 : LkS RX7 86 MX7_isSheet 1 := ⟨Or.inl (mem_gT 815 (by decide +kernel) (by decide +kernel)), ok_X7_isSheet, st_X7_isSheet⟩
set_option maxRecDepth 100000 in
theorem lX7_92 : LkS RX7 92 MX7_isNone 1 := ⟨Or.inl (mem_gT 823 (by decide +kernel) (by decide +kernel)), ok_X7_isNone, st_X7_isNone⟩
set_option maxRecDepth 100000 in
theorem lX7_98 : LkS RX7 98 MX7_isMonth 1 := ⟨Or.inl (mem_gT 837 (by decide +kernel) (by decide +kernel)), ok_X7_isMonth, st_X7_isMonth⟩
set_option maxRecDepth 100000 in
theorem lX7_102 : LkS RX7 102 MX7_cut 1 := ⟨Or.inl (mem_gT 841 (by decide +kernel) (by decide +kernel)), ok_X7_cut, st_X7_cut⟩
set_option maxRecDepth 100000 in
theorem lX7_105 : LkV RX7 105 MX7_sign 2 := ⟨Or.inl (mem_gT 854 (by decide +kernel) (by decide +kernel)), ok_X7_sign, im_X7_sign, se_X7_sign⟩
set_option maxRecDepth 100000 in
theorem lX7_108 : LkV RX7 108 MX7_share 3 := ⟨Or.inl (mem_gT 882 (by decide +kernel) (by decide +kernel)), ok_X7_share, im_X7_share, se_X7_share⟩
set_option maxRecDepth 100000 in
theorem lX7_111 : LkV RX7 111 MX7_rainOf 1 := ⟨Or.inl (mem_gT 874 (by decide +kernel) (by decide +kernel)), ok_X7_rainOf, im_X7_rainOf, se_X7_rainOf⟩
set_option maxRecDepth 100000 in
theorem lX7_114 : LkV RX7 114 MX7_lowering 4 := ⟨Or.inl (mem_gT 878 (by decide +kernel) (by decide +kernel)), ok_X7_lowering, im_X7_lowering, se_X7_lowering⟩
set_option maxRecDepth 100000 in
theorem lX7_118 : LkV RX7 118 MX7_headOf 2 := ⟨Or.inl (mem_gT 870 (by decide +kernel) (by decide +kernel)), ok_X7_headOf, im_X7_headOf, se_X7_headOf⟩
set_option maxRecDepth 100000 in
theorem lX7_122 : LkV RX7 122 MX7_above 2 := ⟨Or.inl (mem_gT 903 (by decide +kernel) (by decide +kernel)), ok_X7_above, im_X7_above, se_X7_above⟩
set_option maxRecDepth 100000 in
theorem lX7_125 : LkV RX7 125 MX7_isFree 2 := ⟨Or.inl (mem_gT 927 (by decide +kernel) (by decide +kernel)), ok_X7_isFree, im_X7_isFree, se_X7_isFree⟩
set_option maxRecDepth 100000 in
theorem lX7_129 : LkV RX7 129 MX7_freeOf 2 := ⟨Or.inl (mem_gT 923 (by decide +kernel) (by decide +kernel)), ok_X7_freeOf, im_X7_freeOf, se_X7_freeOf⟩
set_option maxRecDepth 100000 in
theorem lX7_132 : LkV RX7 132 MX7_licenceOf 2 := ⟨Or.inl (mem_gT 939 (by decide +kernel) (by decide +kernel)), ok_X7_licenceOf, im_X7_licenceOf, se_X7_licenceOf⟩
set_option maxRecDepth 100000 in
theorem lX7_135 : LkV RX7 135 MX7_mayMove 5 := ⟨Or.inl (mem_gT 955 (by decide +kernel) (by decide +kernel)), ok_X7_mayMove, im_X7_mayMove, se_X7_mayMove⟩
set_option maxRecDepth 100000 in
theorem lX7_141 : LkV RX7 141 MX7_reading 2 := ⟨Or.inl (mem_gT 965 (by decide +kernel) (by decide +kernel)), ok_X7_reading, im_X7_reading, se_X7_reading⟩
set_option maxRecDepth 100000 in
theorem lX7_144 : LkV RX7 144 MX7_times 3 := ⟨Or.inl (mem_gT 977 (by decide +kernel) (by decide +kernel)), ok_X7_times, im_X7_times, se_X7_times⟩
set_option maxRecDepth 100000 in
theorem lX7_148 : LkV RX7 148 MX7_squaresNow 0 := ⟨Or.inl (mem_gT 981 (by decide +kernel) (by decide +kernel)), ok_X7_squaresNow, im_X7_squaresNow, se_X7_squaresNow⟩
set_option maxRecDepth 100000 in
theorem cw_X0 : ∀ w ∈ u_ws RX0 TX0 5, w ∈ gT := by decide +kernel
set_option maxRecDepth 100000 in
theorem cw_X1 : ∀ w ∈ u_ws RX1 TX1 3, w ∈ gT := by decide +kernel
set_option maxRecDepth 100000 in
theorem cw_X2 : ∀ w ∈ u_ws RX2 TX2 3, w ∈ gT := by decide +kernel
set_option maxRecDepth 100000 in
theorem cw_X3 : ∀ w ∈ u_ws RX3 TX3 3, w ∈ gT := by decide +kernel
set_option maxRecDepth 100000 in
theorem cw_X4 : ∀ w ∈ u_ws RX4 TX4 7, w ∈ gT := by decide +kernel
set_option maxRecDepth 100000 in
theorem cw_X5 : ∀ w ∈ u_ws RX5 TX5 6, w ∈ gT := by decide +kernel
set_option maxRecDepth 100000 in
theorem cw_X6 : ∀ w ∈ u_ws RX6 TX6 5, w ∈ gT := by decide +kernel
set_option maxRecDepth 100000 in
theorem cw_X7 : ∀ w ∈ u_ws RX7 TX7 12, w ∈ gT := by decide +kernel
set_option maxRecDepth 100000 in
theorem fX6_10 : FL RX6 10 6 0 := ⟨RX6, TX6, 5, rfl, by decide, cw_X6, Or.inl (mem_gT 247 (by decide +kernel) (by decide +kernel))⟩
set_option maxRecDepth 100000 in
theorem fX6_16 : FL RX6 16 6 1 := ⟨RX6, TX6, 5, rfl, by decide, cw_X6, Or.inl (mem_gT 248 (by decide +kernel) (by decide +kernel))⟩
set_option maxRecDepth 100000 in
theorem fX6_19 : FL RX6 19 6 2 := ⟨RX6, TX6, 5, rfl, by decide, cw_X6, Or.inl (mem_gT 249 (by decide +kernel) (by decide +kernel))⟩
set_option maxRecDepth 100000 in
theorem pX6_19 : FP RX6 19 6 2 .boolean := ⟨RX6, TX6, 5, tyX6, rfl, by decide, cw_X6, tyX6_ok, nmX6, rfl, rfl, mem_gT 249 (by decide +kernel) (by decide +kernel)⟩
set_option maxRecDepth 100000 in
theorem fX6_26 : FL RX6 26 6 3 := ⟨RX6, TX6, 5, rfl, by decide, cw_X6, Or.inl (mem_gT 250 (by decide +kernel) (by decide +kernel))⟩
set_option maxRecDepth 100000 in
theorem fX6_30 : FL RX6 30 6 4 := ⟨RX6, TX6, 5, rfl, by decide, cw_X6, Or.inl (mem_gT 251 (by decide +kernel) (by decide +kernel))⟩
set_option maxRecDepth 100000 in
theorem pX6_30 : FP RX6 30 6 4 .int := ⟨RX6, TX6, 5, tyX6, rfl, by decide, cw_X6, tyX6_ok, nmX6, rfl, rfl, mem_gT 251 (by decide +kernel) (by decide +kernel)⟩
set_option maxRecDepth 100000 in
theorem fX6_49 : FL RX6 49 4 0 := ⟨RX4, TX4, 7, rfl, by decide, cw_X4, Or.inr ⟨"WellField", mem_nT 200 (by decide +kernel) (by decide +kernel)⟩⟩
set_option maxRecDepth 100000 in
theorem fX6_53 : FL RX6 53 5 0 := ⟨RX5, TX5, 6, rfl, by decide, cw_X5, Or.inr ⟨"WellField", mem_nT 100 (by decide +kernel) (by decide +kernel)⟩⟩
set_option maxRecDepth 100000 in
theorem fX6_66 : FL RX6 66 5 5 := ⟨RX5, TX5, 6, rfl, by decide, cw_X5, Or.inr ⟨"WellField", mem_nT 113 (by decide +kernel) (by decide +kernel)⟩⟩
set_option maxRecDepth 100000 in
theorem fX6_75 : FL RX6 75 5 1 := ⟨RX5, TX5, 6, rfl, by decide, cw_X5, Or.inr ⟨"WellField", mem_nT 104 (by decide +kernel) (by decide +kernel)⟩⟩
set_option maxRecDepth 100000 in
theorem fX6_78 : FL RX6 78 5 2 := ⟨RX5, TX5, 6, rfl, by decide, cw_X5, Or.inr ⟨"WellField", mem_nT 106 (by decide +kernel) (by decide +kernel)⟩⟩
set_option maxRecDepth 100000 in
theorem fX6_81 : FL RX6 81 5 3 := ⟨RX5, TX5, 6, rfl, by decide, cw_X5, Or.inr ⟨"WellField", mem_nT 108 (by decide +kernel) (by decide +kernel)⟩⟩
set_option maxRecDepth 100000 in
theorem fX6_84 : FL RX6 84 5 4 := ⟨RX5, TX5, 6, rfl, by decide, cw_X5, Or.inr ⟨"WellField", mem_nT 110 (by decide +kernel) (by decide +kernel)⟩⟩
set_option maxRecDepth 100000 in
theorem fX6_107 : FL RX6 107 4 1 := ⟨RX4, TX4, 7, rfl, by decide, cw_X4, Or.inr ⟨"WellField", mem_nT 202 (by decide +kernel) (by decide +kernel)⟩⟩
set_option maxRecDepth 100000 in
theorem fX6_121 : FL RX6 121 3 0 := ⟨RX3, TX3, 3, rfl, by decide, cw_X3, Or.inr ⟨"WellField", mem_nT 140 (by decide +kernel) (by decide +kernel)⟩⟩
set_option maxRecDepth 100000 in
theorem fX6_124 : FL RX6 124 3 1 := ⟨RX3, TX3, 3, rfl, by decide, cw_X3, Or.inr ⟨"WellField", mem_nT 142 (by decide +kernel) (by decide +kernel)⟩⟩
set_option maxRecDepth 100000 in
theorem fX6_138 : FL RX6 138 2 1 := ⟨RX2, TX2, 3, rfl, by decide, cw_X2, Or.inr ⟨"WellField", mem_nT 237 (by decide +kernel) (by decide +kernel)⟩⟩
set_option maxRecDepth 100000 in
theorem fX6_143 : FL RX6 143 2 0 := ⟨RX2, TX2, 3, rfl, by decide, cw_X2, Or.inr ⟨"WellField", mem_nT 235 (by decide +kernel) (by decide +kernel)⟩⟩
set_option maxRecDepth 100000 in
theorem fX6_149 : FL RX6 149 2 2 := ⟨RX2, TX2, 3, rfl, by decide, cw_X2, Or.inr ⟨"WellField", mem_nT 239 (by decide +kernel) (by decide +kernel)⟩⟩
set_option maxRecDepth 100000 in
theorem fX6_186 : FL RX6 186 4 5 := ⟨RX4, TX4, 7, rfl, by decide, cw_X4, Or.inr ⟨"WellField", mem_nT 210 (by decide +kernel) (by decide +kernel)⟩⟩
set_option maxRecDepth 100000 in
theorem fX6_189 : FL RX6 189 4 4 := ⟨RX4, TX4, 7, rfl, by decide, cw_X4, Or.inr ⟨"WellField", mem_nT 208 (by decide +kernel) (by decide +kernel)⟩⟩
set_option maxRecDepth 100000 in
theorem fX6_219 : FL RX6 219 4 2 := ⟨RX4, TX4, 7, rfl, by decide, cw_X4, Or.inr ⟨"WellField", mem_nT 204 (by decide +kernel) (by decide +kernel)⟩⟩
set_option maxRecDepth 100000 in
theorem fX6_223 : FL RX6 223 0 0 := ⟨RX0, TX0, 5, rfl, by decide, cw_X0, Or.inr ⟨"WellField", mem_nT 160 (by decide +kernel) (by decide +kernel)⟩⟩
set_option maxRecDepth 100000 in
theorem fX6_236 : FL RX6 236 0 1 := ⟨RX0, TX0, 5, rfl, by decide, cw_X0, Or.inr ⟨"WellField", mem_nT 163 (by decide +kernel) (by decide +kernel)⟩⟩
set_option maxRecDepth 100000 in
theorem fX6_241 : FL RX6 241 0 4 := ⟨RX0, TX0, 5, rfl, by decide, cw_X0, Or.inr ⟨"WellField", mem_nT 170 (by decide +kernel) (by decide +kernel)⟩⟩
set_option maxRecDepth 100000 in
theorem fX6_244 : FL RX6 244 0 3 := ⟨RX0, TX0, 5, rfl, by decide, cw_X0, Or.inr ⟨"WellField", mem_nT 167 (by decide +kernel) (by decide +kernel)⟩⟩
set_option maxRecDepth 100000 in
theorem fX6_255 : FL RX6 255 4 3 := ⟨RX4, TX4, 7, rfl, by decide, cw_X4, Or.inr ⟨"WellField", mem_nT 206 (by decide +kernel) (by decide +kernel)⟩⟩
set_option maxRecDepth 100000 in
theorem fX6_264 : FL RX6 264 1 0 := ⟨RX1, TX1, 3, rfl, by decide, cw_X1, Or.inr ⟨"WellField", mem_nT 189 (by decide +kernel) (by decide +kernel)⟩⟩
set_option maxRecDepth 100000 in
theorem fX0_9 : FL RX0 9 0 0 := ⟨RX0, TX0, 5, rfl, by decide, cw_X0, Or.inl (mem_gT 158 (by decide +kernel) (by decide +kernel))⟩
set_option maxRecDepth 100000 in
theorem pX0_9 : FP RX0 9 0 0 .int := ⟨RX0, TX0, 5, tyX0, rfl, by decide, cw_X0, tyX0_ok, nmX0, rfl, rfl, mem_gT 158 (by decide +kernel) (by decide +kernel)⟩
set_option maxRecDepth 100000 in
theorem fX0_15 : FL RX0 15 0 1 := ⟨RX0, TX0, 5, rfl, by decide, cw_X0, Or.inl (mem_gT 161 (by decide +kernel) (by decide +kernel))⟩
set_option maxRecDepth 100000 in
theorem fX0_19 : FL RX0 19 0 2 := ⟨RX0, TX0, 5, rfl, by decide, cw_X0, Or.inl (mem_gT 164 (by decide +kernel) (by decide +kernel))⟩
set_option maxRecDepth 100000 in
theorem fX0_22 : FL RX0 22 0 3 := ⟨RX0, TX0, 5, rfl, by decide, cw_X0, Or.inl (mem_gT 165 (by decide +kernel) (by decide +kernel))⟩
set_option maxRecDepth 100000 in
theorem fX0_25 : FL RX0 25 0 4 := ⟨RX0, TX0, 5, rfl, by decide, cw_X0, Or.inl (mem_gT 168 (by decide +kernel) (by decide +kernel))⟩
set_option maxRecDepth 100000 in
theorem fX1_9 : FL RX1 9 1 0 := ⟨RX1, TX1, 3, rfl, by decide, cw_X1, Or.inl (mem_gT 188 (by decide +kernel) (by decide +kernel))⟩
set_option maxRecDepth 100000 in
theorem pX1_9 : FP RX1 9 1 0 .int := ⟨RX1, TX1, 3, tyX1, rfl, by decide, cw_X1, tyX1_ok, nmX1, rfl, rfl, mem_gT 188 (by decide +kernel) (by decide +kernel)⟩
set_option maxRecDepth 100000 in
theorem fX1_15 : FL RX1 15 1 1 := ⟨RX1, TX1, 3, rfl, by decide, cw_X1, Or.inl (mem_gT 190 (by decide +kernel) (by decide +kernel))⟩
set_option maxRecDepth 100000 in
theorem fX1_19 : FL RX1 19 1 2 := ⟨RX1, TX1, 3, rfl, by decide, cw_X1, Or.inl (mem_gT 191 (by decide +kernel) (by decide +kernel))⟩
set_option maxRecDepth 100000 in
theorem fX2_9 : FL RX2 9 2 0 := ⟨RX2, TX2, 3, rfl, by decide, cw_X2, Or.inl (mem_gT 234 (by decide +kernel) (by decide +kernel))⟩
set_option maxRecDepth 100000 in
theorem pX2_9 : FP RX2 9 2 0 .int := ⟨RX2, TX2, 3, tyX2, rfl, by decide, cw_X2, tyX2_ok, nmX2, rfl, rfl, mem_gT 234 (by decide +kernel) (by decide +kernel)⟩
set_option maxRecDepth 100000 in
theorem fX2_15 : FL RX2 15 2 1 := ⟨RX2, TX2, 3, rfl, by decide, cw_X2, Or.inl (mem_gT 236 (by decide +kernel) (by decide +kernel))⟩
set_option maxRecDepth 100000 in
theorem pX2_15 : FP RX2 15 2 1 .int := ⟨RX2, TX2, 3, tyX2, rfl, by decide, cw_X2, tyX2_ok, nmX2, rfl, rfl, mem_gT 236 (by decide +kernel) (by decide +kernel)⟩
set_option maxRecDepth 100000 in
theorem fX2_18 : FL RX2 18 2 2 := ⟨RX2, TX2, 3, rfl, by decide, cw_X2, Or.inl (mem_gT 238 (by decide +kernel) (by decide +kernel))⟩
set_option maxRecDepth 100000 in
theorem fX3_9 : FL RX3 9 3 0 := ⟨RX3, TX3, 3, rfl, by decide, cw_X3, Or.inl (mem_gT 138 (by decide +kernel) (by decide +kernel))⟩
set_option maxRecDepth 100000 in
theorem fX3_15 : FL RX3 15 3 1 := ⟨RX3, TX3, 3, rfl, by decide, cw_X3, Or.inl (mem_gT 141 (by decide +kernel) (by decide +kernel))⟩
set_option maxRecDepth 100000 in
theorem fX3_18 : FL RX3 18 3 2 := ⟨RX3, TX3, 3, rfl, by decide, cw_X3, Or.inl (mem_gT 144 (by decide +kernel) (by decide +kernel))⟩
set_option maxRecDepth 100000 in
theorem fX4_12 : FL RX4 12 4 0 := ⟨RX4, TX4, 7, rfl, by decide, cw_X4, Or.inl (mem_gT 199 (by decide +kernel) (by decide +kernel))⟩
set_option maxRecDepth 100000 in
theorem fX4_21 : FL RX4 21 4 1 := ⟨RX4, TX4, 7, rfl, by decide, cw_X4, Or.inl (mem_gT 201 (by decide +kernel) (by decide +kernel))⟩
set_option maxRecDepth 100000 in
theorem fX4_28 : FL RX4 28 4 2 := ⟨RX4, TX4, 7, rfl, by decide, cw_X4, Or.inl (mem_gT 203 (by decide +kernel) (by decide +kernel))⟩
set_option maxRecDepth 100000 in
theorem fX4_35 : FL RX4 35 4 3 := ⟨RX4, TX4, 7, rfl, by decide, cw_X4, Or.inl (mem_gT 205 (by decide +kernel) (by decide +kernel))⟩
set_option maxRecDepth 100000 in
theorem fX4_39 : FL RX4 39 4 4 := ⟨RX4, TX4, 7, rfl, by decide, cw_X4, Or.inl (mem_gT 207 (by decide +kernel) (by decide +kernel))⟩
set_option maxRecDepth 100000 in
theorem fX4_43 : FL RX4 43 4 5 := ⟨RX4, TX4, 7, rfl, by decide, cw_X4, Or.inl (mem_gT 209 (by decide +kernel) (by decide +kernel))⟩
set_option maxRecDepth 100000 in
theorem fX4_46 : FL RX4 46 4 6 := ⟨RX4, TX4, 7, rfl, by decide, cw_X4, Or.inl (mem_gT 211 (by decide +kernel) (by decide +kernel))⟩
set_option maxRecDepth 100000 in
theorem fsX4_57 : Cond.fieldLinkNest RX4 57 "WellField" "COUNTS_TIMES" "[I" "WellField" ∈ nT := mem_nT 455 (by decide +kernel) (by decide +kernel)
set_option maxRecDepth 100000 in
theorem fX4_60 : FL RX4 60 5 1 := ⟨RX5, TX5, 6, rfl, by decide, cw_X5, Or.inr ⟨"WellField", mem_nT 103 (by decide +kernel) (by decide +kernel)⟩⟩
set_option maxRecDepth 100000 in
theorem fX4_80 : FL RX4 80 3 0 := ⟨RX3, TX3, 3, rfl, by decide, cw_X3, Or.inr ⟨"WellField", mem_nT 139 (by decide +kernel) (by decide +kernel)⟩⟩
set_option maxRecDepth 100000 in
theorem fX4_83 : FL RX4 83 3 1 := ⟨RX3, TX3, 3, rfl, by decide, cw_X3, Or.inr ⟨"WellField", mem_nT 143 (by decide +kernel) (by decide +kernel)⟩⟩
set_option maxRecDepth 100000 in
theorem fX4_86 : FL RX4 86 5 4 := ⟨RX5, TX5, 6, rfl, by decide, cw_X5, Or.inr ⟨"WellField", mem_nT 111 (by decide +kernel) (by decide +kernel)⟩⟩
set_option maxRecDepth 100000 in
theorem fX4_93 : FL RX4 93 5 0 := ⟨RX5, TX5, 6, rfl, by decide, cw_X5, Or.inr ⟨"WellField", mem_nT 101 (by decide +kernel) (by decide +kernel)⟩⟩
set_option maxRecDepth 100000 in
theorem fX4_104 : FL RX4 104 5 5 := ⟨RX5, TX5, 6, rfl, by decide, cw_X5, Or.inr ⟨"WellField", mem_nT 114 (by decide +kernel) (by decide +kernel)⟩⟩
set_option maxRecDepth 100000 in
theorem fX4_120 : FL RX4 120 0 0 := ⟨RX0, TX0, 5, rfl, by decide, cw_X0, Or.inr ⟨"WellField", mem_nT 159 (by decide +kernel) (by decide +kernel)⟩⟩
set_option maxRecDepth 100000 in
theorem fX4_121 : FL RX4 121 0 4 := ⟨RX0, TX0, 5, rfl, by decide, cw_X0, Or.inr ⟨"WellField", mem_nT 169 (by decide +kernel) (by decide +kernel)⟩⟩
set_option maxRecDepth 100000 in
theorem fX4_124 : FL RX4 124 0 1 := ⟨RX0, TX0, 5, rfl, by decide, cw_X0, Or.inr ⟨"WellField", mem_nT 162 (by decide +kernel) (by decide +kernel)⟩⟩
set_option maxRecDepth 100000 in
theorem fX4_130 : FL RX4 130 0 3 := ⟨RX0, TX0, 5, rfl, by decide, cw_X0, Or.inr ⟨"WellField", mem_nT 166 (by decide +kernel) (by decide +kernel)⟩⟩
set_option maxRecDepth 100000 in
theorem fX5_9 : FL RX5 9 5 0 := ⟨RX5, TX5, 6, rfl, by decide, cw_X5, Or.inl (mem_gT 99 (by decide +kernel) (by decide +kernel))⟩
set_option maxRecDepth 100000 in
theorem pX5_9 : FP RX5 9 5 0 .int := ⟨RX5, TX5, 6, tyX5, rfl, by decide, cw_X5, tyX5_ok, nmX5, rfl, rfl, mem_gT 99 (by decide +kernel) (by decide +kernel)⟩
set_option maxRecDepth 100000 in
theorem fX5_15 : FL RX5 15 5 1 := ⟨RX5, TX5, 6, rfl, by decide, cw_X5, Or.inl (mem_gT 102 (by decide +kernel) (by decide +kernel))⟩
set_option maxRecDepth 100000 in
theorem fX5_19 : FL RX5 19 5 2 := ⟨RX5, TX5, 6, rfl, by decide, cw_X5, Or.inl (mem_gT 105 (by decide +kernel) (by decide +kernel))⟩
set_option maxRecDepth 100000 in
theorem fX5_22 : FL RX5 22 5 3 := ⟨RX5, TX5, 6, rfl, by decide, cw_X5, Or.inl (mem_gT 107 (by decide +kernel) (by decide +kernel))⟩
set_option maxRecDepth 100000 in
theorem fX5_25 : FL RX5 25 5 4 := ⟨RX5, TX5, 6, rfl, by decide, cw_X5, Or.inl (mem_gT 109 (by decide +kernel) (by decide +kernel))⟩
set_option maxRecDepth 100000 in
theorem fX5_28 : FL RX5 28 5 5 := ⟨RX5, TX5, 6, rfl, by decide, cw_X5, Or.inl (mem_gT 112 (by decide +kernel) (by decide +kernel))⟩
set_option maxRecDepth 100000 in
theorem fsX5_32 : Cond.fieldLinkNest RX5 32 "WellField" "COUNTS_TIMES" "[I" "WellField" ∈ nT := mem_nT 546 (by decide +kernel) (by decide +kernel)
set_option maxRecDepth 100000 in
theorem fX7_7 : FL RX7 7 7 0 := ⟨RX7, TX7, 12, rfl, by decide, cw_X7, Or.inl (mem_gT 703 (by decide +kernel) (by decide +kernel))⟩
set_option maxRecDepth 100000 in
theorem fX7_13 : FL RX7 13 7 1 := ⟨RX7, TX7, 12, rfl, by decide, cw_X7, Or.inl (mem_gT 704 (by decide +kernel) (by decide +kernel))⟩
set_option maxRecDepth 100000 in
theorem fX7_16 : FL RX7 16 7 3 := ⟨RX7, TX7, 12, rfl, by decide, cw_X7, Or.inl (mem_gT 706 (by decide +kernel) (by decide +kernel))⟩
set_option maxRecDepth 100000 in
theorem fX7_19 : FL RX7 19 7 4 := ⟨RX7, TX7, 12, rfl, by decide, cw_X7, Or.inl (mem_gT 707 (by decide +kernel) (by decide +kernel))⟩
set_option maxRecDepth 100000 in
theorem fX7_22 : FL RX7 22 7 5 := ⟨RX7, TX7, 12, rfl, by decide, cw_X7, Or.inl (mem_gT 708 (by decide +kernel) (by decide +kernel))⟩
set_option maxRecDepth 100000 in
theorem fX7_25 : FL RX7 25 7 7 := ⟨RX7, TX7, 12, rfl, by decide, cw_X7, Or.inl (mem_gT 710 (by decide +kernel) (by decide +kernel))⟩
set_option maxRecDepth 100000 in
theorem fX7_28 : FL RX7 28 7 8 := ⟨RX7, TX7, 12, rfl, by decide, cw_X7, Or.inl (mem_gT 711 (by decide +kernel) (by decide +kernel))⟩
set_option maxRecDepth 100000 in
theorem fX7_31 : FL RX7 31 7 9 := ⟨RX7, TX7, 12, rfl, by decide, cw_X7, Or.inl (mem_gT 712 (by decide +kernel) (by decide +kernel))⟩
set_option maxRecDepth 100000 in
theorem fX7_34 : FL RX7 34 7 10 := ⟨RX7, TX7, 12, rfl, by decide, cw_X7, Or.inl (mem_gT 713 (by decide +kernel) (by decide +kernel))⟩
set_option maxRecDepth 100000 in
theorem fX7_37 : FL RX7 37 7 11 := ⟨RX7, TX7, 12, rfl, by decide, cw_X7, Or.inl (mem_gT 714 (by decide +kernel) (by decide +kernel))⟩
set_option maxRecDepth 100000 in
theorem fX7_40 : FL RX7 40 7 6 := ⟨RX7, TX7, 12, rfl, by decide, cw_X7, Or.inl (mem_gT 709 (by decide +kernel) (by decide +kernel))⟩
set_option maxRecDepth 100000 in
theorem pX7_40 : FP RX7 40 7 6 .int := ⟨RX7, TX7, 12, tyX7, rfl, by decide, cw_X7, tyX7_ok, nmX7, rfl, rfl, mem_gT 709 (by decide +kernel) (by decide +kernel)⟩
set_option maxRecDepth 100000 in
theorem fX7_152 : FL RX7 152 7 2 := ⟨RX7, TX7, 12, rfl, by decide, cw_X7, Or.inl (mem_gT 705 (by decide +kernel) (by decide +kernel))⟩
set_option maxRecDepth 100000 in
theorem pX7_152 : FP RX7 152 7 2 .boolean := ⟨RX7, TX7, 12, tyX7, rfl, by decide, cw_X7, tyX7_ok, nmX7, rfl, rfl, mem_gT 705 (by decide +kernel) (by decide +kernel)⟩
set_option maxRecDepth 100000 in
theorem kX6_44 : Cond.constant RX6 44 (-1000000001) ∈ gT := mem_gT 281 (by decide +kernel) (by decide +kernel)
set_option maxRecDepth 100000 in
theorem kX6_58 : Cond.constant RX6 58 (-1000000005) ∈ gT := mem_gT 286 (by decide +kernel) (by decide +kernel)
set_option maxRecDepth 100000 in
theorem kX6_74 : Cond.constant RX6 74 (-1000000004) ∈ gT := mem_gT 308 (by decide +kernel) (by decide +kernel)
set_option maxRecDepth 100000 in
theorem kX6_117 : Cond.constant RX6 117 (-1000000003) ∈ gT := mem_gT 355 (by decide +kernel) (by decide +kernel)
set_option maxRecDepth 100000 in
theorem kX6_137 : Cond.constant RX6 137 (-1000000002) ∈ gT := mem_gT 383 (by decide +kernel) (by decide +kernel)
set_option maxRecDepth 100000 in
theorem kX6_169 : Cond.constant RX6 169 (-1000000007) ∈ gT := mem_gT 417 (by decide +kernel) (by decide +kernel)
set_option maxRecDepth 100000 in
theorem kX6_205 : Cond.constant RX6 205 (-1000000006) ∈ gT := mem_gT 507 (by decide +kernel) (by decide +kernel)
set_option maxRecDepth 100000 in
theorem kX6_253 : Cond.constant RX6 253 (-100000000) ∈ gT := mem_gT 611 (by decide +kernel) (by decide +kernel)
set_option maxRecDepth 100000 in
theorem kX6_254 : Cond.constant RX6 254 (100000000) ∈ gT := mem_gT 612 (by decide +kernel) (by decide +kernel)
set_option maxRecDepth 100000 in
theorem kX6_275 : Cond.constantLong RX6 275 (9223372036854775807) ∈ gT := mem_gT 642 (by decide +kernel) (by decide +kernel)
set_option maxRecDepth 100000 in
theorem kX6_288 : Cond.constant RX6 288 (-100000) ∈ gT := mem_gT 279 (by decide +kernel) (by decide +kernel)
set_option maxRecDepth 100000 in
theorem kX6_289 : Cond.constant RX6 289 (100000) ∈ gT := mem_gT 280 (by decide +kernel) (by decide +kernel)
set_option maxRecDepth 100000 in
theorem kX2_30 : Cond.constant RX2 30 (2143289344) ∈ gT := mem_gT 393 (by decide +kernel) (by decide +kernel)
set_option maxRecDepth 100000 in
theorem kX2_43 : Cond.constant RX2 43 (2147483647) ∈ gT := mem_gT 391 (by decide +kernel) (by decide +kernel)
set_option maxRecDepth 100000 in
theorem kX2_44 : Cond.constant RX2 44 (2139095040) ∈ gT := mem_gT 392 (by decide +kernel) (by decide +kernel)
set_option maxRecDepth 100000 in
theorem kX2_45 : Cond.constant RX2 45 (-2147483648) ∈ gT := mem_gT 429 (by decide +kernel) (by decide +kernel)
set_option maxRecDepth 100000 in
theorem kX2_46 : Cond.constant RX2 46 (8388607) ∈ gT := mem_gT 430 (by decide +kernel) (by decide +kernel)
set_option maxRecDepth 100000 in
theorem kX2_47 : Cond.constant RX2 47 (8388608) ∈ gT := mem_gT 431 (by decide +kernel) (by decide +kernel)
set_option maxRecDepth 100000 in
theorem kX5_31 : Cond.constant RX5 31 (-100000) ∈ gT := mem_gT 291 (by decide +kernel) (by decide +kernel)
set_option maxRecDepth 100000 in
theorem kX7_52 : Cond.constant RX7 52 (-100000) ∈ gT := mem_gT 750 (by decide +kernel) (by decide +kernel)
set_option maxRecDepth 100000 in
theorem kX7_53 : Cond.constant RX7 53 (100000) ∈ gT := mem_gT 751 (by decide +kernel) (by decide +kernel)
set_option maxRecDepth 100000 in
theorem kX7_62 : Cond.constant RX7 62 (-1000000001) ∈ gT := mem_gT 752 (by decide +kernel) (by decide +kernel)
set_option maxRecDepth 100000 in
theorem kX7_67 : Cond.constant RX7 67 (-1000000005) ∈ gT := mem_gT 761 (by decide +kernel) (by decide +kernel)
set_option maxRecDepth 100000 in
theorem kX7_74 : Cond.constant RX7 74 (-1000000004) ∈ gT := mem_gT 782 (by decide +kernel) (by decide +kernel)
set_option maxRecDepth 100000 in
theorem kX7_85 : Cond.constant RX7 85 (-1000000003) ∈ gT := mem_gT 806 (by decide +kernel) (by decide +kernel)
set_option maxRecDepth 100000 in
theorem kX7_89 : Cond.constant RX7 89 (2147483647) ∈ gT := mem_gT 826 (by decide +kernel) (by decide +kernel)
set_option maxRecDepth 100000 in
theorem kX7_90 : Cond.constant RX7 90 (2139095040) ∈ gT := mem_gT 827 (by decide +kernel) (by decide +kernel)
set_option maxRecDepth 100000 in
theorem kX7_91 : Cond.constant RX7 91 (-1000000002) ∈ gT := mem_gT 822 (by decide +kernel) (by decide +kernel)
set_option maxRecDepth 100000 in
theorem kX7_95 : Cond.constant RX7 95 (2143289344) ∈ gT := mem_gT 828 (by decide +kernel) (by decide +kernel)
set_option maxRecDepth 100000 in
theorem kX7_96 : Cond.constant RX7 96 (8388607) ∈ gT := mem_gT 844 (by decide +kernel) (by decide +kernel)
set_option maxRecDepth 100000 in
theorem kX7_97 : Cond.constant RX7 97 (8388608) ∈ gT := mem_gT 845 (by decide +kernel) (by decide +kernel)
set_option maxRecDepth 100000 in
theorem kX7_101 : Cond.constant RX7 101 (-1000000007) ∈ gT := mem_gT 840 (by decide +kernel) (by decide +kernel)
set_option maxRecDepth 100000 in
theorem kX7_121 : Cond.constant RX7 121 (-1000000006) ∈ gT := mem_gT 898 (by decide +kernel) (by decide +kernel)
set_option maxRecDepth 100000 in
theorem kX7_139 : Cond.constant RX7 139 (-100000000) ∈ gT := mem_gT 963 (by decide +kernel) (by decide +kernel)
set_option maxRecDepth 100000 in
theorem kX7_140 : Cond.constant RX7 140 (100000000) ∈ gT := mem_gT 964 (by decide +kernel) (by decide +kernel)
theorem C_3 : isC 3 10 := ⟨by decide, by decide, fun _ _ _ => rfl⟩
theorem C_4 : isC 4 10 := ⟨by decide, by decide, fun _ _ _ => rfl⟩
theorem C_5 : isC 5 10 := ⟨by decide, by decide, fun _ _ _ => rfl⟩
theorem C_6 : isC 6 10 := ⟨by decide, by decide, fun _ _ _ => rfl⟩
theorem C_7 : isC 7 10 := ⟨by decide, by decide, fun _ _ _ => rfl⟩
theorem C_9 : isC 9 240 := ⟨by decide, by decide, fun _ _ _ => rfl⟩
theorem C_10 : isC 10 12 := ⟨by decide, by decide, fun _ _ _ => rfl⟩
theorem C_11 : isC 11 10 := ⟨by decide, by decide, fun _ _ _ => rfl⟩
theorem C_13 : isC 13 10 := ⟨by decide, by decide, fun _ _ _ => rfl⟩
theorem C_14 : isC 14 10 := ⟨by decide, by decide, fun _ _ _ => rfl⟩
theorem C_15 : isC 15 10 := ⟨by decide, by decide, fun _ _ _ => rfl⟩
theorem C_16 : isC 16 10 := ⟨by decide, by decide, fun _ _ _ => rfl⟩
theorem C_18 : isC 18 240 := ⟨by decide, by decide, fun _ _ _ => rfl⟩
theorem C_19 : isC 19 240 := ⟨by decide, by decide, fun _ _ _ => rfl⟩
theorem C_20 : isC 20 240 := ⟨by decide, by decide, fun _ _ _ => rfl⟩
theorem C_21 : isC 21 24 := ⟨by decide, by decide, fun _ _ _ => rfl⟩
theorem C_22 : isC 22 240 := ⟨by decide, by decide, fun _ _ _ => rfl⟩
theorem C_25 : isC 25 10 := ⟨by decide, by decide, fun _ _ _ => rfl⟩
theorem C_26 : isC 26 10 := ⟨by decide, by decide, fun _ _ _ => rfl⟩
theorem C_27 : isC 27 10 := ⟨by decide, by decide, fun _ _ _ => rfl⟩
theorem C_28 : isC 28 10 := ⟨by decide, by decide, fun _ _ _ => rfl⟩
theorem C_29 : isC 29 10 := ⟨by decide, by decide, fun _ _ _ => rfl⟩
theorem C_31 : isC 31 240 := ⟨by decide, by decide, fun _ _ _ => rfl⟩
theorem C_32 : isC 32 12 := ⟨by decide, by decide, fun _ _ _ => rfl⟩
theorem C_33 : isC 33 10 := ⟨by decide, by decide, fun _ _ _ => rfl⟩
theorem C_35 : isC 35 10 := ⟨by decide, by decide, fun _ _ _ => rfl⟩
theorem C_36 : isC 36 10 := ⟨by decide, by decide, fun _ _ _ => rfl⟩
theorem C_37 : isC 37 10 := ⟨by decide, by decide, fun _ _ _ => rfl⟩
theorem C_38 : isC 38 10 := ⟨by decide, by decide, fun _ _ _ => rfl⟩
theorem C_40 : isC 40 240 := ⟨by decide, by decide, fun _ _ _ => rfl⟩
theorem C_41 : isC 41 240 := ⟨by decide, by decide, fun _ _ _ => rfl⟩
theorem C_42 : isC 42 240 := ⟨by decide, by decide, fun _ _ _ => rfl⟩
theorem C_43 : isC 43 24 := ⟨by decide, by decide, fun _ _ _ => rfl⟩
theorem C_44 : isC 44 240 := ⟨by decide, by decide, fun _ _ _ => rfl⟩
theorem C_50 : isC 50 24 := ⟨by decide, by decide, fun _ _ _ => rfl⟩
theorem C_51 : isC 51 24 := ⟨by decide, by decide, fun _ _ _ => rfl⟩
theorem C_52 : isC 52 24 := ⟨by decide, by decide, fun _ _ _ => rfl⟩
theorem C_53 : isC 53 24 := ⟨by decide, by decide, fun _ _ _ => rfl⟩
theorem N_1 : isM 1 1090 := ⟨by decide, by decide, fun _ _ _ => rfl⟩
theorem N_2 : isM 2 1090 := ⟨by decide, by decide, fun _ _ _ => rfl⟩
theorem N_3 : isM 3 4 := ⟨by decide, by decide, fun _ _ _ => rfl⟩
theorem N_4 : isM 4 4 := ⟨by decide, by decide, fun _ _ _ => rfl⟩
theorem N_5 : isM 5 96 := ⟨by decide, by decide, fun _ _ _ => rfl⟩
theorem N_6 : isM 6 24 := ⟨by decide, by decide, fun _ _ _ => rfl⟩
theorem N_7 : isM 7 240 := ⟨by decide, by decide, fun _ _ _ => rfl⟩
theorem N_8 : isM 8 240 := ⟨by decide, by decide, fun _ _ _ => rfl⟩
theorem N_9 : isM 9 10 := ⟨by decide, by decide, fun _ _ _ => rfl⟩
theorem N_10 : isM 10 10 := ⟨by decide, by decide, fun _ _ _ => rfl⟩
theorem C_sh {s : Nat} (h : s < 4) : isC (50 + s) 24 := by
  rcases (show s = 0 ∨ s = 1 ∨ s = 2 ∨ s = 3 by omega) with rfl | rfl | rfl | rfl
  · exact C_50
  · exact C_51
  · exact C_52
  · exact C_53
theorem bp_6 : (Int8.ofInt 6).toInt32 = nI 6 := by decide +kernel
theorem bp_9 : (Int8.ofInt 9).toInt32 = nI 9 := by decide +kernel
theorem bp_10 : (Int8.ofInt 10).toInt32 = nI 10 := by decide +kernel
theorem bp_11 : (Int8.ofInt 11).toInt32 = nI 11 := by decide +kernel
theorem bp_12 : (Int8.ofInt 12).toInt32 = nI 12 := by decide +kernel
theorem bp_22 : (Int8.ofInt 22).toInt32 = nI 22 := by decide +kernel
theorem bp_23 : (Int8.ofInt 23).toInt32 = nI 23 := by decide +kernel
theorem bp_24 : (Int8.ofInt 24).toInt32 = nI 24 := by decide +kernel
theorem bp_30 : (Int8.ofInt 30).toInt32 = nI 30 := by decide +kernel
theorem bp_40 : (Int8.ofInt 40).toInt32 = nI 40 := by decide +kernel
theorem bp_50 : (Int8.ofInt 50).toInt32 = nI 50 := by decide +kernel
theorem bp_63 : (Int8.ofInt 63).toInt32 = nI 63 := by decide +kernel
theorem bp_96 : (Int8.ofInt 96).toInt32 = nI 96 := by decide +kernel
theorem bp_100 : (Int8.ofInt 100).toInt32 = nI 100 := by decide +kernel
theorem bp_120 : (Int8.ofInt 120).toInt32 = nI 120 := by decide +kernel
theorem bp_127 : (Int8.ofInt 127).toInt32 = nI 127 := by decide +kernel
theorem sp_150 : (Int16.ofInt 150).toInt32 = nI 150 := by decide +kernel
theorem sp_240 : (Int16.ofInt 240).toInt32 = nI 240 := by decide +kernel
theorem sp_255 : (Int16.ofInt 255).toInt32 = nI 255 := by decide +kernel
theorem sp_290 : (Int16.ofInt 290).toInt32 = nI 290 := by decide +kernel
theorem sp_410 : (Int16.ofInt 410).toInt32 = nI 410 := by decide +kernel
theorem sp_530 : (Int16.ofInt 530).toInt32 = nI 530 := by decide +kernel
theorem sp_542 : (Int16.ofInt 542).toInt32 = nI 542 := by decide +kernel
theorem sp_566 : (Int16.ofInt 566).toInt32 = nI 566 := by decide +kernel
theorem sp_606 : (Int16.ofInt 606).toInt32 = nI 606 := by decide +kernel
theorem sp_1000 : (Int16.ofInt 1000).toInt32 = nI 1000 := by decide +kernel
theorem sp_1001 : (Int16.ofInt 1001).toInt32 = nI 1001 := by decide +kernel
theorem sp_1086 : (Int16.ofInt 1086).toInt32 = nI 1086 := by decide +kernel
theorem sp_1087 : (Int16.ofInt 1087).toInt32 = nI 1087 := by decide +kernel
theorem sp_1088 : (Int16.ofInt 1088).toInt32 = nI 1088 := by decide +kernel
theorem sp_1089 : (Int16.ofInt 1089).toInt32 = nI 1089 := by decide +kernel
theorem sp_1090 : (Int16.ofInt 1090).toInt32 = nI 1090 := by decide +kernel
theorem sp_2000 : (Int16.ofInt 2000).toInt32 = nI 2000 := by decide +kernel
theorem sp_9999 : (Int16.ofInt 9999).toInt32 = nI 9999 := by decide +kernel
theorem ic_0 : Int32.ofInt 0 = nI 0 := by decide +kernel
theorem ic_1 : Int32.ofInt 1 = nI 1 := by decide +kernel
theorem ic_2 : Int32.ofInt 2 = nI 2 := by decide +kernel
theorem ic_3 : Int32.ofInt 3 = nI 3 := by decide +kernel
theorem ic_4 : Int32.ofInt 4 = nI 4 := by decide +kernel
theorem ic_5 : Int32.ofInt 5 = nI 5 := by decide +kernel
end
