set_option maxRecDepth 100000 in
theorem im_obj : Cond.instanceMethod Lib.objectInit ∈ gT := mem_gT 84 (by decide +kernel) (by decide +kernel)
set_option maxRecDepth 100000 in
theorem co_obj : Cond.code Lib.objectInit ⟨#[0xb1]⟩ 1 none ∈ gT := mem_gT 85 rfl (by decide +kernel)
set_option maxRecDepth 100000 in
theorem ac_int : Cond.arrayClass .int ∈ gT := mem_gT 127 (by decide +kernel) (by decide +kernel)
theorem df_X0 : ∀ j, j < 5 → defaultValue (tyX0 j) = vp_V [.int 0, .null, .null, .null, .null] j := fun j hj => by
  rcases (show j = 0 ∨ j = 1 ∨ j = 2 ∨ j = 3 ∨ j = 4 by omega) with rfl | rfl | rfl | rfl | rfl <;> rfl
set_option maxRecDepth 100000 in
theorem in_X0 : Cond.instantiable RX0 5 ∈ gT := mem_gT 152 (by decide +kernel) (by decide +kernel)
theorem df_X1 : ∀ j, j < 3 → defaultValue (tyX1 j) = vp_V [.int 0, .null, .null] j := fun j hj => by
  rcases (show j = 0 ∨ j = 1 ∨ j = 2 by omega) with rfl | rfl | rfl <;> rfl
set_option maxRecDepth 100000 in
theorem in_X1 : Cond.instantiable RX1 3 ∈ gT := mem_gT 182 (by decide +kernel) (by decide +kernel)
theorem df_X2 : ∀ j, j < 3 → defaultValue (tyX2 j) = vp_V [.int 0, .int 0, .null] j := fun j hj => by
  rcases (show j = 0 ∨ j = 1 ∨ j = 2 by omega) with rfl | rfl | rfl <;> rfl
set_option maxRecDepth 100000 in
theorem in_X2 : Cond.instantiable RX2 3 ∈ gT := mem_gT 228 (by decide +kernel) (by decide +kernel)
theorem df_X3 : ∀ j, j < 3 → defaultValue (tyX3 j) = vp_V [.null, .null, .null] j := fun j hj => by
  rcases (show j = 0 ∨ j = 1 ∨ j = 2 by omega) with rfl | rfl | rfl <;> rfl
set_option maxRecDepth 100000 in
theorem in_X3 : Cond.instantiable RX3 3 ∈ gT := mem_gT 129 (by decide +kernel) (by decide +kernel)
theorem df_X4 : ∀ j, j < 7 → defaultValue (tyX4 j) = vp_V [.null, .null, .null, .null, .null, .null, .null] j := fun j hj => by
  rcases (show j = 0 ∨ j = 1 ∨ j = 2 ∨ j = 3 ∨ j = 4 ∨ j = 5 ∨ j = 6 by omega) with rfl | rfl | rfl | rfl | rfl | rfl | rfl <;> rfl
set_option maxRecDepth 100000 in
theorem in_X4 : Cond.instantiable RX4 7 ∈ gT := mem_gT 87 (by decide +kernel) (by decide +kernel)
theorem df_X5 : ∀ j, j < 6 → defaultValue (tyX5 j) = vp_V [.int 0, .null, .null, .null, .null, .null] j := fun j hj => by
  rcases (show j = 0 ∨ j = 1 ∨ j = 2 ∨ j = 3 ∨ j = 4 ∨ j = 5 by omega) with rfl | rfl | rfl | rfl | rfl | rfl <;> rfl
set_option maxRecDepth 100000 in
theorem in_X5 : Cond.instantiable RX5 6 ∈ gT := mem_gT 93 (by decide +kernel) (by decide +kernel)
theorem df_X6 : ∀ j, j < 5 → defaultValue (tyX6 j) = vp_V [.null, .null, .int 0, .null, .int 0] j := fun j hj => by
  rcases (show j = 0 ∨ j = 1 ∨ j = 2 ∨ j = 3 ∨ j = 4 by omega) with rfl | rfl | rfl | rfl | rfl <;> rfl
set_option maxRecDepth 100000 in
theorem in_X6 : Cond.instantiable RX6 5 ∈ gT := mem_gT 79 (by decide +kernel) (by decide +kernel)
theorem df_X7 : ∀ j, j < 12 → defaultValue (tyX7 j) = vp_V [.null, .null, .int 0, .null, .null, .null, .int 0, .null, .null, .null, .null, .null] j := fun j hj => by
  rcases (show j = 0 ∨ j = 1 ∨ j = 2 ∨ j = 3 ∨ j = 4 ∨ j = 5 ∨ j = 6 ∨ j = 7 ∨ j = 8 ∨ j = 9 ∨ j = 10 ∨ j = 11 by omega) with rfl | rfl | rfl | rfl | rfl | rfl | rfl | rfl | rfl | rfl | rfl | rfl <;> rfl
set_option maxRecDepth 100000 in
theorem in_X7 : Cond.instantiable RX7 12 ∈ gT := mem_gT 690 (by decide +kernel) (by decide +kernel)
set_option maxRecDepth 100000 in
theorem cl_L_7 : Cond.classLink RL 7 RX6 ∈ gT := mem_gT 78 (by decide +kernel) (by decide +kernel)
set_option maxRecDepth 100000 in
theorem cl_X6_7 : Cond.classLink RX6 7 RX4 ∈ gT := mem_gT 86 (by decide +kernel) (by decide +kernel)
set_option maxRecDepth 100000 in
theorem cl_X4_9 : Cond.classLink RX4 9 RX5 ∈ gT := mem_gT 92 (by decide +kernel) (by decide +kernel)
set_option maxRecDepth 100000 in
theorem cl_X4_18 : Cond.classLink RX4 18 RX3 ∈ gT := mem_gT 128 (by decide +kernel) (by decide +kernel)
set_option maxRecDepth 100000 in
theorem cl_X4_25 : Cond.classLink RX4 25 RX0 ∈ gT := mem_gT 151 (by decide +kernel) (by decide +kernel)
set_option maxRecDepth 100000 in
theorem cl_X4_32 : Cond.classLink RX4 32 RX1 ∈ gT := mem_gT 181 (by decide +kernel) (by decide +kernel)
set_option maxRecDepth 100000 in
theorem cl_X6_23 : Cond.classLink RX6 23 RX2 ∈ gT := mem_gT 226 (by decide +kernel) (by decide +kernel)
set_option maxRecDepth 100000 in
theorem cl_L_10 : Cond.classLink RL 10 RX7 ∈ gT := mem_gT 689 (by decide +kernel) (by decide +kernel)
set_option maxRecDepth 100000 in
theorem ffX6_10 : FF RX6 10 6 0 := ⟨RX6, TX6, 5, tyX6, rfl, by decide, cw_X6, tyX6_ok, nmX6, rfl, rfl, fun _ => ⟨rfl, rfl⟩, mem_gT 246 (by decide +kernel) (by decide +kernel)⟩
set_option maxRecDepth 100000 in
theorem ffX6_16 : FF RX6 16 6 1 := ⟨RX6, TX6, 5, tyX6, rfl, by decide, cw_X6, tyX6_ok, nmX6, rfl, rfl, fun _ => ⟨rfl, rfl⟩, mem_gT 247 (by decide +kernel) (by decide +kernel)⟩
set_option maxRecDepth 100000 in
theorem ffX6_26 : FF RX6 26 6 3 := ⟨RX6, TX6, 5, tyX6, rfl, by decide, cw_X6, tyX6_ok, nmX6, rfl, rfl, fun _ => ⟨rfl, rfl⟩, mem_gT 249 (by decide +kernel) (by decide +kernel)⟩
set_option maxRecDepth 100000 in
theorem ffX0_15 : FF RX0 15 0 1 := ⟨RX0, TX0, 5, tyX0, rfl, by decide, cw_X0, tyX0_ok, nmX0, rfl, rfl, fun _ => ⟨rfl, rfl⟩, mem_gT 160 (by decide +kernel) (by decide +kernel)⟩
set_option maxRecDepth 100000 in
theorem ffX0_19 : FF RX0 19 0 2 := ⟨RX0, TX0, 5, tyX0, rfl, by decide, cw_X0, tyX0_ok, nmX0, rfl, rfl, fun _ => ⟨rfl, rfl⟩, mem_gT 163 (by decide +kernel) (by decide +kernel)⟩
set_option maxRecDepth 100000 in
theorem ffX0_22 : FF RX0 22 0 3 := ⟨RX0, TX0, 5, tyX0, rfl, by decide, cw_X0, tyX0_ok, nmX0, rfl, rfl, fun _ => ⟨rfl, rfl⟩, mem_gT 164 (by decide +kernel) (by decide +kernel)⟩
set_option maxRecDepth 100000 in
theorem ffX0_25 : FF RX0 25 0 4 := ⟨RX0, TX0, 5, tyX0, rfl, by decide, cw_X0, tyX0_ok, nmX0, rfl, rfl, fun _ => ⟨rfl, rfl⟩, mem_gT 167 (by decide +kernel) (by decide +kernel)⟩
set_option maxRecDepth 100000 in
theorem ffX1_15 : FF RX1 15 1 1 := ⟨RX1, TX1, 3, tyX1, rfl, by decide, cw_X1, tyX1_ok, nmX1, rfl, rfl, fun _ => ⟨rfl, rfl⟩, mem_gT 189 (by decide +kernel) (by decide +kernel)⟩
set_option maxRecDepth 100000 in
theorem ffX1_19 : FF RX1 19 1 2 := ⟨RX1, TX1, 3, tyX1, rfl, by decide, cw_X1, tyX1_ok, nmX1, rfl, rfl, fun _ => ⟨rfl, rfl⟩, mem_gT 190 (by decide +kernel) (by decide +kernel)⟩
set_option maxRecDepth 100000 in
theorem ffX2_18 : FF RX2 18 2 2 := ⟨RX2, TX2, 3, tyX2, rfl, by decide, cw_X2, tyX2_ok, nmX2, rfl, rfl, fun _ => ⟨rfl, rfl⟩, mem_gT 237 (by decide +kernel) (by decide +kernel)⟩
set_option maxRecDepth 100000 in
theorem ffX3_9 : FF RX3 9 3 0 := ⟨RX3, TX3, 3, tyX3, rfl, by decide, cw_X3, tyX3_ok, nmX3, rfl, rfl, fun _ => ⟨rfl, rfl⟩, mem_gT 137 (by decide +kernel) (by decide +kernel)⟩
set_option maxRecDepth 100000 in
theorem ffX3_15 : FF RX3 15 3 1 := ⟨RX3, TX3, 3, tyX3, rfl, by decide, cw_X3, tyX3_ok, nmX3, rfl, rfl, fun _ => ⟨rfl, rfl⟩, mem_gT 140 (by decide +kernel) (by decide +kernel)⟩
set_option maxRecDepth 100000 in
theorem ffX3_18 : FF RX3 18 3 2 := ⟨RX3, TX3, 3, tyX3, rfl, by decide, cw_X3, tyX3_ok, nmX3, rfl, rfl, fun _ => ⟨rfl, rfl⟩, mem_gT 143 (by decide +kernel) (by decide +kernel)⟩
set_option maxRecDepth 100000 in
theorem ffX4_12 : FF RX4 12 4 0 := ⟨RX4, TX4, 7, tyX4, rfl, by decide, cw_X4, tyX4_ok, nmX4, rfl, rfl, fun _ => ⟨rfl, rfl⟩, mem_gT 198 (by decide +kernel) (by decide +kernel)⟩
set_option maxRecDepth 100000 in
theorem ffX4_21 : FF RX4 21 4 1 := ⟨RX4, TX4, 7, tyX4, rfl, by decide, cw_X4, tyX4_ok, nmX4, rfl, rfl, fun _ => ⟨rfl, rfl⟩, mem_gT 200 (by decide +kernel) (by decide +kernel)⟩
set_option maxRecDepth 100000 in
theorem ffX4_28 : FF RX4 28 4 2 := ⟨RX4, TX4, 7, tyX4, rfl, by decide, cw_X4, tyX4_ok, nmX4, rfl, rfl, fun _ => ⟨rfl, rfl⟩, mem_gT 202 (by decide +kernel) (by decide +kernel)⟩
set_option maxRecDepth 100000 in
theorem ffX4_35 : FF RX4 35 4 3 := ⟨RX4, TX4, 7, tyX4, rfl, by decide, cw_X4, tyX4_ok, nmX4, rfl, rfl, fun _ => ⟨rfl, rfl⟩, mem_gT 204 (by decide +kernel) (by decide +kernel)⟩
set_option maxRecDepth 100000 in
theorem ffX4_39 : FF RX4 39 4 4 := ⟨RX4, TX4, 7, tyX4, rfl, by decide, cw_X4, tyX4_ok, nmX4, rfl, rfl, fun _ => ⟨rfl, rfl⟩, mem_gT 206 (by decide +kernel) (by decide +kernel)⟩
set_option maxRecDepth 100000 in
theorem ffX4_43 : FF RX4 43 4 5 := ⟨RX4, TX4, 7, tyX4, rfl, by decide, cw_X4, tyX4_ok, nmX4, rfl, rfl, fun _ => ⟨rfl, rfl⟩, mem_gT 208 (by decide +kernel) (by decide +kernel)⟩
set_option maxRecDepth 100000 in
theorem ffX4_46 : FF RX4 46 4 6 := ⟨RX4, TX4, 7, tyX4, rfl, by decide, cw_X4, tyX4_ok, nmX4, rfl, rfl, fun _ => ⟨rfl, rfl⟩, mem_gT 210 (by decide +kernel) (by decide +kernel)⟩
set_option maxRecDepth 100000 in
theorem ffX5_15 : FF RX5 15 5 1 := ⟨RX5, TX5, 6, tyX5, rfl, by decide, cw_X5, tyX5_ok, nmX5, rfl, rfl, fun _ => ⟨rfl, rfl⟩, mem_gT 101 (by decide +kernel) (by decide +kernel)⟩
set_option maxRecDepth 100000 in
theorem ffX5_19 : FF RX5 19 5 2 := ⟨RX5, TX5, 6, tyX5, rfl, by decide, cw_X5, tyX5_ok, nmX5, rfl, rfl, fun _ => ⟨rfl, rfl⟩, mem_gT 104 (by decide +kernel) (by decide +kernel)⟩
set_option maxRecDepth 100000 in
theorem ffX5_22 : FF RX5 22 5 3 := ⟨RX5, TX5, 6, tyX5, rfl, by decide, cw_X5, tyX5_ok, nmX5, rfl, rfl, fun _ => ⟨rfl, rfl⟩, mem_gT 106 (by decide +kernel) (by decide +kernel)⟩
set_option maxRecDepth 100000 in
theorem ffX5_25 : FF RX5 25 5 4 := ⟨RX5, TX5, 6, tyX5, rfl, by decide, cw_X5, tyX5_ok, nmX5, rfl, rfl, fun _ => ⟨rfl, rfl⟩, mem_gT 108 (by decide +kernel) (by decide +kernel)⟩
set_option maxRecDepth 100000 in
theorem ffX5_28 : FF RX5 28 5 5 := ⟨RX5, TX5, 6, tyX5, rfl, by decide, cw_X5, tyX5_ok, nmX5, rfl, rfl, fun _ => ⟨rfl, rfl⟩, mem_gT 111 (by decide +kernel) (by decide +kernel)⟩
set_option maxRecDepth 100000 in
theorem ffX7_7 : FF RX7 7 7 0 := ⟨RX7, TX7, 12, tyX7, rfl, by decide, cw_X7, tyX7_ok, nmX7, rfl, rfl, fun _ => ⟨rfl, rfl⟩, mem_gT 695 (by decide +kernel) (by decide +kernel)⟩
set_option maxRecDepth 100000 in
theorem ffX7_13 : FF RX7 13 7 1 := ⟨RX7, TX7, 12, tyX7, rfl, by decide, cw_X7, tyX7_ok, nmX7, rfl, rfl, fun _ => ⟨rfl, rfl⟩, mem_gT 696 (by decide +kernel) (by decide +kernel)⟩
set_option maxRecDepth 100000 in
theorem ffX7_16 : FF RX7 16 7 3 := ⟨RX7, TX7, 12, tyX7, rfl, by decide, cw_X7, tyX7_ok, nmX7, rfl, rfl, fun _ => ⟨rfl, rfl⟩, mem_gT 698 (by decide +kernel) (by decide +kernel)⟩
set_option maxRecDepth 100000 in
theorem ffX7_19 : FF RX7 19 7 4 := ⟨RX7, TX7, 12, tyX7, rfl, by decide, cw_X7, tyX7_ok, nmX7, rfl, rfl, fun _ => ⟨rfl, rfl⟩, mem_gT 699 (by decide +kernel) (by decide +kernel)⟩
set_option maxRecDepth 100000 in
theorem ffX7_22 : FF RX7 22 7 5 := ⟨RX7, TX7, 12, tyX7, rfl, by decide, cw_X7, tyX7_ok, nmX7, rfl, rfl, fun _ => ⟨rfl, rfl⟩, mem_gT 700 (by decide +kernel) (by decide +kernel)⟩
set_option maxRecDepth 100000 in
theorem ffX7_25 : FF RX7 25 7 7 := ⟨RX7, TX7, 12, tyX7, rfl, by decide, cw_X7, tyX7_ok, nmX7, rfl, rfl, fun _ => ⟨rfl, rfl⟩, mem_gT 702 (by decide +kernel) (by decide +kernel)⟩
set_option maxRecDepth 100000 in
theorem ffX7_28 : FF RX7 28 7 8 := ⟨RX7, TX7, 12, tyX7, rfl, by decide, cw_X7, tyX7_ok, nmX7, rfl, rfl, fun _ => ⟨rfl, rfl⟩, mem_gT 703 (by decide +kernel) (by decide +kernel)⟩
set_option maxRecDepth 100000 in
theorem ffX7_31 : FF RX7 31 7 9 := ⟨RX7, TX7, 12, tyX7, rfl, by decide, cw_X7, tyX7_ok, nmX7, rfl, rfl, fun _ => ⟨rfl, rfl⟩, mem_gT 704 (by decide +kernel) (by decide +kernel)⟩
set_option maxRecDepth 100000 in
theorem ffX7_34 : FF RX7 34 7 10 := ⟨RX7, TX7, 12, tyX7, rfl, by decide, cw_X7, tyX7_ok, nmX7, rfl, rfl, fun _ => ⟨rfl, rfl⟩, mem_gT 705 (by decide +kernel) (by decide +kernel)⟩
set_option maxRecDepth 100000 in
theorem ffX7_37 : FF RX7 37 7 11 := ⟨RX7, TX7, 12, tyX7, rfl, by decide, cw_X7, tyX7_ok, nmX7, rfl, rfl, fun _ => ⟨rfl, rfl⟩, mem_gT 706 (by decide +kernel) (by decide +kernel)⟩
abbrev MX0_init : MT := (yX0_init, cX0_init, 1, none, { frames := 1, cells := 4, slots := 40, locals := 20 })
set_option maxRecDepth 100000 in
theorem ok_X0_init : okM MX0_init 0 := ⟨ini_X0, mem_gT 155 rfl (by decide +kernel), (by decide +kernel)⟩
set_option maxRecDepth 100000 in
theorem im_X0_init : Cond.instanceMethod yX0_init ∈ gT := mem_gT 154 (by decide +kernel) (by decide +kernel)
abbrev MX1_init : MT := (yX1_init, cX1_init, 1, none, { frames := 1, cells := 2, slots := 480, locals := 20 })
set_option maxRecDepth 100000 in
theorem ok_X1_init : okM MX1_init 0 := ⟨ini_X1, mem_gT 185 rfl (by decide +kernel), (by decide +kernel)⟩
set_option maxRecDepth 100000 in
theorem im_X1_init : Cond.instanceMethod yX1_init ∈ gT := mem_gT 184 (by decide +kernel) (by decide +kernel)
abbrev MX2_init : MT := (yX2_init, cX2_init, 1, none, { frames := 1, cells := 1, slots := 24, locals := 20 })
set_option maxRecDepth 100000 in
theorem ok_X2_init : okM MX2_init 0 := ⟨ini_X2, mem_gT 231 rfl (by decide +kernel), (by decide +kernel)⟩
set_option maxRecDepth 100000 in
theorem im_X2_init : Cond.instanceMethod yX2_init ∈ gT := mem_gT 230 (by decide +kernel) (by decide +kernel)
abbrev MX3_init : MT := (yX3_init, cX3_init, 3, none, { frames := 1, cells := 3, slots := 262, locals := 21 })
set_option maxRecDepth 100000 in
theorem ok_X3_init : okM MX3_init 0 := ⟨ini_X3, mem_gT 132 rfl (by decide +kernel), (by decide +kernel)⟩
set_option maxRecDepth 100000 in
theorem im_X3_init : Cond.instanceMethod yX3_init ∈ gT := mem_gT 131 (by decide +kernel) (by decide +kernel)
abbrev MX5_init : MT := (yX5_init, cX5_init, 1, none, { frames := 1, cells := 5, slots := 50, locals := 20 })
set_option maxRecDepth 100000 in
theorem ok_X5_init : okM MX5_init 0 := ⟨ini_X5, mem_gT 96 rfl (by decide +kernel), (by decide +kernel)⟩
set_option maxRecDepth 100000 in
theorem im_X5_init : Cond.instanceMethod yX5_init ∈ gT := mem_gT 95 (by decide +kernel) (by decide +kernel)
abbrev MX4_init : MT := (yX4_init, cX4_init, 1, none, { frames := 2, cells := 21, slots := 1353, locals := 43 })
set_option maxRecDepth 100000 in
theorem ok_X4_init : okM MX4_init 0 := ⟨ini_X4, mem_gT 90 rfl (by decide +kernel), (by decide +kernel)⟩
set_option maxRecDepth 100000 in
theorem im_X4_init : Cond.instanceMethod yX4_init ∈ gT := mem_gT 89 (by decide +kernel) (by decide +kernel)
abbrev MX6_init : MT := (yX6_init, cX6_init, 1, none, { frames := 3, cells := 53, slots := 2832, locals := 63 })
set_option maxRecDepth 100000 in
theorem ok_X6_init : okM MX6_init 0 := ⟨ini_X6, mem_gT 82 rfl (by decide +kernel), (by decide +kernel)⟩
set_option maxRecDepth 100000 in
theorem im_X6_init : Cond.instanceMethod yX6_init ∈ gT := mem_gT 81 (by decide +kernel) (by decide +kernel)
abbrev MX7_init : MT := (yX7_init, cX7_init, 2, none, { frames := 1, cells := 10, slots := 2808, locals := 20 })
set_option maxRecDepth 100000 in
theorem ok_X7_init : okM MX7_init 0 := ⟨ini_X7, mem_gT 693 rfl (by decide +kernel), (by decide +kernel)⟩
set_option maxRecDepth 100000 in
theorem im_X7_init : Cond.instanceMethod yX7_init ∈ gT := mem_gT 692 (by decide +kernel) (by decide +kernel)
set_option maxRecDepth 100000 in
theorem lo_X6_1 : Cond.methodLink RX6 1 Lib.objectInit ∈ gT := mem_gT 83 (by decide +kernel) (by decide +kernel)
set_option maxRecDepth 100000 in
theorem ln_X6_9 : lnk RX6 9 yX4_init := Or.inr ⟨"WellField", mem_nT 88 (by decide +kernel) (by decide +kernel)⟩
set_option maxRecDepth 100000 in
theorem ln_X6_25 : lnk RX6 25 yX2_init := Or.inr ⟨"WellField", mem_nT 229 (by decide +kernel) (by decide +kernel)⟩
set_option maxRecDepth 100000 in
theorem lo_X0_3 : Cond.methodLink RX0 3 Lib.objectInit ∈ gT := mem_gT 156 (by decide +kernel) (by decide +kernel)
set_option maxRecDepth 100000 in
theorem lo_X1_3 : Cond.methodLink RX1 3 Lib.objectInit ∈ gT := mem_gT 186 (by decide +kernel) (by decide +kernel)
set_option maxRecDepth 100000 in
theorem lo_X2_3 : Cond.methodLink RX2 3 Lib.objectInit ∈ gT := mem_gT 232 (by decide +kernel) (by decide +kernel)
set_option maxRecDepth 100000 in
theorem lo_X3_3 : Cond.methodLink RX3 3 Lib.objectInit ∈ gT := mem_gT 133 (by decide +kernel) (by decide +kernel)
set_option maxRecDepth 100000 in
theorem lo_X4_3 : Cond.methodLink RX4 3 Lib.objectInit ∈ gT := mem_gT 91 (by decide +kernel) (by decide +kernel)
set_option maxRecDepth 100000 in
theorem ln_X4_11 : lnk RX4 11 yX5_init := Or.inr ⟨"WellField", mem_nT 94 (by decide +kernel) (by decide +kernel)⟩
set_option maxRecDepth 100000 in
theorem ln_X4_20 : lnk RX4 20 yX3_init := Or.inr ⟨"WellField", mem_nT 130 (by decide +kernel) (by decide +kernel)⟩
set_option maxRecDepth 100000 in
theorem ln_X4_27 : lnk RX4 27 yX0_init := Or.inr ⟨"WellField", mem_nT 153 (by decide +kernel) (by decide +kernel)⟩
set_option maxRecDepth 100000 in
theorem ln_X4_34 : lnk RX4 34 yX1_init := Or.inr ⟨"WellField", mem_nT 183 (by decide +kernel) (by decide +kernel)⟩
set_option maxRecDepth 100000 in
theorem lo_X5_3 : Cond.methodLink RX5 3 Lib.objectInit ∈ gT := mem_gT 97 (by decide +kernel) (by decide +kernel)
set_option maxRecDepth 100000 in
theorem ln_L_9 : lnk RL 9 yX6_init := Or.inl (mem_gT 80 (by decide +kernel) (by decide +kernel))
set_option maxRecDepth 100000 in
theorem ln_L_12 : lnk RL 12 yX7_init := Or.inl (mem_gT 691 (by decide +kernel) (by decide +kernel))
set_option maxRecDepth 100000 in
theorem lo_X7_1 : Cond.methodLink RX7 1 Lib.objectInit ∈ gT := mem_gT 694 (by decide +kernel) (by decide +kernel)
/-- the tables' start -/
def tabF (n : Nat) : Nat → Int32 := it0 (fun d F => upd (upd F ((0 * 10 + d) * 12) (nI (100 - 10 * d))) ((1 * 10 + d) * 12) (nI (100 - 10 * d) / nI 2)) n (fun _ => 0)
def risF : Nat → Int32 := upd (fun _ => 0) 0 (nI 10)
def mtF (n : Nat) : Nat → Int32 := it0 (fun d F => upd (upd F (290 + 12 * d) (nI (100 - 10 * d))) (410 + 12 * d) (nI (50 - 5 * d))) n (fun _ => 0)
def mowF : Nat → Int32 := upd (upd (mtF 10) 530 (nI 10)) 1089 (nI 0)
theorem k_X3_rowG {l : Launch} {E : ET} {ws : va_W} {i j : Nat} : Ci l E MX3_row [.int (nI i), .int (nI j)] ws (some (.int (nI ((i * 10 + j) * 12)))) (fun _ => ws) := by
  refine Ci.of (L := [some (.int (nI i)), some (.int (nI j))]) (by decide) rfl (Nat.le_of_ble_eq_true rfl) rfl (fun X hC _ hT => ?_)
  refine g_iload_0 hC dX3_row_0 ?_
  refine g_bipush hC dX3_row_1 bp_10 ?_
  refine g_imulN hC dX3_row_3 ?_
  refine g_iload_1 hC dX3_row_4 ?_
  refine g_iaddN hC dX3_row_5 ?_
  refine g_bipush hC dX3_row_6 bp_12 ?_
  refine g_imulN hC dX3_row_8 ?_
  exact g_iret hC hT (fun _ => 0) rfl dX3_row_9
theorem k_X0_init {l : Launch} {E : ET} {h0 : Nat} {rest : va_W} : Ci l E MX0_init [.ref h0] ((h0, .inr (0, [.int 0, .null, .null, .null, .null])) :: rest) none (fun qs => ((qs 3), .inl (E.2.1, 10, .inl (fun _ => 0))) :: ((qs 2), .inl (E.2.1, 10, .inl (fun _ => 0))) :: ((qs 1), .inl (E.2.1, 10, .inl (fun _ => 0))) :: ((qs 0), .inl (E.2.1, 10, .inl (fun _ => 0))) :: (h0, .inr (0, [.int (nI 0), .ref (qs 0), .ref (qs 1), .ref (qs 2), .ref (qs 3)])) :: rest) := by
  refine Ci.of (L := [some (.ref h0)]) (by decide) rfl (Nat.le_of_ble_eq_true rfl) rfl (fun X hC hm hT => ?_)
  refine g_aload_0 hC dX0_init_0 ?_
  refine g_obj hC lo_X0_3 im_obj co_obj (by decide) (Nat.le_of_ble_eq_true rfl) dX0_init_1 ?_
  refine g_aload_0 hC dX0_init_4 ?_
  refine g_iconst hC dX0_init_5 ic_0 ?_
  refine g_put (q0 := 0) (ws2 := (h0, .inr (0, [.int (nI 0), .null, .null, .null, .null])) :: rest) hC pX0_9 rfl rfl rfl (Nat.le_of_ble_eq_true rfl) rfl dX0_init_6 ?_
  refine g_aload_0 hC dX0_init_9 ?_
  refine g_bipush hC dX0_init_10 bp_10 ?_
  refine g_newa (N := 10) hC ac_int (by decide) (Nat.le_of_ble_eq_true rfl) (Nat.le_of_ble_eq_true rfl) dX0_init_12 (fun q12 => ?_)
  refine g_putF (q0 := 1) (ws2 := (q12, .inl (E.2.1, 10, .inl (fun _ => 0))) :: (h0, .inr (0, [.int (nI 0), .ref q12, .null, .null, .null])) :: rest) hC hm ffX0_15 rfl (Nat.le_of_ble_eq_true rfl) rfl dX0_init_14 ?_
  refine g_aload_0 hC dX0_init_17 ?_
  refine g_bipush hC dX0_init_18 bp_10 ?_
  refine g_newa (N := 10) hC ac_int (by decide) (Nat.le_of_ble_eq_true rfl) (Nat.le_of_ble_eq_true rfl) dX0_init_20 (fun q20 => ?_)
  refine g_putF (q0 := 2) (ws2 := (q20, .inl (E.2.1, 10, .inl (fun _ => 0))) :: (q12, .inl (E.2.1, 10, .inl (fun _ => 0))) :: (h0, .inr (0, [.int (nI 0), .ref q12, .ref q20, .null, .null])) :: rest) hC hm ffX0_19 rfl (Nat.le_of_ble_eq_true rfl) rfl dX0_init_22 ?_
  refine g_aload_0 hC dX0_init_25 ?_
  refine g_bipush hC dX0_init_26 bp_10 ?_
  refine g_newa (N := 10) hC ac_int (by decide) (Nat.le_of_ble_eq_true rfl) (Nat.le_of_ble_eq_true rfl) dX0_init_28 (fun q28 => ?_)
  refine g_putF (q0 := 3) (ws2 := (q28, .inl (E.2.1, 10, .inl (fun _ => 0))) :: (q20, .inl (E.2.1, 10, .inl (fun _ => 0))) :: (q12, .inl (E.2.1, 10, .inl (fun _ => 0))) :: (h0, .inr (0, [.int (nI 0), .ref q12, .ref q20, .ref q28, .null])) :: rest) hC hm ffX0_22 rfl (Nat.le_of_ble_eq_true rfl) rfl dX0_init_30 ?_
  refine g_aload_0 hC dX0_init_33 ?_
  refine g_bipush hC dX0_init_34 bp_10 ?_
  refine g_newa (N := 10) hC ac_int (by decide) (Nat.le_of_ble_eq_true rfl) (Nat.le_of_ble_eq_true rfl) dX0_init_36 (fun q36 => ?_)
  refine g_putF (q0 := 4) (ws2 := (q36, .inl (E.2.1, 10, .inl (fun _ => 0))) :: (q28, .inl (E.2.1, 10, .inl (fun _ => 0))) :: (q20, .inl (E.2.1, 10, .inl (fun _ => 0))) :: (q12, .inl (E.2.1, 10, .inl (fun _ => 0))) :: (h0, .inr (0, [.int (nI 0), .ref q12, .ref q20, .ref q28, .ref q36])) :: rest) hC hm ffX0_25 rfl (Nat.le_of_ble_eq_true rfl) rfl dX0_init_38 ?_
  exact g_vret hC hT (fun i => ([q12, q20, q28, q36] : List Nat).getD i 0) rfl dX0_init_41
theorem k_X1_init {l : Launch} {E : ET} {h0 : Nat} {rest : va_W} : Ci l E MX1_init [.ref h0] ((h0, .inr (1, [.int 0, .null, .null])) :: rest) none (fun qs => ((qs 1), .inl (E.2.1, 240, .inl (fun _ => 0))) :: ((qs 0), .inl (E.2.1, 240, .inl (fun _ => 0))) :: (h0, .inr (1, [.int (nI 0), .ref (qs 0), .ref (qs 1)])) :: rest) := by
  refine Ci.of (L := [some (.ref h0)]) (by decide) rfl (Nat.le_of_ble_eq_true rfl) rfl (fun X hC hm hT => ?_)
  refine g_aload_0 hC dX1_init_0 ?_
  refine g_obj hC lo_X1_3 im_obj co_obj (by decide) (Nat.le_of_ble_eq_true rfl) dX1_init_1 ?_
  refine g_aload_0 hC dX1_init_4 ?_
  refine g_iconst hC dX1_init_5 ic_0 ?_
  refine g_put (q0 := 0) (ws2 := (h0, .inr (1, [.int (nI 0), .null, .null])) :: rest) hC pX1_9 rfl rfl rfl (Nat.le_of_ble_eq_true rfl) rfl dX1_init_6 ?_
  refine g_aload_0 hC dX1_init_9 ?_
  refine g_sipush hC dX1_init_10 sp_240 ?_
  refine g_newa (N := 240) hC ac_int (by decide) (Nat.le_of_ble_eq_true rfl) (Nat.le_of_ble_eq_true rfl) dX1_init_13 (fun q13 => ?_)
  refine g_putF (q0 := 1) (ws2 := (q13, .inl (E.2.1, 240, .inl (fun _ => 0))) :: (h0, .inr (1, [.int (nI 0), .ref q13, .null])) :: rest) hC hm ffX1_15 rfl (Nat.le_of_ble_eq_true rfl) rfl dX1_init_15 ?_
  refine g_aload_0 hC dX1_init_18 ?_
  refine g_sipush hC dX1_init_19 sp_240 ?_
  refine g_newa (N := 240) hC ac_int (by decide) (Nat.le_of_ble_eq_true rfl) (Nat.le_of_ble_eq_true rfl) dX1_init_22 (fun q22 => ?_)
  refine g_putF (q0 := 2) (ws2 := (q22, .inl (E.2.1, 240, .inl (fun _ => 0))) :: (q13, .inl (E.2.1, 240, .inl (fun _ => 0))) :: (h0, .inr (1, [.int (nI 0), .ref q13, .ref q22])) :: rest) hC hm ffX1_19 rfl (Nat.le_of_ble_eq_true rfl) rfl dX1_init_24 ?_
  exact g_vret hC hT (fun i => ([q13, q22] : List Nat).getD i 0) rfl dX1_init_27
theorem k_X2_init {l : Launch} {E : ET} {h0 : Nat} {rest : va_W} : Ci l E MX2_init [.ref h0] ((h0, .inr (2, [.int 0, .int 0, .null])) :: rest) none (fun qs => ((qs 0), .inl (E.2.1, 24, .inl (fun _ => 0))) :: (h0, .inr (2, [.int (nI 0), .int (nI 0), .ref (qs 0)])) :: rest) := by
  refine Ci.of (L := [some (.ref h0)]) (by decide) rfl (Nat.le_of_ble_eq_true rfl) rfl (fun X hC hm hT => ?_)
  refine g_aload_0 hC dX2_init_0 ?_
  refine g_obj hC lo_X2_3 im_obj co_obj (by decide) (Nat.le_of_ble_eq_true rfl) dX2_init_1 ?_
  refine g_aload_0 hC dX2_init_4 ?_
  refine g_iconst hC dX2_init_5 ic_0 ?_
  refine g_put (q0 := 0) (ws2 := (h0, .inr (2, [.int (nI 0), .int 0, .null])) :: rest) hC pX2_9 rfl rfl rfl (Nat.le_of_ble_eq_true rfl) rfl dX2_init_6 ?_
  refine g_aload_0 hC dX2_init_9 ?_
  refine g_iconst hC dX2_init_10 ic_0 ?_
  refine g_put (q0 := 0) (ws2 := (h0, .inr (2, [.int (nI 0), .int (nI 0), .null])) :: rest) hC pX2_15 rfl rfl rfl (Nat.le_of_ble_eq_true rfl) rfl dX2_init_11 ?_
  refine g_aload_0 hC dX2_init_14 ?_
  refine g_bipush hC dX2_init_15 bp_24 ?_
  refine g_newa (N := 24) hC ac_int (by decide) (Nat.le_of_ble_eq_true rfl) (Nat.le_of_ble_eq_true rfl) dX2_init_17 (fun q17 => ?_)
  refine g_putF (q0 := 1) (ws2 := (q17, .inl (E.2.1, 24, .inl (fun _ => 0))) :: (h0, .inr (2, [.int (nI 0), .int (nI 0), .ref q17])) :: rest) hC hm ffX2_18 rfl (Nat.le_of_ble_eq_true rfl) rfl dX2_init_19 ?_
  exact g_vret hC hT (fun i => ([q17] : List Nat).getD i 0) rfl dX2_init_22
theorem k_X3_init {l : Launch} {E : ET} {h0 : Nat} {rest : va_W} : Ci l E MX3_init [.ref h0] ((h0, .inr (3, [.null, .null, .null])) :: rest) none (fun qs => ((qs 2), .inl (E.2.1, 10, .inl (fun _ => 0))) :: ((qs 1), .inl (E.2.1, 12, .inl (upd (fun _ => 0) (0) (nI 10)))) :: ((qs 0), .inl (E.2.1, 240, .inl (tabF 10))) :: (h0, .inr (3, [.ref (qs 0), .ref (qs 1), .ref (qs 2)])) :: rest) := by
  refine Ci.of (L := [some (.ref h0), none, none]) (by decide) rfl (Nat.le_of_ble_eq_true rfl) rfl (fun X hC hm hT => ?_)
  refine g_aload_0 hC dX3_init_0 ?_
  refine g_obj hC lo_X3_3 im_obj co_obj (by decide) (Nat.le_of_ble_eq_true rfl) dX3_init_1 ?_
  refine g_aload_0 hC dX3_init_4 ?_
  refine g_sipush hC dX3_init_5 sp_240 ?_
  refine g_newa (N := 240) hC ac_int (by decide) (Nat.le_of_ble_eq_true rfl) (Nat.le_of_ble_eq_true rfl) dX3_init_8 (fun q8 => ?_)
  refine g_putF (q0 := 1) (ws2 := (q8, .inl (E.2.1, 240, .inl (fun _ => 0))) :: (h0, .inr (3, [.ref q8, .null, .null])) :: rest) hC hm ffX3_9 rfl (Nat.le_of_ble_eq_true rfl) rfl dX3_init_10 ?_
  refine g_aload_0 hC dX3_init_13 ?_
  refine g_bipush hC dX3_init_14 bp_12 ?_
  refine g_newa (N := 12) hC ac_int (by decide) (Nat.le_of_ble_eq_true rfl) (Nat.le_of_ble_eq_true rfl) dX3_init_16 (fun q16 => ?_)
  refine g_putF (q0 := 2) (ws2 := (q16, .inl (E.2.1, 12, .inl (fun _ => 0))) :: (q8, .inl (E.2.1, 240, .inl (fun _ => 0))) :: (h0, .inr (3, [.ref q8, .ref q16, .null])) :: rest) hC hm ffX3_15 rfl (Nat.le_of_ble_eq_true rfl) rfl dX3_init_18 ?_
  refine g_aload_0 hC dX3_init_21 ?_
  refine g_bipush hC dX3_init_22 bp_10 ?_
  refine g_newa (N := 10) hC ac_int (by decide) (Nat.le_of_ble_eq_true rfl) (Nat.le_of_ble_eq_true rfl) dX3_init_24 (fun q24 => ?_)
  refine g_putF (q0 := 3) (ws2 := (q24, .inl (E.2.1, 10, .inl (fun _ => 0))) :: (q16, .inl (E.2.1, 12, .inl (fun _ => 0))) :: (q8, .inl (E.2.1, 240, .inl (fun _ => 0))) :: (h0, .inr (3, [.ref q8, .ref q16, .ref q24])) :: rest) hC hm ffX3_18 rfl (Nat.le_of_ble_eq_true rfl) rfl dX3_init_26 ?_
  refine g_iconst hC dX3_init_29 ic_0 ?_
  refine g_istore_1 hC (by decide) rfl dX3_init_30 ?_
  refine up_loop (fun d : Nat => G X E 31 [some (.ref h0), some (.int (nI d)), none] [] ((q24, .inl (E.2.1, 10, .inl (fun _ => 0))) :: (q16, .inl (E.2.1, 12, .inl (fun _ => 0))) :: (q8, .inl (E.2.1, 240, .inl (tabF d))) :: (h0, .inr (3, [.ref q8, .ref q16, .ref q24])) :: rest) _ _) (Nat.zero_le 10) ?_ (fun d _ hd ih => ?_)
  · refine g_iload_1 hC dX3_init_31 ?_
    refine g_bipush hC dX3_init_32 bp_10 ?_
    refine g_icge (tgt := 75) hC dX3_init_34 (by decide) (fun _ => ?_) (fun h => absurd (Int32.le_refl _) h)
    refine g_aload_0 hC dX3_init_75 ?_
    refine g_get (q0 := 3) hC fX3_15 rfl rfl dX3_init_76 ?_
    refine g_iconst hC dX3_init_79 ic_0 ?_
    refine g_bipush hC dX3_init_80 bp_10 ?_
    refine g_iast (q0 := 1) (ws2 := (q24, .inl (E.2.1, 10, .inl (fun _ => 0))) :: (q16, .inl (E.2.1, 12, .inl (upd (fun _ => 0) (0) (nI 10)))) :: (q8, .inl (E.2.1, 240, .inl (tabF 10))) :: (h0, .inr (3, [.ref q8, .ref q16, .ref q24])) :: rest) hC rfl (by omega) (by decide) rfl dX3_init_82 ?_
    exact g_vret hC hT (fun i => ([q8, q16, q24] : List Nat).getD i 0) rfl dX3_init_83
  · refine g_iload_1 hC dX3_init_31 ?_
    refine g_bipush hC dX3_init_32 bp_10 ?_
    refine g_icge (tgt := 75) hC dX3_init_34 (by decide) (fun h => absurd h (nI_ge hd (by decide))) (fun _ => ?_)
    refine g_bipush hC dX3_init_37 bp_100 ?_
    refine g_bipush hC dX3_init_39 bp_10 ?_
    refine g_iload_1 hC dX3_init_41 ?_
    refine g_imulN hC dX3_init_42 ?_
    refine g_isubN hC dX3_init_43 (by omega) ?_
    refine g_istore_2 hC (by decide) rfl dX3_init_44 ?_
    refine g_aload_0 hC dX3_init_45 ?_
    refine g_get (q0 := 3) hC fX3_9 rfl rfl dX3_init_46 ?_
    refine g_iconst hC dX3_init_49 ic_0 ?_
    refine g_iload_1 hC dX3_init_50 ?_
    refine g_cs2 hC lX3_21 k_X3_rowG ⟨(Nat.le_of_ble_eq_true rfl), (Nat.le_of_ble_eq_true rfl), rfl, rfl⟩ (Nat.le_of_ble_eq_true rfl) (Nat.le_of_ble_eq_true rfl) (Nat.le_of_ble_eq_true rfl) dX3_init_51 ?_
    refine g_iload_2 hC dX3_init_54 ?_
    refine g_iast (q0 := 2) (ws2 := (q24, .inl (E.2.1, 10, .inl (fun _ => 0))) :: (q16, .inl (E.2.1, 12, .inl (fun _ => 0))) :: (q8, .inl (E.2.1, 240, .inl (upd (tabF d) ((0 * 10 + d) * 12) (nI (100 - 10 * d))))) :: (h0, .inr (3, [.ref q8, .ref q16, .ref q24])) :: rest) hC rfl (by omega) (by decide) rfl dX3_init_55 ?_
    refine g_aload_0 hC dX3_init_56 ?_
    refine g_get (q0 := 3) hC fX3_9 rfl rfl dX3_init_57 ?_
    refine g_iconst hC dX3_init_60 ic_1 ?_
    refine g_iload_1 hC dX3_init_61 ?_
    refine g_cs2 hC lX3_21 k_X3_rowG ⟨(Nat.le_of_ble_eq_true rfl), (Nat.le_of_ble_eq_true rfl), rfl, rfl⟩ (Nat.le_of_ble_eq_true rfl) (Nat.le_of_ble_eq_true rfl) (Nat.le_of_ble_eq_true rfl) dX3_init_62 ?_
    refine g_iload_2 hC dX3_init_65 ?_
    refine g_iconst hC dX3_init_66 ic_2 ?_
    refine g_idiv hC dX3_init_67 (by decide) ?_
    refine g_iast (q0 := 2) (ws2 := (q24, .inl (E.2.1, 10, .inl (fun _ => 0))) :: (q16, .inl (E.2.1, 12, .inl (fun _ => 0))) :: (q8, .inl (E.2.1, 240, .inl (upd (upd (tabF d) ((0 * 10 + d) * 12) (nI (100 - 10 * d))) ((1 * 10 + d) * 12) (nI (100 - 10 * d) / nI 2)))) :: (h0, .inr (3, [.ref q8, .ref q16, .ref q24])) :: rest) hC rfl (by omega) (by decide) rfl dX3_init_68 ?_
    refine g_iinc1_1 hC (by decide) rfl dX3_init_69 ?_
    refine g_goto (tgt := 31) hC dX3_init_72 (by decide) ?_
    exact g_forget_2 ih
theorem k_X5_init {l : Launch} {E : ET} {h0 : Nat} {rest : va_W} : Ci l E MX5_init [.ref h0] ((h0, .inr (5, [.int 0, .null, .null, .null, .null, .null])) :: rest) none (fun qs => ((qs 4), .inl (E.2.1, 10, .inl (fun _ => 0))) :: ((qs 3), .inl (E.2.1, 10, .inl (fun _ => 0))) :: ((qs 2), .inl (E.2.1, 10, .inl (fun _ => 0))) :: ((qs 1), .inl (E.2.1, 10, .inl (fun _ => 0))) :: ((qs 0), .inl (E.2.1, 10, .inl (fun _ => 0))) :: (h0, .inr (5, [.int (nI 0), .ref (qs 0), .ref (qs 1), .ref (qs 2), .ref (qs 3), .ref (qs 4)])) :: rest) := by
  refine Ci.of (L := [some (.ref h0)]) (by decide) rfl (Nat.le_of_ble_eq_true rfl) rfl (fun X hC hm hT => ?_)
  refine g_aload_0 hC dX5_init_0 ?_
  refine g_obj hC lo_X5_3 im_obj co_obj (by decide) (Nat.le_of_ble_eq_true rfl) dX5_init_1 ?_
  refine g_aload_0 hC dX5_init_4 ?_
  refine g_iconst hC dX5_init_5 ic_0 ?_
  refine g_put (q0 := 0) (ws2 := (h0, .inr (5, [.int (nI 0), .null, .null, .null, .null, .null])) :: rest) hC pX5_9 rfl rfl rfl (Nat.le_of_ble_eq_true rfl) rfl dX5_init_6 ?_
  refine g_aload_0 hC dX5_init_9 ?_
  refine g_bipush hC dX5_init_10 bp_10 ?_
  refine g_newa (N := 10) hC ac_int (by decide) (Nat.le_of_ble_eq_true rfl) (Nat.le_of_ble_eq_true rfl) dX5_init_12 (fun q12 => ?_)
  refine g_putF (q0 := 1) (ws2 := (q12, .inl (E.2.1, 10, .inl (fun _ => 0))) :: (h0, .inr (5, [.int (nI 0), .ref q12, .null, .null, .null, .null])) :: rest) hC hm ffX5_15 rfl (Nat.le_of_ble_eq_true rfl) rfl dX5_init_14 ?_
  refine g_aload_0 hC dX5_init_17 ?_
  refine g_bipush hC dX5_init_18 bp_10 ?_
  refine g_newa (N := 10) hC ac_int (by decide) (Nat.le_of_ble_eq_true rfl) (Nat.le_of_ble_eq_true rfl) dX5_init_20 (fun q20 => ?_)
  refine g_putF (q0 := 2) (ws2 := (q20, .inl (E.2.1, 10, .inl (fun _ => 0))) :: (q12, .inl (E.2.1, 10, .inl (fun _ => 0))) :: (h0, .inr (5, [.int (nI 0), .ref q12, .ref q20, .null, .null, .null])) :: rest) hC hm ffX5_19 rfl (Nat.le_of_ble_eq_true rfl) rfl dX5_init_22 ?_
  refine g_aload_0 hC dX5_init_25 ?_
  refine g_bipush hC dX5_init_26 bp_10 ?_
  refine g_newa (N := 10) hC ac_int (by decide) (Nat.le_of_ble_eq_true rfl) (Nat.le_of_ble_eq_true rfl) dX5_init_28 (fun q28 => ?_)
  refine g_putF (q0 := 3) (ws2 := (q28, .inl (E.2.1, 10, .inl (fun _ => 0))) :: (q20, .inl (E.2.1, 10, .inl (fun _ => 0))) :: (q12, .inl (E.2.1, 10, .inl (fun _ => 0))) :: (h0, .inr (5, [.int (nI 0), .ref q12, .ref q20, .ref q28, .null, .null])) :: rest) hC hm ffX5_22 rfl (Nat.le_of_ble_eq_true rfl) rfl dX5_init_30 ?_
  refine g_aload_0 hC dX5_init_33 ?_
  refine g_bipush hC dX5_init_34 bp_10 ?_
  refine g_newa (N := 10) hC ac_int (by decide) (Nat.le_of_ble_eq_true rfl) (Nat.le_of_ble_eq_true rfl) dX5_init_36 (fun q36 => ?_)
  refine g_putF (q0 := 4) (ws2 := (q36, .inl (E.2.1, 10, .inl (fun _ => 0))) :: (q28, .inl (E.2.1, 10, .inl (fun _ => 0))) :: (q20, .inl (E.2.1, 10, .inl (fun _ => 0))) :: (q12, .inl (E.2.1, 10, .inl (fun _ => 0))) :: (h0, .inr (5, [.int (nI 0), .ref q12, .ref q20, .ref q28, .ref q36, .null])) :: rest) hC hm ffX5_25 rfl (Nat.le_of_ble_eq_true rfl) rfl dX5_init_38 ?_
  refine g_aload_0 hC dX5_init_41 ?_
  refine g_bipush hC dX5_init_42 bp_10 ?_
  refine g_newa (N := 10) hC ac_int (by decide) (Nat.le_of_ble_eq_true rfl) (Nat.le_of_ble_eq_true rfl) dX5_init_44 (fun q44 => ?_)
  refine g_putF (q0 := 5) (ws2 := (q44, .inl (E.2.1, 10, .inl (fun _ => 0))) :: (q36, .inl (E.2.1, 10, .inl (fun _ => 0))) :: (q28, .inl (E.2.1, 10, .inl (fun _ => 0))) :: (q20, .inl (E.2.1, 10, .inl (fun _ => 0))) :: (q12, .inl (E.2.1, 10, .inl (fun _ => 0))) :: (h0, .inr (5, [.int (nI 0), .ref q12, .ref q20, .ref q28, .ref q36, .ref q44])) :: rest) hC hm ffX5_28 rfl (Nat.le_of_ble_eq_true rfl) rfl dX5_init_46 ?_
  exact g_vret hC hT (fun i => ([q12, q20, q28, q36, q44] : List Nat).getD i 0) rfl dX5_init_49
theorem k_X4_init {l : Launch} {E : ET} {h0 : Nat} {rest : va_W} : Ci l E MX4_init [.ref h0] ((h0, .inr (4, [.null, .null, .null, .null, .null, .null, .null])) :: rest) none (fun qs => ((qs 20), .inl (E.2.1, 240, .inl (fun _ => 0))) :: ((qs 19), .inl (E.2.1, 24, .inl (fun _ => 0))) :: ((qs 18), .inl (E.2.1, 240, .inl (fun _ => 0))) :: ((qs 17), .inl (E.2.1, 240, .inl (fun _ => 0))) :: ((qs 16), .inl (E.2.1, 240, .inl (fun _ => 0))) :: ((qs 15), .inr (1, [.int (nI 0), .ref (qs 16), .ref (qs 17)])) :: ((qs 14), .inl (E.2.1, 10, .inl (fun _ => 0))) :: ((qs 13), .inl (E.2.1, 10, .inl (fun _ => 0))) :: ((qs 12), .inl (E.2.1, 10, .inl (fun _ => 0))) :: ((qs 11), .inl (E.2.1, 10, .inl (fun _ => 0))) :: ((qs 10), .inr (0, [.int (nI 0), .ref (qs 11), .ref (qs 12), .ref (qs 13), .ref (qs 14)])) :: ((qs 9), .inl (E.2.1, 10, .inl (fun _ => 0))) :: ((qs 8), .inl (E.2.1, 12, .inl (upd (fun _ => 0) (0) (nI 10)))) :: ((qs 7), .inl (E.2.1, 240, .inl (tabF 10))) :: ((qs 6), .inr (3, [.ref (qs 7), .ref (qs 8), .ref (qs 9)])) :: ((qs 5), .inl (E.2.1, 10, .inl (fun _ => 0))) :: ((qs 4), .inl (E.2.1, 10, .inl (fun _ => 0))) :: ((qs 3), .inl (E.2.1, 10, .inl (fun _ => 0))) :: ((qs 2), .inl (E.2.1, 10, .inl (fun _ => 0))) :: ((qs 1), .inl (E.2.1, 10, .inl (fun _ => 0))) :: ((qs 0), .inr (5, [.int (nI 0), .ref (qs 1), .ref (qs 2), .ref (qs 3), .ref (qs 4), .ref (qs 5)])) :: (h0, .inr (4, [.ref (qs 0), .ref (qs 6), .ref (qs 10), .ref (qs 15), .ref (qs 18), .ref (qs 19), .ref (qs 20)])) :: rest) := by
  refine Ci.of (L := [some (.ref h0)]) (by decide) rfl (Nat.le_of_ble_eq_true rfl) rfl (fun X hC hm hT => ?_)
  refine g_aload_0 hC dX4_init_0 ?_
  refine g_obj hC lo_X4_3 im_obj co_obj (by decide) (Nat.le_of_ble_eq_true rfl) dX4_init_1 ?_
  refine g_aload_0 hC dX4_init_4 ?_
  refine g_new (fs := [.int 0, .null, .null, .null, .null, .null]) (ci := 5) hC cw_X5 tyX5_ok cl_X4_9 in_X5 ini_X5 rfl df_X5 (Nat.le_of_ble_eq_true rfl) (Nat.le_of_ble_eq_true rfl) dX4_init_5 (fun q5 => ?_)
  refine g_dup hC rfl dX4_init_8 ?_
  refine g_init (M := MX5_init) hC ln_X4_11 ok_X5_init rfl rfl im_X5_init k_X5_init ⟨(Nat.le_of_ble_eq_true rfl), (Nat.le_of_ble_eq_true rfl), (Nat.le_of_ble_eq_true rfl), (Nat.le_of_ble_eq_true rfl)⟩ (Nat.le_of_ble_eq_true rfl) dX4_init_9 (fun s9 => ?_)
  refine g_putF (q0 := 6) (ws2 := ((s9 4), .inl (E.2.1, 10, .inl (fun _ => 0))) :: ((s9 3), .inl (E.2.1, 10, .inl (fun _ => 0))) :: ((s9 2), .inl (E.2.1, 10, .inl (fun _ => 0))) :: ((s9 1), .inl (E.2.1, 10, .inl (fun _ => 0))) :: ((s9 0), .inl (E.2.1, 10, .inl (fun _ => 0))) :: (q5, .inr (5, [.int (nI 0), .ref (s9 0), .ref (s9 1), .ref (s9 2), .ref (s9 3), .ref (s9 4)])) :: (h0, .inr (4, [.ref q5, .null, .null, .null, .null, .null, .null])) :: rest) hC hm ffX4_12 rfl (Nat.le_of_ble_eq_true rfl) rfl dX4_init_12 ?_
  refine g_aload_0 hC dX4_init_15 ?_
  refine g_new (fs := [.null, .null, .null]) (ci := 3) hC cw_X3 tyX3_ok cl_X4_18 in_X3 ini_X3 rfl df_X3 (Nat.le_of_ble_eq_true rfl) (Nat.le_of_ble_eq_true rfl) dX4_init_16 (fun q16 => ?_)
  refine g_dup hC rfl dX4_init_19 ?_
  refine g_init (M := MX3_init) hC ln_X4_20 ok_X3_init rfl rfl im_X3_init k_X3_init ⟨(Nat.le_of_ble_eq_true rfl), (Nat.le_of_ble_eq_true rfl), (Nat.le_of_ble_eq_true rfl), (Nat.le_of_ble_eq_true rfl)⟩ (Nat.le_of_ble_eq_true rfl) dX4_init_20 (fun s20 => ?_)
  refine g_putF (q0 := 10) (ws2 := ((s20 2), .inl (E.2.1, 10, .inl (fun _ => 0))) :: ((s20 1), .inl (E.2.1, 12, .inl (upd (fun _ => 0) (0) (nI 10)))) :: ((s20 0), .inl (E.2.1, 240, .inl (tabF 10))) :: (q16, .inr (3, [.ref (s20 0), .ref (s20 1), .ref (s20 2)])) :: ((s9 4), .inl (E.2.1, 10, .inl (fun _ => 0))) :: ((s9 3), .inl (E.2.1, 10, .inl (fun _ => 0))) :: ((s9 2), .inl (E.2.1, 10, .inl (fun _ => 0))) :: ((s9 1), .inl (E.2.1, 10, .inl (fun _ => 0))) :: ((s9 0), .inl (E.2.1, 10, .inl (fun _ => 0))) :: (q5, .inr (5, [.int (nI 0), .ref (s9 0), .ref (s9 1), .ref (s9 2), .ref (s9 3), .ref (s9 4)])) :: (h0, .inr (4, [.ref q5, .ref q16, .null, .null, .null, .null, .null])) :: rest) hC hm ffX4_21 rfl (Nat.le_of_ble_eq_true rfl) rfl dX4_init_23 ?_
  refine g_aload_0 hC dX4_init_26 ?_
  refine g_new (fs := [.int 0, .null, .null, .null, .null]) (ci := 0) hC cw_X0 tyX0_ok cl_X4_25 in_X0 ini_X0 rfl df_X0 (Nat.le_of_ble_eq_true rfl) (Nat.le_of_ble_eq_true rfl) dX4_init_27 (fun q27 => ?_)
  refine g_dup hC rfl dX4_init_30 ?_
  refine g_init (M := MX0_init) hC ln_X4_27 ok_X0_init rfl rfl im_X0_init k_X0_init ⟨(Nat.le_of_ble_eq_true rfl), (Nat.le_of_ble_eq_true rfl), (Nat.le_of_ble_eq_true rfl), (Nat.le_of_ble_eq_true rfl)⟩ (Nat.le_of_ble_eq_true rfl) dX4_init_31 (fun s31 => ?_)
  refine g_putF (q0 := 15) (ws2 := ((s31 3), .inl (E.2.1, 10, .inl (fun _ => 0))) :: ((s31 2), .inl (E.2.1, 10, .inl (fun _ => 0))) :: ((s31 1), .inl (E.2.1, 10, .inl (fun _ => 0))) :: ((s31 0), .inl (E.2.1, 10, .inl (fun _ => 0))) :: (q27, .inr (0, [.int (nI 0), .ref (s31 0), .ref (s31 1), .ref (s31 2), .ref (s31 3)])) :: ((s20 2), .inl (E.2.1, 10, .inl (fun _ => 0))) :: ((s20 1), .inl (E.2.1, 12, .inl (upd (fun _ => 0) (0) (nI 10)))) :: ((s20 0), .inl (E.2.1, 240, .inl (tabF 10))) :: (q16, .inr (3, [.ref (s20 0), .ref (s20 1), .ref (s20 2)])) :: ((s9 4), .inl (E.2.1, 10, .inl (fun _ => 0))) :: ((s9 3), .inl (E.2.1, 10, .inl (fun _ => 0))) :: ((s9 2), .inl (E.2.1, 10, .inl (fun _ => 0))) :: ((s9 1), .inl (E.2.1, 10, .inl (fun _ => 0))) :: ((s9 0), .inl (E.2.1, 10, .inl (fun _ => 0))) :: (q5, .inr (5, [.int (nI 0), .ref (s9 0), .ref (s9 1), .ref (s9 2), .ref (s9 3), .ref (s9 4)])) :: (h0, .inr (4, [.ref q5, .ref q16, .ref q27, .null, .null, .null, .null])) :: rest) hC hm ffX4_28 rfl (Nat.le_of_ble_eq_true rfl) rfl dX4_init_34 ?_
  refine g_aload_0 hC dX4_init_37 ?_
  refine g_new (fs := [.int 0, .null, .null]) (ci := 1) hC cw_X1 tyX1_ok cl_X4_32 in_X1 ini_X1 rfl df_X1 (Nat.le_of_ble_eq_true rfl) (Nat.le_of_ble_eq_true rfl) dX4_init_38 (fun q38 => ?_)
  refine g_dup hC rfl dX4_init_41 ?_
  refine g_init (M := MX1_init) hC ln_X4_34 ok_X1_init rfl rfl im_X1_init k_X1_init ⟨(Nat.le_of_ble_eq_true rfl), (Nat.le_of_ble_eq_true rfl), (Nat.le_of_ble_eq_true rfl), (Nat.le_of_ble_eq_true rfl)⟩ (Nat.le_of_ble_eq_true rfl) dX4_init_42 (fun s42 => ?_)
  refine g_putF (q0 := 18) (ws2 := ((s42 1), .inl (E.2.1, 240, .inl (fun _ => 0))) :: ((s42 0), .inl (E.2.1, 240, .inl (fun _ => 0))) :: (q38, .inr (1, [.int (nI 0), .ref (s42 0), .ref (s42 1)])) :: ((s31 3), .inl (E.2.1, 10, .inl (fun _ => 0))) :: ((s31 2), .inl (E.2.1, 10, .inl (fun _ => 0))) :: ((s31 1), .inl (E.2.1, 10, .inl (fun _ => 0))) :: ((s31 0), .inl (E.2.1, 10, .inl (fun _ => 0))) :: (q27, .inr (0, [.int (nI 0), .ref (s31 0), .ref (s31 1), .ref (s31 2), .ref (s31 3)])) :: ((s20 2), .inl (E.2.1, 10, .inl (fun _ => 0))) :: ((s20 1), .inl (E.2.1, 12, .inl (upd (fun _ => 0) (0) (nI 10)))) :: ((s20 0), .inl (E.2.1, 240, .inl (tabF 10))) :: (q16, .inr (3, [.ref (s20 0), .ref (s20 1), .ref (s20 2)])) :: ((s9 4), .inl (E.2.1, 10, .inl (fun _ => 0))) :: ((s9 3), .inl (E.2.1, 10, .inl (fun _ => 0))) :: ((s9 2), .inl (E.2.1, 10, .inl (fun _ => 0))) :: ((s9 1), .inl (E.2.1, 10, .inl (fun _ => 0))) :: ((s9 0), .inl (E.2.1, 10, .inl (fun _ => 0))) :: (q5, .inr (5, [.int (nI 0), .ref (s9 0), .ref (s9 1), .ref (s9 2), .ref (s9 3), .ref (s9 4)])) :: (h0, .inr (4, [.ref q5, .ref q16, .ref q27, .ref q38, .null, .null, .null])) :: rest) hC hm ffX4_35 rfl (Nat.le_of_ble_eq_true rfl) rfl dX4_init_45 ?_
  refine g_aload_0 hC dX4_init_48 ?_
  refine g_sipush hC dX4_init_49 sp_240 ?_
  refine g_newa (N := 240) hC ac_int (by decide) (Nat.le_of_ble_eq_true rfl) (Nat.le_of_ble_eq_true rfl) dX4_init_52 (fun q52 => ?_)
  refine g_putF (q0 := 19) (ws2 := (q52, .inl (E.2.1, 240, .inl (fun _ => 0))) :: ((s42 1), .inl (E.2.1, 240, .inl (fun _ => 0))) :: ((s42 0), .inl (E.2.1, 240, .inl (fun _ => 0))) :: (q38, .inr (1, [.int (nI 0), .ref (s42 0), .ref (s42 1)])) :: ((s31 3), .inl (E.2.1, 10, .inl (fun _ => 0))) :: ((s31 2), .inl (E.2.1, 10, .inl (fun _ => 0))) :: ((s31 1), .inl (E.2.1, 10, .inl (fun _ => 0))) :: ((s31 0), .inl (E.2.1, 10, .inl (fun _ => 0))) :: (q27, .inr (0, [.int (nI 0), .ref (s31 0), .ref (s31 1), .ref (s31 2), .ref (s31 3)])) :: ((s20 2), .inl (E.2.1, 10, .inl (fun _ => 0))) :: ((s20 1), .inl (E.2.1, 12, .inl (upd (fun _ => 0) (0) (nI 10)))) :: ((s20 0), .inl (E.2.1, 240, .inl (tabF 10))) :: (q16, .inr (3, [.ref (s20 0), .ref (s20 1), .ref (s20 2)])) :: ((s9 4), .inl (E.2.1, 10, .inl (fun _ => 0))) :: ((s9 3), .inl (E.2.1, 10, .inl (fun _ => 0))) :: ((s9 2), .inl (E.2.1, 10, .inl (fun _ => 0))) :: ((s9 1), .inl (E.2.1, 10, .inl (fun _ => 0))) :: ((s9 0), .inl (E.2.1, 10, .inl (fun _ => 0))) :: (q5, .inr (5, [.int (nI 0), .ref (s9 0), .ref (s9 1), .ref (s9 2), .ref (s9 3), .ref (s9 4)])) :: (h0, .inr (4, [.ref q5, .ref q16, .ref q27, .ref q38, .ref q52, .null, .null])) :: rest) hC hm ffX4_39 rfl (Nat.le_of_ble_eq_true rfl) rfl dX4_init_54 ?_
  refine g_aload_0 hC dX4_init_57 ?_
  refine g_bipush hC dX4_init_58 bp_24 ?_
  refine g_newa (N := 24) hC ac_int (by decide) (Nat.le_of_ble_eq_true rfl) (Nat.le_of_ble_eq_true rfl) dX4_init_60 (fun q60 => ?_)
  refine g_putF (q0 := 20) (ws2 := (q60, .inl (E.2.1, 24, .inl (fun _ => 0))) :: (q52, .inl (E.2.1, 240, .inl (fun _ => 0))) :: ((s42 1), .inl (E.2.1, 240, .inl (fun _ => 0))) :: ((s42 0), .inl (E.2.1, 240, .inl (fun _ => 0))) :: (q38, .inr (1, [.int (nI 0), .ref (s42 0), .ref (s42 1)])) :: ((s31 3), .inl (E.2.1, 10, .inl (fun _ => 0))) :: ((s31 2), .inl (E.2.1, 10, .inl (fun _ => 0))) :: ((s31 1), .inl (E.2.1, 10, .inl (fun _ => 0))) :: ((s31 0), .inl (E.2.1, 10, .inl (fun _ => 0))) :: (q27, .inr (0, [.int (nI 0), .ref (s31 0), .ref (s31 1), .ref (s31 2), .ref (s31 3)])) :: ((s20 2), .inl (E.2.1, 10, .inl (fun _ => 0))) :: ((s20 1), .inl (E.2.1, 12, .inl (upd (fun _ => 0) (0) (nI 10)))) :: ((s20 0), .inl (E.2.1, 240, .inl (tabF 10))) :: (q16, .inr (3, [.ref (s20 0), .ref (s20 1), .ref (s20 2)])) :: ((s9 4), .inl (E.2.1, 10, .inl (fun _ => 0))) :: ((s9 3), .inl (E.2.1, 10, .inl (fun _ => 0))) :: ((s9 2), .inl (E.2.1, 10, .inl (fun _ => 0))) :: ((s9 1), .inl (E.2.1, 10, .inl (fun _ => 0))) :: ((s9 0), .inl (E.2.1, 10, .inl (fun _ => 0))) :: (q5, .inr (5, [.int (nI 0), .ref (s9 0), .ref (s9 1), .ref (s9 2), .ref (s9 3), .ref (s9 4)])) :: (h0, .inr (4, [.ref q5, .ref q16, .ref q27, .ref q38, .ref q52, .ref q60, .null])) :: rest) hC hm ffX4_43 rfl (Nat.le_of_ble_eq_true rfl) rfl dX4_init_62 ?_
  refine g_aload_0 hC dX4_init_65 ?_
  refine g_sipush hC dX4_init_66 sp_240 ?_
  refine g_newa (N := 240) hC ac_int (by decide) (Nat.le_of_ble_eq_true rfl) (Nat.le_of_ble_eq_true rfl) dX4_init_69 (fun q69 => ?_)
  refine g_putF (q0 := 21) (ws2 := (q69, .inl (E.2.1, 240, .inl (fun _ => 0))) :: (q60, .inl (E.2.1, 24, .inl (fun _ => 0))) :: (q52, .inl (E.2.1, 240, .inl (fun _ => 0))) :: ((s42 1), .inl (E.2.1, 240, .inl (fun _ => 0))) :: ((s42 0), .inl (E.2.1, 240, .inl (fun _ => 0))) :: (q38, .inr (1, [.int (nI 0), .ref (s42 0), .ref (s42 1)])) :: ((s31 3), .inl (E.2.1, 10, .inl (fun _ => 0))) :: ((s31 2), .inl (E.2.1, 10, .inl (fun _ => 0))) :: ((s31 1), .inl (E.2.1, 10, .inl (fun _ => 0))) :: ((s31 0), .inl (E.2.1, 10, .inl (fun _ => 0))) :: (q27, .inr (0, [.int (nI 0), .ref (s31 0), .ref (s31 1), .ref (s31 2), .ref (s31 3)])) :: ((s20 2), .inl (E.2.1, 10, .inl (fun _ => 0))) :: ((s20 1), .inl (E.2.1, 12, .inl (upd (fun _ => 0) (0) (nI 10)))) :: ((s20 0), .inl (E.2.1, 240, .inl (tabF 10))) :: (q16, .inr (3, [.ref (s20 0), .ref (s20 1), .ref (s20 2)])) :: ((s9 4), .inl (E.2.1, 10, .inl (fun _ => 0))) :: ((s9 3), .inl (E.2.1, 10, .inl (fun _ => 0))) :: ((s9 2), .inl (E.2.1, 10, .inl (fun _ => 0))) :: ((s9 1), .inl (E.2.1, 10, .inl (fun _ => 0))) :: ((s9 0), .inl (E.2.1, 10, .inl (fun _ => 0))) :: (q5, .inr (5, [.int (nI 0), .ref (s9 0), .ref (s9 1), .ref (s9 2), .ref (s9 3), .ref (s9 4)])) :: (h0, .inr (4, [.ref q5, .ref q16, .ref q27, .ref q38, .ref q52, .ref q60, .ref q69])) :: rest) hC hm ffX4_46 rfl (Nat.le_of_ble_eq_true rfl) rfl dX4_init_71 ?_
  exact g_vret hC hT (fun i => ([q5, (s9 0), (s9 1), (s9 2), (s9 3), (s9 4), q16, (s20 0), (s20 1), (s20 2), q27, (s31 0), (s31 1), (s31 2), (s31 3), q38, (s42 0), (s42 1), q52, q60, q69] : List Nat).getD i 0) rfl dX4_init_74
theorem k_X6_init {l : Launch} {E : ET} {h0 : Nat} {rest : va_W} : Ci l E MX6_init [.ref h0] ((h0, .inr (6, [.null, .null, .int 0, .null, .int 0])) :: rest) none (fun qs => ((qs 52), .inl (E.2.1, 24, .inl (fun _ => 0))) :: ((qs 51), .inr (2, [.int (nI 0), .int (nI 0), .ref (qs 52)])) :: ((qs 50), .inl (E.2.1, 24, .inl (fun _ => 0))) :: ((qs 49), .inr (2, [.int (nI 0), .int (nI 0), .ref (qs 50)])) :: ((qs 48), .inl (E.2.1, 24, .inl (fun _ => 0))) :: ((qs 47), .inr (2, [.int (nI 0), .int (nI 0), .ref (qs 48)])) :: ((qs 46), .inl (E.2.1, 24, .inl (fun _ => 0))) :: ((qs 45), .inr (2, [.int (nI 0), .int (nI 0), .ref (qs 46)])) :: ((qs 44), .inl (E.2.2.1, 4, .inr (.inr (.inr (.inr (va_up (va_up (va_up (va_up (fun _ => none) 0 (some (qs 45))) 1 (some (qs 47))) 2 (some (qs 49))) 3 (some (qs 51)))))))) :: ((qs 43), .inl (E.2.1, 240, .inl (fun _ => 0))) :: ((qs 42), .inl (E.2.1, 24, .inl (fun _ => 0))) :: ((qs 41), .inl (E.2.1, 240, .inl (fun _ => 0))) :: ((qs 40), .inl (E.2.1, 240, .inl (fun _ => 0))) :: ((qs 39), .inl (E.2.1, 240, .inl (fun _ => 0))) :: ((qs 38), .inr (1, [.int (nI 0), .ref (qs 39), .ref (qs 40)])) :: ((qs 37), .inl (E.2.1, 10, .inl (fun _ => 0))) :: ((qs 36), .inl (E.2.1, 10, .inl (fun _ => 0))) :: ((qs 35), .inl (E.2.1, 10, .inl (fun _ => 0))) :: ((qs 34), .inl (E.2.1, 10, .inl (fun _ => 0))) :: ((qs 33), .inr (0, [.int (nI 0), .ref (qs 34), .ref (qs 35), .ref (qs 36), .ref (qs 37)])) :: ((qs 32), .inl (E.2.1, 10, .inl (fun _ => 0))) :: ((qs 31), .inl (E.2.1, 12, .inl (upd (fun _ => 0) (0) (nI 10)))) :: ((qs 30), .inl (E.2.1, 240, .inl (tabF 10))) :: ((qs 29), .inr (3, [.ref (qs 30), .ref (qs 31), .ref (qs 32)])) :: ((qs 28), .inl (E.2.1, 10, .inl (fun _ => 0))) :: ((qs 27), .inl (E.2.1, 10, .inl (fun _ => 0))) :: ((qs 26), .inl (E.2.1, 10, .inl (fun _ => 0))) :: ((qs 25), .inl (E.2.1, 10, .inl (fun _ => 0))) :: ((qs 24), .inl (E.2.1, 10, .inl (fun _ => 0))) :: ((qs 23), .inr (5, [.int (nI 0), .ref (qs 24), .ref (qs 25), .ref (qs 26), .ref (qs 27), .ref (qs 28)])) :: ((qs 22), .inr (4, [.ref (qs 23), .ref (qs 29), .ref (qs 33), .ref (qs 38), .ref (qs 41), .ref (qs 42), .ref (qs 43)])) :: ((qs 21), .inl (E.2.1, 240, .inl (fun _ => 0))) :: ((qs 20), .inl (E.2.1, 24, .inl (fun _ => 0))) :: ((qs 19), .inl (E.2.1, 240, .inl (fun _ => 0))) :: ((qs 18), .inl (E.2.1, 240, .inl (fun _ => 0))) :: ((qs 17), .inl (E.2.1, 240, .inl (fun _ => 0))) :: ((qs 16), .inr (1, [.int (nI 0), .ref (qs 17), .ref (qs 18)])) :: ((qs 15), .inl (E.2.1, 10, .inl (fun _ => 0))) :: ((qs 14), .inl (E.2.1, 10, .inl (fun _ => 0))) :: ((qs 13), .inl (E.2.1, 10, .inl (fun _ => 0))) :: ((qs 12), .inl (E.2.1, 10, .inl (fun _ => 0))) :: ((qs 11), .inr (0, [.int (nI 0), .ref (qs 12), .ref (qs 13), .ref (qs 14), .ref (qs 15)])) :: ((qs 10), .inl (E.2.1, 10, .inl (fun _ => 0))) :: ((qs 9), .inl (E.2.1, 12, .inl (upd (fun _ => 0) (0) (nI 10)))) :: ((qs 8), .inl (E.2.1, 240, .inl (tabF 10))) :: ((qs 7), .inr (3, [.ref (qs 8), .ref (qs 9), .ref (qs 10)])) :: ((qs 6), .inl (E.2.1, 10, .inl (fun _ => 0))) :: ((qs 5), .inl (E.2.1, 10, .inl (fun _ => 0))) :: ((qs 4), .inl (E.2.1, 10, .inl (fun _ => 0))) :: ((qs 3), .inl (E.2.1, 10, .inl (fun _ => 0))) :: ((qs 2), .inl (E.2.1, 10, .inl (fun _ => 0))) :: ((qs 1), .inr (5, [.int (nI 0), .ref (qs 2), .ref (qs 3), .ref (qs 4), .ref (qs 5), .ref (qs 6)])) :: ((qs 0), .inr (4, [.ref (qs 1), .ref (qs 7), .ref (qs 11), .ref (qs 16), .ref (qs 19), .ref (qs 20), .ref (qs 21)])) :: (h0, .inr (6, [.ref (qs 0), .ref (qs 22), .int (nI 0), .ref (qs 44), .int (nI 0)])) :: rest) := by
  refine Ci.of (L := [some (.ref h0)]) (by decide) rfl (Nat.le_of_ble_eq_true rfl) rfl (fun X hC hm hT => ?_)
  refine g_aload_0 hC dX6_init_0 ?_
  refine g_obj hC lo_X6_1 im_obj co_obj (by decide) (Nat.le_of_ble_eq_true rfl) dX6_init_1 ?_
  refine g_aload_0 hC dX6_init_4 ?_
  refine g_new (fs := [.null, .null, .null, .null, .null, .null, .null]) (ci := 4) hC cw_X4 tyX4_ok cl_X6_7 in_X4 ini_X4 rfl df_X4 (Nat.le_of_ble_eq_true rfl) (Nat.le_of_ble_eq_true rfl) dX6_init_5 (fun q5 => ?_)
  refine g_dup hC rfl dX6_init_8 ?_
  refine g_init (M := MX4_init) hC ln_X6_9 ok_X4_init rfl rfl im_X4_init k_X4_init ⟨(Nat.le_of_ble_eq_true rfl), (Nat.le_of_ble_eq_true rfl), (Nat.le_of_ble_eq_true rfl), (Nat.le_of_ble_eq_true rfl)⟩ (Nat.le_of_ble_eq_true rfl) dX6_init_9 (fun s9 => ?_)
  refine g_putF (q0 := 22) (ws2 := ((s9 20), .inl (E.2.1, 240, .inl (fun _ => 0))) :: ((s9 19), .inl (E.2.1, 24, .inl (fun _ => 0))) :: ((s9 18), .inl (E.2.1, 240, .inl (fun _ => 0))) :: ((s9 17), .inl (E.2.1, 240, .inl (fun _ => 0))) :: ((s9 16), .inl (E.2.1, 240, .inl (fun _ => 0))) :: ((s9 15), .inr (1, [.int (nI 0), .ref (s9 16), .ref (s9 17)])) :: ((s9 14), .inl (E.2.1, 10, .inl (fun _ => 0))) :: ((s9 13), .inl (E.2.1, 10, .inl (fun _ => 0))) :: ((s9 12), .inl (E.2.1, 10, .inl (fun _ => 0))) :: ((s9 11), .inl (E.2.1, 10, .inl (fun _ => 0))) :: ((s9 10), .inr (0, [.int (nI 0), .ref (s9 11), .ref (s9 12), .ref (s9 13), .ref (s9 14)])) :: ((s9 9), .inl (E.2.1, 10, .inl (fun _ => 0))) :: ((s9 8), .inl (E.2.1, 12, .inl (upd (fun _ => 0) (0) (nI 10)))) :: ((s9 7), .inl (E.2.1, 240, .inl (tabF 10))) :: ((s9 6), .inr (3, [.ref (s9 7), .ref (s9 8), .ref (s9 9)])) :: ((s9 5), .inl (E.2.1, 10, .inl (fun _ => 0))) :: ((s9 4), .inl (E.2.1, 10, .inl (fun _ => 0))) :: ((s9 3), .inl (E.2.1, 10, .inl (fun _ => 0))) :: ((s9 2), .inl (E.2.1, 10, .inl (fun _ => 0))) :: ((s9 1), .inl (E.2.1, 10, .inl (fun _ => 0))) :: ((s9 0), .inr (5, [.int (nI 0), .ref (s9 1), .ref (s9 2), .ref (s9 3), .ref (s9 4), .ref (s9 5)])) :: (q5, .inr (4, [.ref (s9 0), .ref (s9 6), .ref (s9 10), .ref (s9 15), .ref (s9 18), .ref (s9 19), .ref (s9 20)])) :: (h0, .inr (6, [.ref q5, .null, .int 0, .null, .int 0])) :: rest) hC hm ffX6_10 rfl (Nat.le_of_ble_eq_true rfl) rfl dX6_init_12 ?_
  refine g_aload_0 hC dX6_init_15 ?_
  refine g_new (fs := [.null, .null, .null, .null, .null, .null, .null]) (ci := 4) hC cw_X4 tyX4_ok cl_X6_7 in_X4 ini_X4 rfl df_X4 (Nat.le_of_ble_eq_true rfl) (Nat.le_of_ble_eq_true rfl) dX6_init_16 (fun q16 => ?_)
  refine g_dup hC rfl dX6_init_19 ?_
  refine g_init (M := MX4_init) hC ln_X6_9 ok_X4_init rfl rfl im_X4_init k_X4_init ⟨(Nat.le_of_ble_eq_true rfl), (Nat.le_of_ble_eq_true rfl), (Nat.le_of_ble_eq_true rfl), (Nat.le_of_ble_eq_true rfl)⟩ (Nat.le_of_ble_eq_true rfl) dX6_init_20 (fun s20 => ?_)
  refine g_putF (q0 := 44) (ws2 := ((s20 20), .inl (E.2.1, 240, .inl (fun _ => 0))) :: ((s20 19), .inl (E.2.1, 24, .inl (fun _ => 0))) :: ((s20 18), .inl (E.2.1, 240, .inl (fun _ => 0))) :: ((s20 17), .inl (E.2.1, 240, .inl (fun _ => 0))) :: ((s20 16), .inl (E.2.1, 240, .inl (fun _ => 0))) :: ((s20 15), .inr (1, [.int (nI 0), .ref (s20 16), .ref (s20 17)])) :: ((s20 14), .inl (E.2.1, 10, .inl (fun _ => 0))) :: ((s20 13), .inl (E.2.1, 10, .inl (fun _ => 0))) :: ((s20 12), .inl (E.2.1, 10, .inl (fun _ => 0))) :: ((s20 11), .inl (E.2.1, 10, .inl (fun _ => 0))) :: ((s20 10), .inr (0, [.int (nI 0), .ref (s20 11), .ref (s20 12), .ref (s20 13), .ref (s20 14)])) :: ((s20 9), .inl (E.2.1, 10, .inl (fun _ => 0))) :: ((s20 8), .inl (E.2.1, 12, .inl (upd (fun _ => 0) (0) (nI 10)))) :: ((s20 7), .inl (E.2.1, 240, .inl (tabF 10))) :: ((s20 6), .inr (3, [.ref (s20 7), .ref (s20 8), .ref (s20 9)])) :: ((s20 5), .inl (E.2.1, 10, .inl (fun _ => 0))) :: ((s20 4), .inl (E.2.1, 10, .inl (fun _ => 0))) :: ((s20 3), .inl (E.2.1, 10, .inl (fun _ => 0))) :: ((s20 2), .inl (E.2.1, 10, .inl (fun _ => 0))) :: ((s20 1), .inl (E.2.1, 10, .inl (fun _ => 0))) :: ((s20 0), .inr (5, [.int (nI 0), .ref (s20 1), .ref (s20 2), .ref (s20 3), .ref (s20 4), .ref (s20 5)])) :: (q16, .inr (4, [.ref (s20 0), .ref (s20 6), .ref (s20 10), .ref (s20 15), .ref (s20 18), .ref (s20 19), .ref (s20 20)])) :: ((s9 20), .inl (E.2.1, 240, .inl (fun _ => 0))) :: ((s9 19), .inl (E.2.1, 24, .inl (fun _ => 0))) :: ((s9 18), .inl (E.2.1, 240, .inl (fun _ => 0))) :: ((s9 17), .inl (E.2.1, 240, .inl (fun _ => 0))) :: ((s9 16), .inl (E.2.1, 240, .inl (fun _ => 0))) :: ((s9 15), .inr (1, [.int (nI 0), .ref (s9 16), .ref (s9 17)])) :: ((s9 14), .inl (E.2.1, 10, .inl (fun _ => 0))) :: ((s9 13), .inl (E.2.1, 10, .inl (fun _ => 0))) :: ((s9 12), .inl (E.2.1, 10, .inl (fun _ => 0))) :: ((s9 11), .inl (E.2.1, 10, .inl (fun _ => 0))) :: ((s9 10), .inr (0, [.int (nI 0), .ref (s9 11), .ref (s9 12), .ref (s9 13), .ref (s9 14)])) :: ((s9 9), .inl (E.2.1, 10, .inl (fun _ => 0))) :: ((s9 8), .inl (E.2.1, 12, .inl (upd (fun _ => 0) (0) (nI 10)))) :: ((s9 7), .inl (E.2.1, 240, .inl (tabF 10))) :: ((s9 6), .inr (3, [.ref (s9 7), .ref (s9 8), .ref (s9 9)])) :: ((s9 5), .inl (E.2.1, 10, .inl (fun _ => 0))) :: ((s9 4), .inl (E.2.1, 10, .inl (fun _ => 0))) :: ((s9 3), .inl (E.2.1, 10, .inl (fun _ => 0))) :: ((s9 2), .inl (E.2.1, 10, .inl (fun _ => 0))) :: ((s9 1), .inl (E.2.1, 10, .inl (fun _ => 0))) :: ((s9 0), .inr (5, [.int (nI 0), .ref (s9 1), .ref (s9 2), .ref (s9 3), .ref (s9 4), .ref (s9 5)])) :: (q5, .inr (4, [.ref (s9 0), .ref (s9 6), .ref (s9 10), .ref (s9 15), .ref (s9 18), .ref (s9 19), .ref (s9 20)])) :: (h0, .inr (6, [.ref q5, .ref q16, .int 0, .null, .int 0])) :: rest) hC hm ffX6_16 rfl (Nat.le_of_ble_eq_true rfl) rfl dX6_init_23 ?_
  refine g_aload_0 hC dX6_init_26 ?_
  refine g_iconst hC dX6_init_27 ic_0 ?_
  refine g_put (q0 := 44) (ws2 := ((s20 20), .inl (E.2.1, 240, .inl (fun _ => 0))) :: ((s20 19), .inl (E.2.1, 24, .inl (fun _ => 0))) :: ((s20 18), .inl (E.2.1, 240, .inl (fun _ => 0))) :: ((s20 17), .inl (E.2.1, 240, .inl (fun _ => 0))) :: ((s20 16), .inl (E.2.1, 240, .inl (fun _ => 0))) :: ((s20 15), .inr (1, [.int (nI 0), .ref (s20 16), .ref (s20 17)])) :: ((s20 14), .inl (E.2.1, 10, .inl (fun _ => 0))) :: ((s20 13), .inl (E.2.1, 10, .inl (fun _ => 0))) :: ((s20 12), .inl (E.2.1, 10, .inl (fun _ => 0))) :: ((s20 11), .inl (E.2.1, 10, .inl (fun _ => 0))) :: ((s20 10), .inr (0, [.int (nI 0), .ref (s20 11), .ref (s20 12), .ref (s20 13), .ref (s20 14)])) :: ((s20 9), .inl (E.2.1, 10, .inl (fun _ => 0))) :: ((s20 8), .inl (E.2.1, 12, .inl (upd (fun _ => 0) (0) (nI 10)))) :: ((s20 7), .inl (E.2.1, 240, .inl (tabF 10))) :: ((s20 6), .inr (3, [.ref (s20 7), .ref (s20 8), .ref (s20 9)])) :: ((s20 5), .inl (E.2.1, 10, .inl (fun _ => 0))) :: ((s20 4), .inl (E.2.1, 10, .inl (fun _ => 0))) :: ((s20 3), .inl (E.2.1, 10, .inl (fun _ => 0))) :: ((s20 2), .inl (E.2.1, 10, .inl (fun _ => 0))) :: ((s20 1), .inl (E.2.1, 10, .inl (fun _ => 0))) :: ((s20 0), .inr (5, [.int (nI 0), .ref (s20 1), .ref (s20 2), .ref (s20 3), .ref (s20 4), .ref (s20 5)])) :: (q16, .inr (4, [.ref (s20 0), .ref (s20 6), .ref (s20 10), .ref (s20 15), .ref (s20 18), .ref (s20 19), .ref (s20 20)])) :: ((s9 20), .inl (E.2.1, 240, .inl (fun _ => 0))) :: ((s9 19), .inl (E.2.1, 24, .inl (fun _ => 0))) :: ((s9 18), .inl (E.2.1, 240, .inl (fun _ => 0))) :: ((s9 17), .inl (E.2.1, 240, .inl (fun _ => 0))) :: ((s9 16), .inl (E.2.1, 240, .inl (fun _ => 0))) :: ((s9 15), .inr (1, [.int (nI 0), .ref (s9 16), .ref (s9 17)])) :: ((s9 14), .inl (E.2.1, 10, .inl (fun _ => 0))) :: ((s9 13), .inl (E.2.1, 10, .inl (fun _ => 0))) :: ((s9 12), .inl (E.2.1, 10, .inl (fun _ => 0))) :: ((s9 11), .inl (E.2.1, 10, .inl (fun _ => 0))) :: ((s9 10), .inr (0, [.int (nI 0), .ref (s9 11), .ref (s9 12), .ref (s9 13), .ref (s9 14)])) :: ((s9 9), .inl (E.2.1, 10, .inl (fun _ => 0))) :: ((s9 8), .inl (E.2.1, 12, .inl (upd (fun _ => 0) (0) (nI 10)))) :: ((s9 7), .inl (E.2.1, 240, .inl (tabF 10))) :: ((s9 6), .inr (3, [.ref (s9 7), .ref (s9 8), .ref (s9 9)])) :: ((s9 5), .inl (E.2.1, 10, .inl (fun _ => 0))) :: ((s9 4), .inl (E.2.1, 10, .inl (fun _ => 0))) :: ((s9 3), .inl (E.2.1, 10, .inl (fun _ => 0))) :: ((s9 2), .inl (E.2.1, 10, .inl (fun _ => 0))) :: ((s9 1), .inl (E.2.1, 10, .inl (fun _ => 0))) :: ((s9 0), .inr (5, [.int (nI 0), .ref (s9 1), .ref (s9 2), .ref (s9 3), .ref (s9 4), .ref (s9 5)])) :: (q5, .inr (4, [.ref (s9 0), .ref (s9 6), .ref (s9 10), .ref (s9 15), .ref (s9 18), .ref (s9 19), .ref (s9 20)])) :: (h0, .inr (6, [.ref q5, .ref q16, .int (nI 0), .null, .int 0])) :: rest) hC pX6_19 (by decide +kernel) (by decide +kernel) rfl (Nat.le_of_ble_eq_true rfl) rfl dX6_init_28 ?_
  refine g_aload_0 hC dX6_init_31 ?_
  refine g_iconst hC dX6_init_32 ic_4 ?_
  refine g_newq hC cl_X6_23 (Nat.le_of_ble_eq_true rfl) (Nat.le_of_ble_eq_true rfl) dX6_init_33 (fun q33 => ?_)
  refine g_dup hC rfl dX6_init_36 ?_
  refine g_iconst hC dX6_init_37 ic_0 ?_
  refine g_new (fs := [.int 0, .int 0, .null]) (ci := 2) hC cw_X2 tyX2_ok cl_X6_23 in_X2 ini_X2 rfl df_X2 (Nat.le_of_ble_eq_true rfl) (Nat.le_of_ble_eq_true rfl) dX6_init_38 (fun q38 => ?_)
  refine g_dup hC rfl dX6_init_41 ?_
  refine g_init (M := MX2_init) hC ln_X6_25 ok_X2_init rfl rfl im_X2_init k_X2_init ⟨(Nat.le_of_ble_eq_true rfl), (Nat.le_of_ble_eq_true rfl), (Nat.le_of_ble_eq_true rfl), (Nat.le_of_ble_eq_true rfl)⟩ (Nat.le_of_ble_eq_true rfl) dX6_init_42 (fun s42 => ?_)
  refine g_aast (q0 := 2) (qk := 1) (ci := 2) (ws2 := ((s42 0), .inl (E.2.1, 24, .inl (fun _ => 0))) :: (q38, .inr (2, [.int (nI 0), .int (nI 0), .ref (s42 0)])) :: (q33, .inl (E.2.2.1, 4, .inr (.inr (.inr (.inr (va_up (fun _ => none) 0 (some q38))))))) :: ((s20 20), .inl (E.2.1, 240, .inl (fun _ => 0))) :: ((s20 19), .inl (E.2.1, 24, .inl (fun _ => 0))) :: ((s20 18), .inl (E.2.1, 240, .inl (fun _ => 0))) :: ((s20 17), .inl (E.2.1, 240, .inl (fun _ => 0))) :: ((s20 16), .inl (E.2.1, 240, .inl (fun _ => 0))) :: ((s20 15), .inr (1, [.int (nI 0), .ref (s20 16), .ref (s20 17)])) :: ((s20 14), .inl (E.2.1, 10, .inl (fun _ => 0))) :: ((s20 13), .inl (E.2.1, 10, .inl (fun _ => 0))) :: ((s20 12), .inl (E.2.1, 10, .inl (fun _ => 0))) :: ((s20 11), .inl (E.2.1, 10, .inl (fun _ => 0))) :: ((s20 10), .inr (0, [.int (nI 0), .ref (s20 11), .ref (s20 12), .ref (s20 13), .ref (s20 14)])) :: ((s20 9), .inl (E.2.1, 10, .inl (fun _ => 0))) :: ((s20 8), .inl (E.2.1, 12, .inl (upd (fun _ => 0) (0) (nI 10)))) :: ((s20 7), .inl (E.2.1, 240, .inl (tabF 10))) :: ((s20 6), .inr (3, [.ref (s20 7), .ref (s20 8), .ref (s20 9)])) :: ((s20 5), .inl (E.2.1, 10, .inl (fun _ => 0))) :: ((s20 4), .inl (E.2.1, 10, .inl (fun _ => 0))) :: ((s20 3), .inl (E.2.1, 10, .inl (fun _ => 0))) :: ((s20 2), .inl (E.2.1, 10, .inl (fun _ => 0))) :: ((s20 1), .inl (E.2.1, 10, .inl (fun _ => 0))) :: ((s20 0), .inr (5, [.int (nI 0), .ref (s20 1), .ref (s20 2), .ref (s20 3), .ref (s20 4), .ref (s20 5)])) :: (q16, .inr (4, [.ref (s20 0), .ref (s20 6), .ref (s20 10), .ref (s20 15), .ref (s20 18), .ref (s20 19), .ref (s20 20)])) :: ((s9 20), .inl (E.2.1, 240, .inl (fun _ => 0))) :: ((s9 19), .inl (E.2.1, 24, .inl (fun _ => 0))) :: ((s9 18), .inl (E.2.1, 240, .inl (fun _ => 0))) :: ((s9 17), .inl (E.2.1, 240, .inl (fun _ => 0))) :: ((s9 16), .inl (E.2.1, 240, .inl (fun _ => 0))) :: ((s9 15), .inr (1, [.int (nI 0), .ref (s9 16), .ref (s9 17)])) :: ((s9 14), .inl (E.2.1, 10, .inl (fun _ => 0))) :: ((s9 13), .inl (E.2.1, 10, .inl (fun _ => 0))) :: ((s9 12), .inl (E.2.1, 10, .inl (fun _ => 0))) :: ((s9 11), .inl (E.2.1, 10, .inl (fun _ => 0))) :: ((s9 10), .inr (0, [.int (nI 0), .ref (s9 11), .ref (s9 12), .ref (s9 13), .ref (s9 14)])) :: ((s9 9), .inl (E.2.1, 10, .inl (fun _ => 0))) :: ((s9 8), .inl (E.2.1, 12, .inl (upd (fun _ => 0) (0) (nI 10)))) :: ((s9 7), .inl (E.2.1, 240, .inl (tabF 10))) :: ((s9 6), .inr (3, [.ref (s9 7), .ref (s9 8), .ref (s9 9)])) :: ((s9 5), .inl (E.2.1, 10, .inl (fun _ => 0))) :: ((s9 4), .inl (E.2.1, 10, .inl (fun _ => 0))) :: ((s9 3), .inl (E.2.1, 10, .inl (fun _ => 0))) :: ((s9 2), .inl (E.2.1, 10, .inl (fun _ => 0))) :: ((s9 1), .inl (E.2.1, 10, .inl (fun _ => 0))) :: ((s9 0), .inr (5, [.int (nI 0), .ref (s9 1), .ref (s9 2), .ref (s9 3), .ref (s9 4), .ref (s9 5)])) :: (q5, .inr (4, [.ref (s9 0), .ref (s9 6), .ref (s9 10), .ref (s9 15), .ref (s9 18), .ref (s9 19), .ref (s9 20)])) :: (h0, .inr (6, [.ref q5, .ref q16, .int (nI 0), .null, .int 0])) :: rest) hC rfl rfl rfl (by decide) rfl dX6_init_45 ?_
  refine g_dup hC rfl dX6_init_46 ?_
  refine g_iconst hC dX6_init_47 ic_1 ?_
  refine g_new (fs := [.int 0, .int 0, .null]) (ci := 2) hC cw_X2 tyX2_ok cl_X6_23 in_X2 ini_X2 rfl df_X2 (Nat.le_of_ble_eq_true rfl) (Nat.le_of_ble_eq_true rfl) dX6_init_48 (fun q48 => ?_)
  refine g_dup hC rfl dX6_init_51 ?_
  refine g_init (M := MX2_init) hC ln_X6_25 ok_X2_init rfl rfl im_X2_init k_X2_init ⟨(Nat.le_of_ble_eq_true rfl), (Nat.le_of_ble_eq_true rfl), (Nat.le_of_ble_eq_true rfl), (Nat.le_of_ble_eq_true rfl)⟩ (Nat.le_of_ble_eq_true rfl) dX6_init_52 (fun s52 => ?_)
  refine g_aast (q0 := 4) (qk := 1) (ci := 2) (ws2 := ((s52 0), .inl (E.2.1, 24, .inl (fun _ => 0))) :: (q48, .inr (2, [.int (nI 0), .int (nI 0), .ref (s52 0)])) :: ((s42 0), .inl (E.2.1, 24, .inl (fun _ => 0))) :: (q38, .inr (2, [.int (nI 0), .int (nI 0), .ref (s42 0)])) :: (q33, .inl (E.2.2.1, 4, .inr (.inr (.inr (.inr (va_up (va_up (fun _ => none) 0 (some q38)) 1 (some q48))))))) :: ((s20 20), .inl (E.2.1, 240, .inl (fun _ => 0))) :: ((s20 19), .inl (E.2.1, 24, .inl (fun _ => 0))) :: ((s20 18), .inl (E.2.1, 240, .inl (fun _ => 0))) :: ((s20 17), .inl (E.2.1, 240, .inl (fun _ => 0))) :: ((s20 16), .inl (E.2.1, 240, .inl (fun _ => 0))) :: ((s20 15), .inr (1, [.int (nI 0), .ref (s20 16), .ref (s20 17)])) :: ((s20 14), .inl (E.2.1, 10, .inl (fun _ => 0))) :: ((s20 13), .inl (E.2.1, 10, .inl (fun _ => 0))) :: ((s20 12), .inl (E.2.1, 10, .inl (fun _ => 0))) :: ((s20 11), .inl (E.2.1, 10, .inl (fun _ => 0))) :: ((s20 10), .inr (0, [.int (nI 0), .ref (s20 11), .ref (s20 12), .ref (s20 13), .ref (s20 14)])) :: ((s20 9), .inl (E.2.1, 10, .inl (fun _ => 0))) :: ((s20 8), .inl (E.2.1, 12, .inl (upd (fun _ => 0) (0) (nI 10)))) :: ((s20 7), .inl (E.2.1, 240, .inl (tabF 10))) :: ((s20 6), .inr (3, [.ref (s20 7), .ref (s20 8), .ref (s20 9)])) :: ((s20 5), .inl (E.2.1, 10, .inl (fun _ => 0))) :: ((s20 4), .inl (E.2.1, 10, .inl (fun _ => 0))) :: ((s20 3), .inl (E.2.1, 10, .inl (fun _ => 0))) :: ((s20 2), .inl (E.2.1, 10, .inl (fun _ => 0))) :: ((s20 1), .inl (E.2.1, 10, .inl (fun _ => 0))) :: ((s20 0), .inr (5, [.int (nI 0), .ref (s20 1), .ref (s20 2), .ref (s20 3), .ref (s20 4), .ref (s20 5)])) :: (q16, .inr (4, [.ref (s20 0), .ref (s20 6), .ref (s20 10), .ref (s20 15), .ref (s20 18), .ref (s20 19), .ref (s20 20)])) :: ((s9 20), .inl (E.2.1, 240, .inl (fun _ => 0))) :: ((s9 19), .inl (E.2.1, 24, .inl (fun _ => 0))) :: ((s9 18), .inl (E.2.1, 240, .inl (fun _ => 0))) :: ((s9 17), .inl (E.2.1, 240, .inl (fun _ => 0))) :: ((s9 16), .inl (E.2.1, 240, .inl (fun _ => 0))) :: ((s9 15), .inr (1, [.int (nI 0), .ref (s9 16), .ref (s9 17)])) :: ((s9 14), .inl (E.2.1, 10, .inl (fun _ => 0))) :: ((s9 13), .inl (E.2.1, 10, .inl (fun _ => 0))) :: ((s9 12), .inl (E.2.1, 10, .inl (fun _ => 0))) :: ((s9 11), .inl (E.2.1, 10, .inl (fun _ => 0))) :: ((s9 10), .inr (0, [.int (nI 0), .ref (s9 11), .ref (s9 12), .ref (s9 13), .ref (s9 14)])) :: ((s9 9), .inl (E.2.1, 10, .inl (fun _ => 0))) :: ((s9 8), .inl (E.2.1, 12, .inl (upd (fun _ => 0) (0) (nI 10)))) :: ((s9 7), .inl (E.2.1, 240, .inl (tabF 10))) :: ((s9 6), .inr (3, [.ref (s9 7), .ref (s9 8), .ref (s9 9)])) :: ((s9 5), .inl (E.2.1, 10, .inl (fun _ => 0))) :: ((s9 4), .inl (E.2.1, 10, .inl (fun _ => 0))) :: ((s9 3), .inl (E.2.1, 10, .inl (fun _ => 0))) :: ((s9 2), .inl (E.2.1, 10, .inl (fun _ => 0))) :: ((s9 1), .inl (E.2.1, 10, .inl (fun _ => 0))) :: ((s9 0), .inr (5, [.int (nI 0), .ref (s9 1), .ref (s9 2), .ref (s9 3), .ref (s9 4), .ref (s9 5)])) :: (q5, .inr (4, [.ref (s9 0), .ref (s9 6), .ref (s9 10), .ref (s9 15), .ref (s9 18), .ref (s9 19), .ref (s9 20)])) :: (h0, .inr (6, [.ref q5, .ref q16, .int (nI 0), .null, .int 0])) :: rest) hC rfl rfl rfl (by decide) rfl dX6_init_55 ?_
  refine g_dup hC rfl dX6_init_56 ?_
  refine g_iconst hC dX6_init_57 ic_2 ?_
  refine g_new (fs := [.int 0, .int 0, .null]) (ci := 2) hC cw_X2 tyX2_ok cl_X6_23 in_X2 ini_X2 rfl df_X2 (Nat.le_of_ble_eq_true rfl) (Nat.le_of_ble_eq_true rfl) dX6_init_58 (fun q58 => ?_)
  refine g_dup hC rfl dX6_init_61 ?_
  refine g_init (M := MX2_init) hC ln_X6_25 ok_X2_init rfl rfl im_X2_init k_X2_init ⟨(Nat.le_of_ble_eq_true rfl), (Nat.le_of_ble_eq_true rfl), (Nat.le_of_ble_eq_true rfl), (Nat.le_of_ble_eq_true rfl)⟩ (Nat.le_of_ble_eq_true rfl) dX6_init_62 (fun s62 => ?_)
  refine g_aast (q0 := 6) (qk := 1) (ci := 2) (ws2 := ((s62 0), .inl (E.2.1, 24, .inl (fun _ => 0))) :: (q58, .inr (2, [.int (nI 0), .int (nI 0), .ref (s62 0)])) :: ((s52 0), .inl (E.2.1, 24, .inl (fun _ => 0))) :: (q48, .inr (2, [.int (nI 0), .int (nI 0), .ref (s52 0)])) :: ((s42 0), .inl (E.2.1, 24, .inl (fun _ => 0))) :: (q38, .inr (2, [.int (nI 0), .int (nI 0), .ref (s42 0)])) :: (q33, .inl (E.2.2.1, 4, .inr (.inr (.inr (.inr (va_up (va_up (va_up (fun _ => none) 0 (some q38)) 1 (some q48)) 2 (some q58))))))) :: ((s20 20), .inl (E.2.1, 240, .inl (fun _ => 0))) :: ((s20 19), .inl (E.2.1, 24, .inl (fun _ => 0))) :: ((s20 18), .inl (E.2.1, 240, .inl (fun _ => 0))) :: ((s20 17), .inl (E.2.1, 240, .inl (fun _ => 0))) :: ((s20 16), .inl (E.2.1, 240, .inl (fun _ => 0))) :: ((s20 15), .inr (1, [.int (nI 0), .ref (s20 16), .ref (s20 17)])) :: ((s20 14), .inl (E.2.1, 10, .inl (fun _ => 0))) :: ((s20 13), .inl (E.2.1, 10, .inl (fun _ => 0))) :: ((s20 12), .inl (E.2.1, 10, .inl (fun _ => 0))) :: ((s20 11), .inl (E.2.1, 10, .inl (fun _ => 0))) :: ((s20 10), .inr (0, [.int (nI 0), .ref (s20 11), .ref (s20 12), .ref (s20 13), .ref (s20 14)])) :: ((s20 9), .inl (E.2.1, 10, .inl (fun _ => 0))) :: ((s20 8), .inl (E.2.1, 12, .inl (upd (fun _ => 0) (0) (nI 10)))) :: ((s20 7), .inl (E.2.1, 240, .inl (tabF 10))) :: ((s20 6), .inr (3, [.ref (s20 7), .ref (s20 8), .ref (s20 9)])) :: ((s20 5), .inl (E.2.1, 10, .inl (fun _ => 0))) :: ((s20 4), .inl (E.2.1, 10, .inl (fun _ => 0))) :: ((s20 3), .inl (E.2.1, 10, .inl (fun _ => 0))) :: ((s20 2), .inl (E.2.1, 10, .inl (fun _ => 0))) :: ((s20 1), .inl (E.2.1, 10, .inl (fun _ => 0))) :: ((s20 0), .inr (5, [.int (nI 0), .ref (s20 1), .ref (s20 2), .ref (s20 3), .ref (s20 4), .ref (s20 5)])) :: (q16, .inr (4, [.ref (s20 0), .ref (s20 6), .ref (s20 10), .ref (s20 15), .ref (s20 18), .ref (s20 19), .ref (s20 20)])) :: ((s9 20), .inl (E.2.1, 240, .inl (fun _ => 0))) :: ((s9 19), .inl (E.2.1, 24, .inl (fun _ => 0))) :: ((s9 18), .inl (E.2.1, 240, .inl (fun _ => 0))) :: ((s9 17), .inl (E.2.1, 240, .inl (fun _ => 0))) :: ((s9 16), .inl (E.2.1, 240, .inl (fun _ => 0))) :: ((s9 15), .inr (1, [.int (nI 0), .ref (s9 16), .ref (s9 17)])) :: ((s9 14), .inl (E.2.1, 10, .inl (fun _ => 0))) :: ((s9 13), .inl (E.2.1, 10, .inl (fun _ => 0))) :: ((s9 12), .inl (E.2.1, 10, .inl (fun _ => 0))) :: ((s9 11), .inl (E.2.1, 10, .inl (fun _ => 0))) :: ((s9 10), .inr (0, [.int (nI 0), .ref (s9 11), .ref (s9 12), .ref (s9 13), .ref (s9 14)])) :: ((s9 9), .inl (E.2.1, 10, .inl (fun _ => 0))) :: ((s9 8), .inl (E.2.1, 12, .inl (upd (fun _ => 0) (0) (nI 10)))) :: ((s9 7), .inl (E.2.1, 240, .inl (tabF 10))) :: ((s9 6), .inr (3, [.ref (s9 7), .ref (s9 8), .ref (s9 9)])) :: ((s9 5), .inl (E.2.1, 10, .inl (fun _ => 0))) :: ((s9 4), .inl (E.2.1, 10, .inl (fun _ => 0))) :: ((s9 3), .inl (E.2.1, 10, .inl (fun _ => 0))) :: ((s9 2), .inl (E.2.1, 10, .inl (fun _ => 0))) :: ((s9 1), .inl (E.2.1, 10, .inl (fun _ => 0))) :: ((s9 0), .inr (5, [.int (nI 0), .ref (s9 1), .ref (s9 2), .ref (s9 3), .ref (s9 4), .ref (s9 5)])) :: (q5, .inr (4, [.ref (s9 0), .ref (s9 6), .ref (s9 10), .ref (s9 15), .ref (s9 18), .ref (s9 19), .ref (s9 20)])) :: (h0, .inr (6, [.ref q5, .ref q16, .int (nI 0), .null, .int 0])) :: rest) hC rfl rfl rfl (by decide) rfl dX6_init_65 ?_
  refine g_dup hC rfl dX6_init_66 ?_
  refine g_iconst hC dX6_init_67 ic_3 ?_
  refine g_new (fs := [.int 0, .int 0, .null]) (ci := 2) hC cw_X2 tyX2_ok cl_X6_23 in_X2 ini_X2 rfl df_X2 (Nat.le_of_ble_eq_true rfl) (Nat.le_of_ble_eq_true rfl) dX6_init_68 (fun q68 => ?_)
  refine g_dup hC rfl dX6_init_71 ?_
  refine g_init (M := MX2_init) hC ln_X6_25 ok_X2_init rfl rfl im_X2_init k_X2_init ⟨(Nat.le_of_ble_eq_true rfl), (Nat.le_of_ble_eq_true rfl), (Nat.le_of_ble_eq_true rfl), (Nat.le_of_ble_eq_true rfl)⟩ (Nat.le_of_ble_eq_true rfl) dX6_init_72 (fun s72 => ?_)
  refine g_aast (q0 := 8) (qk := 1) (ci := 2) (ws2 := ((s72 0), .inl (E.2.1, 24, .inl (fun _ => 0))) :: (q68, .inr (2, [.int (nI 0), .int (nI 0), .ref (s72 0)])) :: ((s62 0), .inl (E.2.1, 24, .inl (fun _ => 0))) :: (q58, .inr (2, [.int (nI 0), .int (nI 0), .ref (s62 0)])) :: ((s52 0), .inl (E.2.1, 24, .inl (fun _ => 0))) :: (q48, .inr (2, [.int (nI 0), .int (nI 0), .ref (s52 0)])) :: ((s42 0), .inl (E.2.1, 24, .inl (fun _ => 0))) :: (q38, .inr (2, [.int (nI 0), .int (nI 0), .ref (s42 0)])) :: (q33, .inl (E.2.2.1, 4, .inr (.inr (.inr (.inr (va_up (va_up (va_up (va_up (fun _ => none) 0 (some q38)) 1 (some q48)) 2 (some q58)) 3 (some q68))))))) :: ((s20 20), .inl (E.2.1, 240, .inl (fun _ => 0))) :: ((s20 19), .inl (E.2.1, 24, .inl (fun _ => 0))) :: ((s20 18), .inl (E.2.1, 240, .inl (fun _ => 0))) :: ((s20 17), .inl (E.2.1, 240, .inl (fun _ => 0))) :: ((s20 16), .inl (E.2.1, 240, .inl (fun _ => 0))) :: ((s20 15), .inr (1, [.int (nI 0), .ref (s20 16), .ref (s20 17)])) :: ((s20 14), .inl (E.2.1, 10, .inl (fun _ => 0))) :: ((s20 13), .inl (E.2.1, 10, .inl (fun _ => 0))) :: ((s20 12), .inl (E.2.1, 10, .inl (fun _ => 0))) :: ((s20 11), .inl (E.2.1, 10, .inl (fun _ => 0))) :: ((s20 10), .inr (0, [.int (nI 0), .ref (s20 11), .ref (s20 12), .ref (s20 13), .ref (s20 14)])) :: ((s20 9), .inl (E.2.1, 10, .inl (fun _ => 0))) :: ((s20 8), .inl (E.2.1, 12, .inl (upd (fun _ => 0) (0) (nI 10)))) :: ((s20 7), .inl (E.2.1, 240, .inl (tabF 10))) :: ((s20 6), .inr (3, [.ref (s20 7), .ref (s20 8), .ref (s20 9)])) :: ((s20 5), .inl (E.2.1, 10, .inl (fun _ => 0))) :: ((s20 4), .inl (E.2.1, 10, .inl (fun _ => 0))) :: ((s20 3), .inl (E.2.1, 10, .inl (fun _ => 0))) :: ((s20 2), .inl (E.2.1, 10, .inl (fun _ => 0))) :: ((s20 1), .inl (E.2.1, 10, .inl (fun _ => 0))) :: ((s20 0), .inr (5, [.int (nI 0), .ref (s20 1), .ref (s20 2), .ref (s20 3), .ref (s20 4), .ref (s20 5)])) :: (q16, .inr (4, [.ref (s20 0), .ref (s20 6), .ref (s20 10), .ref (s20 15), .ref (s20 18), .ref (s20 19), .ref (s20 20)])) :: ((s9 20), .inl (E.2.1, 240, .inl (fun _ => 0))) :: ((s9 19), .inl (E.2.1, 24, .inl (fun _ => 0))) :: ((s9 18), .inl (E.2.1, 240, .inl (fun _ => 0))) :: ((s9 17), .inl (E.2.1, 240, .inl (fun _ => 0))) :: ((s9 16), .inl (E.2.1, 240, .inl (fun _ => 0))) :: ((s9 15), .inr (1, [.int (nI 0), .ref (s9 16), .ref (s9 17)])) :: ((s9 14), .inl (E.2.1, 10, .inl (fun _ => 0))) :: ((s9 13), .inl (E.2.1, 10, .inl (fun _ => 0))) :: ((s9 12), .inl (E.2.1, 10, .inl (fun _ => 0))) :: ((s9 11), .inl (E.2.1, 10, .inl (fun _ => 0))) :: ((s9 10), .inr (0, [.int (nI 0), .ref (s9 11), .ref (s9 12), .ref (s9 13), .ref (s9 14)])) :: ((s9 9), .inl (E.2.1, 10, .inl (fun _ => 0))) :: ((s9 8), .inl (E.2.1, 12, .inl (upd (fun _ => 0) (0) (nI 10)))) :: ((s9 7), .inl (E.2.1, 240, .inl (tabF 10))) :: ((s9 6), .inr (3, [.ref (s9 7), .ref (s9 8), .ref (s9 9)])) :: ((s9 5), .inl (E.2.1, 10, .inl (fun _ => 0))) :: ((s9 4), .inl (E.2.1, 10, .inl (fun _ => 0))) :: ((s9 3), .inl (E.2.1, 10, .inl (fun _ => 0))) :: ((s9 2), .inl (E.2.1, 10, .inl (fun _ => 0))) :: ((s9 1), .inl (E.2.1, 10, .inl (fun _ => 0))) :: ((s9 0), .inr (5, [.int (nI 0), .ref (s9 1), .ref (s9 2), .ref (s9 3), .ref (s9 4), .ref (s9 5)])) :: (q5, .inr (4, [.ref (s9 0), .ref (s9 6), .ref (s9 10), .ref (s9 15), .ref (s9 18), .ref (s9 19), .ref (s9 20)])) :: (h0, .inr (6, [.ref q5, .ref q16, .int (nI 0), .null, .int 0])) :: rest) hC rfl rfl rfl (by decide) rfl dX6_init_75 ?_
  refine g_putF (q0 := 53) (ws2 := ((s72 0), .inl (E.2.1, 24, .inl (fun _ => 0))) :: (q68, .inr (2, [.int (nI 0), .int (nI 0), .ref (s72 0)])) :: ((s62 0), .inl (E.2.1, 24, .inl (fun _ => 0))) :: (q58, .inr (2, [.int (nI 0), .int (nI 0), .ref (s62 0)])) :: ((s52 0), .inl (E.2.1, 24, .inl (fun _ => 0))) :: (q48, .inr (2, [.int (nI 0), .int (nI 0), .ref (s52 0)])) :: ((s42 0), .inl (E.2.1, 24, .inl (fun _ => 0))) :: (q38, .inr (2, [.int (nI 0), .int (nI 0), .ref (s42 0)])) :: (q33, .inl (E.2.2.1, 4, .inr (.inr (.inr (.inr (va_up (va_up (va_up (va_up (fun _ => none) 0 (some q38)) 1 (some q48)) 2 (some q58)) 3 (some q68))))))) :: ((s20 20), .inl (E.2.1, 240, .inl (fun _ => 0))) :: ((s20 19), .inl (E.2.1, 24, .inl (fun _ => 0))) :: ((s20 18), .inl (E.2.1, 240, .inl (fun _ => 0))) :: ((s20 17), .inl (E.2.1, 240, .inl (fun _ => 0))) :: ((s20 16), .inl (E.2.1, 240, .inl (fun _ => 0))) :: ((s20 15), .inr (1, [.int (nI 0), .ref (s20 16), .ref (s20 17)])) :: ((s20 14), .inl (E.2.1, 10, .inl (fun _ => 0))) :: ((s20 13), .inl (E.2.1, 10, .inl (fun _ => 0))) :: ((s20 12), .inl (E.2.1, 10, .inl (fun _ => 0))) :: ((s20 11), .inl (E.2.1, 10, .inl (fun _ => 0))) :: ((s20 10), .inr (0, [.int (nI 0), .ref (s20 11), .ref (s20 12), .ref (s20 13), .ref (s20 14)])) :: ((s20 9), .inl (E.2.1, 10, .inl (fun _ => 0))) :: ((s20 8), .inl (E.2.1, 12, .inl (upd (fun _ => 0) (0) (nI 10)))) :: ((s20 7), .inl (E.2.1, 240, .inl (tabF 10))) :: ((s20 6), .inr (3, [.ref (s20 7), .ref (s20 8), .ref (s20 9)])) :: ((s20 5), .inl (E.2.1, 10, .inl (fun _ => 0))) :: ((s20 4), .inl (E.2.1, 10, .inl (fun _ => 0))) :: ((s20 3), .inl (E.2.1, 10, .inl (fun _ => 0))) :: ((s20 2), .inl (E.2.1, 10, .inl (fun _ => 0))) :: ((s20 1), .inl (E.2.1, 10, .inl (fun _ => 0))) :: ((s20 0), .inr (5, [.int (nI 0), .ref (s20 1), .ref (s20 2), .ref (s20 3), .ref (s20 4), .ref (s20 5)])) :: (q16, .inr (4, [.ref (s20 0), .ref (s20 6), .ref (s20 10), .ref (s20 15), .ref (s20 18), .ref (s20 19), .ref (s20 20)])) :: ((s9 20), .inl (E.2.1, 240, .inl (fun _ => 0))) :: ((s9 19), .inl (E.2.1, 24, .inl (fun _ => 0))) :: ((s9 18), .inl (E.2.1, 240, .inl (fun _ => 0))) :: ((s9 17), .inl (E.2.1, 240, .inl (fun _ => 0))) :: ((s9 16), .inl (E.2.1, 240, .inl (fun _ => 0))) :: ((s9 15), .inr (1, [.int (nI 0), .ref (s9 16), .ref (s9 17)])) :: ((s9 14), .inl (E.2.1, 10, .inl (fun _ => 0))) :: ((s9 13), .inl (E.2.1, 10, .inl (fun _ => 0))) :: ((s9 12), .inl (E.2.1, 10, .inl (fun _ => 0))) :: ((s9 11), .inl (E.2.1, 10, .inl (fun _ => 0))) :: ((s9 10), .inr (0, [.int (nI 0), .ref (s9 11), .ref (s9 12), .ref (s9 13), .ref (s9 14)])) :: ((s9 9), .inl (E.2.1, 10, .inl (fun _ => 0))) :: ((s9 8), .inl (E.2.1, 12, .inl (upd (fun _ => 0) (0) (nI 10)))) :: ((s9 7), .inl (E.2.1, 240, .inl (tabF 10))) :: ((s9 6), .inr (3, [.ref (s9 7), .ref (s9 8), .ref (s9 9)])) :: ((s9 5), .inl (E.2.1, 10, .inl (fun _ => 0))) :: ((s9 4), .inl (E.2.1, 10, .inl (fun _ => 0))) :: ((s9 3), .inl (E.2.1, 10, .inl (fun _ => 0))) :: ((s9 2), .inl (E.2.1, 10, .inl (fun _ => 0))) :: ((s9 1), .inl (E.2.1, 10, .inl (fun _ => 0))) :: ((s9 0), .inr (5, [.int (nI 0), .ref (s9 1), .ref (s9 2), .ref (s9 3), .ref (s9 4), .ref (s9 5)])) :: (q5, .inr (4, [.ref (s9 0), .ref (s9 6), .ref (s9 10), .ref (s9 15), .ref (s9 18), .ref (s9 19), .ref (s9 20)])) :: (h0, .inr (6, [.ref q5, .ref q16, .int (nI 0), .ref q33, .int 0])) :: rest) hC hm ffX6_26 rfl (Nat.le_of_ble_eq_true rfl) rfl dX6_init_76 ?_
  refine g_aload_0 hC dX6_init_79 ?_
  refine g_iconst hC dX6_init_80 ic_0 ?_
  refine g_put (q0 := 53) (ws2 := ((s72 0), .inl (E.2.1, 24, .inl (fun _ => 0))) :: (q68, .inr (2, [.int (nI 0), .int (nI 0), .ref (s72 0)])) :: ((s62 0), .inl (E.2.1, 24, .inl (fun _ => 0))) :: (q58, .inr (2, [.int (nI 0), .int (nI 0), .ref (s62 0)])) :: ((s52 0), .inl (E.2.1, 24, .inl (fun _ => 0))) :: (q48, .inr (2, [.int (nI 0), .int (nI 0), .ref (s52 0)])) :: ((s42 0), .inl (E.2.1, 24, .inl (fun _ => 0))) :: (q38, .inr (2, [.int (nI 0), .int (nI 0), .ref (s42 0)])) :: (q33, .inl (E.2.2.1, 4, .inr (.inr (.inr (.inr (va_up (va_up (va_up (va_up (fun _ => none) 0 (some q38)) 1 (some q48)) 2 (some q58)) 3 (some q68))))))) :: ((s20 20), .inl (E.2.1, 240, .inl (fun _ => 0))) :: ((s20 19), .inl (E.2.1, 24, .inl (fun _ => 0))) :: ((s20 18), .inl (E.2.1, 240, .inl (fun _ => 0))) :: ((s20 17), .inl (E.2.1, 240, .inl (fun _ => 0))) :: ((s20 16), .inl (E.2.1, 240, .inl (fun _ => 0))) :: ((s20 15), .inr (1, [.int (nI 0), .ref (s20 16), .ref (s20 17)])) :: ((s20 14), .inl (E.2.1, 10, .inl (fun _ => 0))) :: ((s20 13), .inl (E.2.1, 10, .inl (fun _ => 0))) :: ((s20 12), .inl (E.2.1, 10, .inl (fun _ => 0))) :: ((s20 11), .inl (E.2.1, 10, .inl (fun _ => 0))) :: ((s20 10), .inr (0, [.int (nI 0), .ref (s20 11), .ref (s20 12), .ref (s20 13), .ref (s20 14)])) :: ((s20 9), .inl (E.2.1, 10, .inl (fun _ => 0))) :: ((s20 8), .inl (E.2.1, 12, .inl (upd (fun _ => 0) (0) (nI 10)))) :: ((s20 7), .inl (E.2.1, 240, .inl (tabF 10))) :: ((s20 6), .inr (3, [.ref (s20 7), .ref (s20 8), .ref (s20 9)])) :: ((s20 5), .inl (E.2.1, 10, .inl (fun _ => 0))) :: ((s20 4), .inl (E.2.1, 10, .inl (fun _ => 0))) :: ((s20 3), .inl (E.2.1, 10, .inl (fun _ => 0))) :: ((s20 2), .inl (E.2.1, 10, .inl (fun _ => 0))) :: ((s20 1), .inl (E.2.1, 10, .inl (fun _ => 0))) :: ((s20 0), .inr (5, [.int (nI 0), .ref (s20 1), .ref (s20 2), .ref (s20 3), .ref (s20 4), .ref (s20 5)])) :: (q16, .inr (4, [.ref (s20 0), .ref (s20 6), .ref (s20 10), .ref (s20 15), .ref (s20 18), .ref (s20 19), .ref (s20 20)])) :: ((s9 20), .inl (E.2.1, 240, .inl (fun _ => 0))) :: ((s9 19), .inl (E.2.1, 24, .inl (fun _ => 0))) :: ((s9 18), .inl (E.2.1, 240, .inl (fun _ => 0))) :: ((s9 17), .inl (E.2.1, 240, .inl (fun _ => 0))) :: ((s9 16), .inl (E.2.1, 240, .inl (fun _ => 0))) :: ((s9 15), .inr (1, [.int (nI 0), .ref (s9 16), .ref (s9 17)])) :: ((s9 14), .inl (E.2.1, 10, .inl (fun _ => 0))) :: ((s9 13), .inl (E.2.1, 10, .inl (fun _ => 0))) :: ((s9 12), .inl (E.2.1, 10, .inl (fun _ => 0))) :: ((s9 11), .inl (E.2.1, 10, .inl (fun _ => 0))) :: ((s9 10), .inr (0, [.int (nI 0), .ref (s9 11), .ref (s9 12), .ref (s9 13), .ref (s9 14)])) :: ((s9 9), .inl (E.2.1, 10, .inl (fun _ => 0))) :: ((s9 8), .inl (E.2.1, 12, .inl (upd (fun _ => 0) (0) (nI 10)))) :: ((s9 7), .inl (E.2.1, 240, .inl (tabF 10))) :: ((s9 6), .inr (3, [.ref (s9 7), .ref (s9 8), .ref (s9 9)])) :: ((s9 5), .inl (E.2.1, 10, .inl (fun _ => 0))) :: ((s9 4), .inl (E.2.1, 10, .inl (fun _ => 0))) :: ((s9 3), .inl (E.2.1, 10, .inl (fun _ => 0))) :: ((s9 2), .inl (E.2.1, 10, .inl (fun _ => 0))) :: ((s9 1), .inl (E.2.1, 10, .inl (fun _ => 0))) :: ((s9 0), .inr (5, [.int (nI 0), .ref (s9 1), .ref (s9 2), .ref (s9 3), .ref (s9 4), .ref (s9 5)])) :: (q5, .inr (4, [.ref (s9 0), .ref (s9 6), .ref (s9 10), .ref (s9 15), .ref (s9 18), .ref (s9 19), .ref (s9 20)])) :: (h0, .inr (6, [.ref q5, .ref q16, .int (nI 0), .ref q33, .int (nI 0)])) :: rest) hC pX6_30 rfl rfl rfl (Nat.le_of_ble_eq_true rfl) rfl dX6_init_81 ?_
  exact g_vret hC hT (fun i => ([q5, (s9 0), (s9 1), (s9 2), (s9 3), (s9 4), (s9 5), (s9 6), (s9 7), (s9 8), (s9 9), (s9 10), (s9 11), (s9 12), (s9 13), (s9 14), (s9 15), (s9 16), (s9 17), (s9 18), (s9 19), (s9 20), q16, (s20 0), (s20 1), (s20 2), (s20 3), (s20 4), (s20 5), (s20 6), (s20 7), (s20 8), (s20 9), (s20 10), (s20 11), (s20 12), (s20 13), (s20 14), (s20 15), (s20 16), (s20 17), (s20 18), (s20 19), (s20 20), q33, q38, (s42 0), q48, (s52 0), q58, (s62 0), q68, (s72 0)] : List Nat).getD i 0) rfl dX6_init_84
theorem k_X7_init {l : Launch} {E : ET} {h0 : Nat} {rest : va_W} : Ci l E MX7_init [.ref h0] ((h0, .inr (7, [.null, .null, .int 0, .null, .null, .null, .int 0, .null, .null, .null, .null, .null])) :: rest) none (fun qs => ((qs 9), .inl (E.2.1, 10, .inl (fun _ => 0))) :: ((qs 8), .inl (E.2.1, 10, .inl (fun _ => 0))) :: ((qs 7), .inl (E.2.1, 240, .inl (fun _ => 0))) :: ((qs 6), .inl (E.2.1, 240, .inl (fun _ => 0))) :: ((qs 5), .inl (E.2.1, 24, .inl (fun _ => 0))) :: ((qs 4), .inl (E.2.1, 96, .inl (fun _ => 0))) :: ((qs 3), .inl (E.2.1, 4, .inl (fun _ => 0))) :: ((qs 2), .inl (E.2.1, 4, .inl (fun _ => 0))) :: ((qs 1), .inl (E.2.1, 1090, .inl (fun _ => 0))) :: ((qs 0), .inl (E.2.1, 1090, .inl (upd (upd (mtF 10) (530) (nI 10)) (1089) (nI 0)))) :: (h0, .inr (7, [.ref (qs 0), .ref (qs 1), .int 0, .ref (qs 2), .ref (qs 3), .ref (qs 4), .int 0, .ref (qs 5), .ref (qs 6), .ref (qs 7), .ref (qs 8), .ref (qs 9)])) :: rest) := by
  refine Ci.of (L := [some (.ref h0), none]) (by decide) rfl (Nat.le_of_ble_eq_true rfl) rfl (fun X hC hm hT => ?_)
  refine g_aload_0 hC dX7_init_0 ?_
  refine g_obj hC lo_X7_1 im_obj co_obj (by decide) (Nat.le_of_ble_eq_true rfl) dX7_init_1 ?_
  refine g_aload_0 hC dX7_init_4 ?_
  refine g_sipush hC dX7_init_5 sp_1090 ?_
  refine g_newa (N := 1090) hC ac_int (by decide) (Nat.le_of_ble_eq_true rfl) (Nat.le_of_ble_eq_true rfl) dX7_init_8 (fun q8 => ?_)
  refine g_putF (q0 := 1) (ws2 := (q8, .inl (E.2.1, 1090, .inl (fun _ => 0))) :: (h0, .inr (7, [.ref q8, .null, .int 0, .null, .null, .null, .int 0, .null, .null, .null, .null, .null])) :: rest) hC hm ffX7_7 rfl (Nat.le_of_ble_eq_true rfl) rfl dX7_init_10 ?_
  refine g_aload_0 hC dX7_init_13 ?_
  refine g_sipush hC dX7_init_14 sp_1090 ?_
  refine g_newa (N := 1090) hC ac_int (by decide) (Nat.le_of_ble_eq_true rfl) (Nat.le_of_ble_eq_true rfl) dX7_init_17 (fun q17 => ?_)
  refine g_putF (q0 := 2) (ws2 := (q17, .inl (E.2.1, 1090, .inl (fun _ => 0))) :: (q8, .inl (E.2.1, 1090, .inl (fun _ => 0))) :: (h0, .inr (7, [.ref q8, .ref q17, .int 0, .null, .null, .null, .int 0, .null, .null, .null, .null, .null])) :: rest) hC hm ffX7_13 rfl (Nat.le_of_ble_eq_true rfl) rfl dX7_init_19 ?_
  refine g_aload_0 hC dX7_init_22 ?_
  refine g_iconst hC dX7_init_23 ic_4 ?_
  refine g_newa (N := 4) hC ac_int (by decide) (Nat.le_of_ble_eq_true rfl) (Nat.le_of_ble_eq_true rfl) dX7_init_24 (fun q24 => ?_)
  refine g_putF (q0 := 3) (ws2 := (q24, .inl (E.2.1, 4, .inl (fun _ => 0))) :: (q17, .inl (E.2.1, 1090, .inl (fun _ => 0))) :: (q8, .inl (E.2.1, 1090, .inl (fun _ => 0))) :: (h0, .inr (7, [.ref q8, .ref q17, .int 0, .ref q24, .null, .null, .int 0, .null, .null, .null, .null, .null])) :: rest) hC hm ffX7_16 rfl (Nat.le_of_ble_eq_true rfl) rfl dX7_init_26 ?_
  refine g_aload_0 hC dX7_init_29 ?_
  refine g_iconst hC dX7_init_30 ic_4 ?_
  refine g_newa (N := 4) hC ac_int (by decide) (Nat.le_of_ble_eq_true rfl) (Nat.le_of_ble_eq_true rfl) dX7_init_31 (fun q31 => ?_)
  refine g_putF (q0 := 4) (ws2 := (q31, .inl (E.2.1, 4, .inl (fun _ => 0))) :: (q24, .inl (E.2.1, 4, .inl (fun _ => 0))) :: (q17, .inl (E.2.1, 1090, .inl (fun _ => 0))) :: (q8, .inl (E.2.1, 1090, .inl (fun _ => 0))) :: (h0, .inr (7, [.ref q8, .ref q17, .int 0, .ref q24, .ref q31, .null, .int 0, .null, .null, .null, .null, .null])) :: rest) hC hm ffX7_19 rfl (Nat.le_of_ble_eq_true rfl) rfl dX7_init_33 ?_
  refine g_aload_0 hC dX7_init_36 ?_
  refine g_bipush hC dX7_init_37 bp_96 ?_
  refine g_newa (N := 96) hC ac_int (by decide) (Nat.le_of_ble_eq_true rfl) (Nat.le_of_ble_eq_true rfl) dX7_init_39 (fun q39 => ?_)
  refine g_putF (q0 := 5) (ws2 := (q39, .inl (E.2.1, 96, .inl (fun _ => 0))) :: (q31, .inl (E.2.1, 4, .inl (fun _ => 0))) :: (q24, .inl (E.2.1, 4, .inl (fun _ => 0))) :: (q17, .inl (E.2.1, 1090, .inl (fun _ => 0))) :: (q8, .inl (E.2.1, 1090, .inl (fun _ => 0))) :: (h0, .inr (7, [.ref q8, .ref q17, .int 0, .ref q24, .ref q31, .ref q39, .int 0, .null, .null, .null, .null, .null])) :: rest) hC hm ffX7_22 rfl (Nat.le_of_ble_eq_true rfl) rfl dX7_init_41 ?_
  refine g_aload_0 hC dX7_init_44 ?_
  refine g_bipush hC dX7_init_45 bp_24 ?_
  refine g_newa (N := 24) hC ac_int (by decide) (Nat.le_of_ble_eq_true rfl) (Nat.le_of_ble_eq_true rfl) dX7_init_47 (fun q47 => ?_)
  refine g_putF (q0 := 6) (ws2 := (q47, .inl (E.2.1, 24, .inl (fun _ => 0))) :: (q39, .inl (E.2.1, 96, .inl (fun _ => 0))) :: (q31, .inl (E.2.1, 4, .inl (fun _ => 0))) :: (q24, .inl (E.2.1, 4, .inl (fun _ => 0))) :: (q17, .inl (E.2.1, 1090, .inl (fun _ => 0))) :: (q8, .inl (E.2.1, 1090, .inl (fun _ => 0))) :: (h0, .inr (7, [.ref q8, .ref q17, .int 0, .ref q24, .ref q31, .ref q39, .int 0, .ref q47, .null, .null, .null, .null])) :: rest) hC hm ffX7_25 rfl (Nat.le_of_ble_eq_true rfl) rfl dX7_init_49 ?_
  refine g_aload_0 hC dX7_init_52 ?_
  refine g_sipush hC dX7_init_53 sp_240 ?_
  refine g_newa (N := 240) hC ac_int (by decide) (Nat.le_of_ble_eq_true rfl) (Nat.le_of_ble_eq_true rfl) dX7_init_56 (fun q56 => ?_)
  refine g_putF (q0 := 7) (ws2 := (q56, .inl (E.2.1, 240, .inl (fun _ => 0))) :: (q47, .inl (E.2.1, 24, .inl (fun _ => 0))) :: (q39, .inl (E.2.1, 96, .inl (fun _ => 0))) :: (q31, .inl (E.2.1, 4, .inl (fun _ => 0))) :: (q24, .inl (E.2.1, 4, .inl (fun _ => 0))) :: (q17, .inl (E.2.1, 1090, .inl (fun _ => 0))) :: (q8, .inl (E.2.1, 1090, .inl (fun _ => 0))) :: (h0, .inr (7, [.ref q8, .ref q17, .int 0, .ref q24, .ref q31, .ref q39, .int 0, .ref q47, .ref q56, .null, .null, .null])) :: rest) hC hm ffX7_28 rfl (Nat.le_of_ble_eq_true rfl) rfl dX7_init_58 ?_
  refine g_aload_0 hC dX7_init_61 ?_
  refine g_sipush hC dX7_init_62 sp_240 ?_
  refine g_newa (N := 240) hC ac_int (by decide) (Nat.le_of_ble_eq_true rfl) (Nat.le_of_ble_eq_true rfl) dX7_init_65 (fun q65 => ?_)
  refine g_putF (q0 := 8) (ws2 := (q65, .inl (E.2.1, 240, .inl (fun _ => 0))) :: (q56, .inl (E.2.1, 240, .inl (fun _ => 0))) :: (q47, .inl (E.2.1, 24, .inl (fun _ => 0))) :: (q39, .inl (E.2.1, 96, .inl (fun _ => 0))) :: (q31, .inl (E.2.1, 4, .inl (fun _ => 0))) :: (q24, .inl (E.2.1, 4, .inl (fun _ => 0))) :: (q17, .inl (E.2.1, 1090, .inl (fun _ => 0))) :: (q8, .inl (E.2.1, 1090, .inl (fun _ => 0))) :: (h0, .inr (7, [.ref q8, .ref q17, .int 0, .ref q24, .ref q31, .ref q39, .int 0, .ref q47, .ref q56, .ref q65, .null, .null])) :: rest) hC hm ffX7_31 rfl (Nat.le_of_ble_eq_true rfl) rfl dX7_init_67 ?_
  refine g_aload_0 hC dX7_init_70 ?_
  refine g_bipush hC dX7_init_71 bp_10 ?_
  refine g_newa (N := 10) hC ac_int (by decide) (Nat.le_of_ble_eq_true rfl) (Nat.le_of_ble_eq_true rfl) dX7_init_73 (fun q73 => ?_)
  refine g_putF (q0 := 9) (ws2 := (q73, .inl (E.2.1, 10, .inl (fun _ => 0))) :: (q65, .inl (E.2.1, 240, .inl (fun _ => 0))) :: (q56, .inl (E.2.1, 240, .inl (fun _ => 0))) :: (q47, .inl (E.2.1, 24, .inl (fun _ => 0))) :: (q39, .inl (E.2.1, 96, .inl (fun _ => 0))) :: (q31, .inl (E.2.1, 4, .inl (fun _ => 0))) :: (q24, .inl (E.2.1, 4, .inl (fun _ => 0))) :: (q17, .inl (E.2.1, 1090, .inl (fun _ => 0))) :: (q8, .inl (E.2.1, 1090, .inl (fun _ => 0))) :: (h0, .inr (7, [.ref q8, .ref q17, .int 0, .ref q24, .ref q31, .ref q39, .int 0, .ref q47, .ref q56, .ref q65, .ref q73, .null])) :: rest) hC hm ffX7_34 rfl (Nat.le_of_ble_eq_true rfl) rfl dX7_init_75 ?_
  refine g_aload_0 hC dX7_init_78 ?_
  refine g_bipush hC dX7_init_79 bp_10 ?_
  refine g_newa (N := 10) hC ac_int (by decide) (Nat.le_of_ble_eq_true rfl) (Nat.le_of_ble_eq_true rfl) dX7_init_81 (fun q81 => ?_)
  refine g_putF (q0 := 10) (ws2 := (q81, .inl (E.2.1, 10, .inl (fun _ => 0))) :: (q73, .inl (E.2.1, 10, .inl (fun _ => 0))) :: (q65, .inl (E.2.1, 240, .inl (fun _ => 0))) :: (q56, .inl (E.2.1, 240, .inl (fun _ => 0))) :: (q47, .inl (E.2.1, 24, .inl (fun _ => 0))) :: (q39, .inl (E.2.1, 96, .inl (fun _ => 0))) :: (q31, .inl (E.2.1, 4, .inl (fun _ => 0))) :: (q24, .inl (E.2.1, 4, .inl (fun _ => 0))) :: (q17, .inl (E.2.1, 1090, .inl (fun _ => 0))) :: (q8, .inl (E.2.1, 1090, .inl (fun _ => 0))) :: (h0, .inr (7, [.ref q8, .ref q17, .int 0, .ref q24, .ref q31, .ref q39, .int 0, .ref q47, .ref q56, .ref q65, .ref q73, .ref q81])) :: rest) hC hm ffX7_37 rfl (Nat.le_of_ble_eq_true rfl) rfl dX7_init_83 ?_
  refine g_iconst hC dX7_init_86 ic_0 ?_
  refine g_istore_1 hC (by decide) rfl dX7_init_87 ?_
  refine up_loop (fun d : Nat => G X E 88 [some (.ref h0), some (.int (nI d))] [] ((q81, .inl (E.2.1, 10, .inl (fun _ => 0))) :: (q73, .inl (E.2.1, 10, .inl (fun _ => 0))) :: (q65, .inl (E.2.1, 240, .inl (fun _ => 0))) :: (q56, .inl (E.2.1, 240, .inl (fun _ => 0))) :: (q47, .inl (E.2.1, 24, .inl (fun _ => 0))) :: (q39, .inl (E.2.1, 96, .inl (fun _ => 0))) :: (q31, .inl (E.2.1, 4, .inl (fun _ => 0))) :: (q24, .inl (E.2.1, 4, .inl (fun _ => 0))) :: (q17, .inl (E.2.1, 1090, .inl (fun _ => 0))) :: (q8, .inl (E.2.1, 1090, .inl (mtF d))) :: (h0, .inr (7, [.ref q8, .ref q17, .int 0, .ref q24, .ref q31, .ref q39, .int 0, .ref q47, .ref q56, .ref q65, .ref q73, .ref q81])) :: rest) _ _) (Nat.zero_le 10) ?_ (fun d _ hd ih => ?_)
  · refine g_iload_1 hC dX7_init_88 ?_
    refine g_bipush hC dX7_init_89 bp_10 ?_
    refine g_icge (tgt := 139) hC dX7_init_91 (by decide) (fun _ => ?_) (fun h => absurd (Int32.le_refl _) h)
    refine g_aload_0 hC dX7_init_139 ?_
    refine g_get (q0 := 10) hC fX7_7 rfl rfl dX7_init_140 ?_
    refine g_sipush hC dX7_init_143 sp_530 ?_
    refine g_bipush hC dX7_init_146 bp_10 ?_
    refine g_iast (q0 := 9) (ws2 := (q81, .inl (E.2.1, 10, .inl (fun _ => 0))) :: (q73, .inl (E.2.1, 10, .inl (fun _ => 0))) :: (q65, .inl (E.2.1, 240, .inl (fun _ => 0))) :: (q56, .inl (E.2.1, 240, .inl (fun _ => 0))) :: (q47, .inl (E.2.1, 24, .inl (fun _ => 0))) :: (q39, .inl (E.2.1, 96, .inl (fun _ => 0))) :: (q31, .inl (E.2.1, 4, .inl (fun _ => 0))) :: (q24, .inl (E.2.1, 4, .inl (fun _ => 0))) :: (q17, .inl (E.2.1, 1090, .inl (fun _ => 0))) :: (q8, .inl (E.2.1, 1090, .inl (upd (mtF 10) (530) (nI 10)))) :: (h0, .inr (7, [.ref q8, .ref q17, .int 0, .ref q24, .ref q31, .ref q39, .int 0, .ref q47, .ref q56, .ref q65, .ref q73, .ref q81])) :: rest) hC rfl (by omega) (by decide) rfl dX7_init_148 ?_
    refine g_aload_0 hC dX7_init_149 ?_
    refine g_get (q0 := 10) hC fX7_7 rfl rfl dX7_init_150 ?_
    refine g_sipush hC dX7_init_153 sp_1089 ?_
    refine g_iconst hC dX7_init_156 ic_0 ?_
    refine g_iast (q0 := 9) (ws2 := (q81, .inl (E.2.1, 10, .inl (fun _ => 0))) :: (q73, .inl (E.2.1, 10, .inl (fun _ => 0))) :: (q65, .inl (E.2.1, 240, .inl (fun _ => 0))) :: (q56, .inl (E.2.1, 240, .inl (fun _ => 0))) :: (q47, .inl (E.2.1, 24, .inl (fun _ => 0))) :: (q39, .inl (E.2.1, 96, .inl (fun _ => 0))) :: (q31, .inl (E.2.1, 4, .inl (fun _ => 0))) :: (q24, .inl (E.2.1, 4, .inl (fun _ => 0))) :: (q17, .inl (E.2.1, 1090, .inl (fun _ => 0))) :: (q8, .inl (E.2.1, 1090, .inl (upd (upd (mtF 10) (530) (nI 10)) (1089) (nI 0)))) :: (h0, .inr (7, [.ref q8, .ref q17, .int 0, .ref q24, .ref q31, .ref q39, .int 0, .ref q47, .ref q56, .ref q65, .ref q73, .ref q81])) :: rest) hC rfl (by omega) (by decide) rfl dX7_init_157 ?_
    exact g_vret hC hT (fun i => ([q8, q17, q24, q31, q39, q47, q56, q65, q73, q81] : List Nat).getD i 0) rfl dX7_init_158
  · refine g_iload_1 hC dX7_init_88 ?_
    refine g_bipush hC dX7_init_89 bp_10 ?_
    refine g_icge (tgt := 139) hC dX7_init_91 (by decide) (fun h => absurd h (nI_ge hd (by decide))) (fun _ => ?_)
    refine g_aload_0 hC dX7_init_94 ?_
    refine g_get (q0 := 10) hC fX7_7 rfl rfl dX7_init_95 ?_
    refine g_sipush hC dX7_init_98 sp_290 ?_
    refine g_bipush hC dX7_init_101 bp_12 ?_
    refine g_iload_1 hC dX7_init_103 ?_
    refine g_imulN hC dX7_init_104 ?_
    refine g_iaddN hC dX7_init_105 ?_
    refine g_bipush hC dX7_init_106 bp_100 ?_
    refine g_bipush hC dX7_init_108 bp_10 ?_
    refine g_iload_1 hC dX7_init_110 ?_
    refine g_imulN hC dX7_init_111 ?_
    refine g_isubN hC dX7_init_112 (by omega) ?_
    refine g_iast (q0 := 9) (ws2 := (q81, .inl (E.2.1, 10, .inl (fun _ => 0))) :: (q73, .inl (E.2.1, 10, .inl (fun _ => 0))) :: (q65, .inl (E.2.1, 240, .inl (fun _ => 0))) :: (q56, .inl (E.2.1, 240, .inl (fun _ => 0))) :: (q47, .inl (E.2.1, 24, .inl (fun _ => 0))) :: (q39, .inl (E.2.1, 96, .inl (fun _ => 0))) :: (q31, .inl (E.2.1, 4, .inl (fun _ => 0))) :: (q24, .inl (E.2.1, 4, .inl (fun _ => 0))) :: (q17, .inl (E.2.1, 1090, .inl (fun _ => 0))) :: (q8, .inl (E.2.1, 1090, .inl (upd (mtF d) (290 + 12 * d) (nI (100 - 10 * d))))) :: (h0, .inr (7, [.ref q8, .ref q17, .int 0, .ref q24, .ref q31, .ref q39, .int 0, .ref q47, .ref q56, .ref q65, .ref q73, .ref q81])) :: rest) hC rfl (by omega) (by decide) rfl dX7_init_113 ?_
    refine g_aload_0 hC dX7_init_114 ?_
    refine g_get (q0 := 10) hC fX7_7 rfl rfl dX7_init_115 ?_
    refine g_sipush hC dX7_init_118 sp_410 ?_
    refine g_bipush hC dX7_init_121 bp_12 ?_
    refine g_iload_1 hC dX7_init_123 ?_
    refine g_imulN hC dX7_init_124 ?_
    refine g_iaddN hC dX7_init_125 ?_
    refine g_bipush hC dX7_init_126 bp_50 ?_
    refine g_iconst hC dX7_init_128 ic_5 ?_
    refine g_iload_1 hC dX7_init_129 ?_
    refine g_imulN hC dX7_init_130 ?_
    refine g_isubN hC dX7_init_131 (by omega) ?_
    refine g_iast (q0 := 9) (ws2 := (q81, .inl (E.2.1, 10, .inl (fun _ => 0))) :: (q73, .inl (E.2.1, 10, .inl (fun _ => 0))) :: (q65, .inl (E.2.1, 240, .inl (fun _ => 0))) :: (q56, .inl (E.2.1, 240, .inl (fun _ => 0))) :: (q47, .inl (E.2.1, 24, .inl (fun _ => 0))) :: (q39, .inl (E.2.1, 96, .inl (fun _ => 0))) :: (q31, .inl (E.2.1, 4, .inl (fun _ => 0))) :: (q24, .inl (E.2.1, 4, .inl (fun _ => 0))) :: (q17, .inl (E.2.1, 1090, .inl (fun _ => 0))) :: (q8, .inl (E.2.1, 1090, .inl (upd (upd (mtF d) (290 + 12 * d) (nI (100 - 10 * d))) (410 + 12 * d) (nI (50 - 5 * d))))) :: (h0, .inr (7, [.ref q8, .ref q17, .int 0, .ref q24, .ref q31, .ref q39, .int 0, .ref q47, .ref q56, .ref q65, .ref q73, .ref q81])) :: rest) hC rfl (by omega) (by decide) rfl dX7_init_132 ?_
    refine g_iinc1_1 hC (by decide) rfl dX7_init_133 ?_
    refine g_goto (tgt := 88) hC dX7_init_136 (by decide) ?_
    exact ih
