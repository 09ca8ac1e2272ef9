theorem k_X4_drawOf {l : Launch} {E : ET} {σ μ : St} {w m : Nat} (hw : w < 10) (hm : m < 24) : Ct l E MX4_drawOf [.ref (adr E 1), .int (nI w), .int (nI m)] (σ) (μ) (some (.int (σ 20 (w * 24 + m)))) (σ) (μ) := by
  refine Ct.of (L := [some (.ref (adr E 1)), some (.int (nI w)), some (.int (nI m))]) (by decide) rfl (Nat.le_of_ble_eq_true rfl) rfl (fun X hC hT => ?_)
  refine v_aload_0 hC dX4_drawOf_0 ?_
  refine v_get hC fX4_39 (by decide) rfl rfl dX4_drawOf_1 ?_
  refine v_iload_1 hC dX4_drawOf_4 ?_
  refine v_bipush hC dX4_drawOf_5 bp_24 ?_
  refine v_imulN hC dX4_drawOf_7 ?_
  refine v_iload_2 hC dX4_drawOf_8 ?_
  refine v_iaddN hC dX4_drawOf_9 ?_
  refine v_iald hC C_20 (by omega) dX4_drawOf_10 ?_
  exact v_iret hC hT rfl dX4_drawOf_11
theorem k_X4_setDraw {l : Launch} {E : ET} {σ μ : St} {w m : Nat} (hw : w < 10) (hm : m < 24) {v : Int32} : Ct l E MX4_setDraw [.ref (adr E 1), .int (nI w), .int (nI m), .int v] (σ) (μ) (none) (wr σ 20 (w * 24 + m) v) (μ) := by
  refine Ct.of (L := [some (.ref (adr E 1)), some (.int (nI w)), some (.int (nI m)), some (.int v)]) (by decide) rfl (Nat.le_of_ble_eq_true rfl) rfl (fun X hC hT => ?_)
  refine v_aload_0 hC dX4_setDraw_0 ?_
  refine v_get hC fX4_39 (by decide) rfl rfl dX4_setDraw_1 ?_
  refine v_iload_1 hC dX4_setDraw_4 ?_
  refine v_bipush hC dX4_setDraw_5 bp_24 ?_
  refine v_imulN hC dX4_setDraw_7 ?_
  refine v_iload_2 hC dX4_setDraw_8 ?_
  refine v_iaddN hC dX4_setDraw_9 ?_
  refine v_iload_3 hC dX4_setDraw_10 ?_
  refine v_iast hC C_20 (by omega) dX4_setDraw_11 ?_
  exact v_vret hC hT rfl dX4_setDraw_12
theorem k_X4_sumOfDraws {l : Launch} {E : ET} {σ μ : St} {w : Nat} (hw : w < 10) : Ct l E MX4_sumOfDraws [.ref (adr E 1), .int (nI w)] (σ) (μ) (some (.int (cSum σ w))) (σ) (μ) := by
  refine Ct.of (L := [some (.ref (adr E 1)), some (.int (nI w)), none, none]) (by decide) rfl (Nat.le_of_ble_eq_true rfl) rfl (fun X hC hT => ?_)
  refine v_iconst hC dX4_sumOfDraws_0 ic_0 ?_
  refine v_istore_2 hC (by decide) rfl dX4_sumOfDraws_1 ?_
  refine v_iconst hC dX4_sumOfDraws_2 ic_0 ?_
  refine v_istore_3 hC (by decide) rfl dX4_sumOfDraws_3 ?_
  refine up_loop (fun d : Nat => V X E 4 [some (.ref (adr E 1)), some (.int (nI w)), some (.int (it0 (fun m a => a + σ 20 (w * 24 + m)) d (nI 0))), some (.int (nI d))] [] (σ) (μ)) (Nat.zero_le (24)) ?_ (fun d _ hd ih => ?_)
  · refine v_iload_3 hC dX4_sumOfDraws_4 ?_
    refine v_bipush hC dX4_sumOfDraws_5 bp_24 ?_
    refine v_icge (tgt := 25) hC dX4_sumOfDraws_7 (by decide) (fun h7 => ?_) (fun h7 => absurd (Int32.le_refl _) h7)
    refine v_iload_2 hC dX4_sumOfDraws_25 ?_
    exact v_iret hC hT rfl dX4_sumOfDraws_26
  · refine v_iload_3 hC dX4_sumOfDraws_4 ?_
    refine v_bipush hC dX4_sumOfDraws_5 bp_24 ?_
    refine v_icge (tgt := 25) hC dX4_sumOfDraws_7 (by decide) (fun h7 => absurd h7 (nI_ge hd (by decide))) (fun h7 => ?_)
    refine v_iload_2 hC dX4_sumOfDraws_10 ?_
    refine v_aload_0 hC dX4_sumOfDraws_11 ?_
    refine v_iload_1 hC dX4_sumOfDraws_12 ?_
    refine v_iload_3 hC dX4_sumOfDraws_13 ?_
    refine v_cv2r hC lX4_49 ⟨by decide, 4, _, rfl, rfl, fun _ _ _ => ⟨_, rfl⟩⟩ (k_X4_drawOf (by omega) (by omega)) ⟨Nat.le_of_ble_eq_true rfl, Nat.le_of_ble_eq_true rfl, rfl, rfl⟩ (Nat.le_of_ble_eq_true rfl) dX4_sumOfDraws_14 ?_
    refine v_iadd hC dX4_sumOfDraws_17 ?_
    refine v_istore_2 hC (by decide) rfl dX4_sumOfDraws_18 ?_
    refine v_iinc1_3 hC (by decide) rfl dX4_sumOfDraws_19 ?_
    refine v_goto (tgt := 4) hC dX4_sumOfDraws_22 (by decide) ?_
    exact ih
theorem k_X4_counted {l : Launch} {E : ET} {σ μ : St} (hwc : WC σ) {w m : Nat} (hw : w < 10) (hm : m < 24) : Ct l E MX4_counted [.ref (adr E 1), .int (nI w), .int (nI m)] (σ) (μ) (some (.int (cCnt σ w m))) (σ) (μ) := by
  refine Ct.of (L := [some (.ref (adr E 1)), some (.int (nI w)), some (.int (nI m))]) (by decide) rfl (Nat.le_of_ble_eq_true rfl) rfl (fun X hC hT => ?_)
  refine v_aload_0 hC dX4_counted_0 ?_
  refine v_get hC fX4_12 (by decide) rfl rfl dX4_counted_1 ?_
  refine v_iload_1 hC dX4_counted_4 ?_
  refine v_iload_2 hC dX4_counted_5 ?_
  refine v_cv2r hC lX4_53 ⟨by decide, 5, _, rfl, rfl, fun _ _ _ => ⟨_, rfl⟩⟩ (k_X5_isOwnMonth (by omega) (by omega)) ⟨Nat.le_of_ble_eq_true rfl, Nat.le_of_ble_eq_true rfl, rfl, rfl⟩ (Nat.le_of_ble_eq_true rfl) dX4_counted_6 ?_
  refine v_ifeqb (tgt := 35) hC dX4_counted_9 (by decide) (fun h9 => ?_) (fun h9 => ?_)
  · refine v_iconst hC dX4_counted_35 ic_0 ?_
    exact v_iret hC hT (by rw [cCnt, if_neg h9]) dX4_counted_36
  · refine v_gets hC fsX4_57 dX4_counted_12 ?_
    refine v_aload_0 hC dX4_counted_15 ?_
    refine v_get hC fX4_12 (by decide) rfl rfl dX4_counted_16 ?_
    refine v_get hC fX4_60 (by decide) rfl rfl dX4_counted_19 ?_
    refine v_iload_1 hC dX4_counted_22 ?_
    refine v_iald hC C_3 (by omega) dX4_counted_23 ?_
    refine v_top (hwc.k hw) ?_
    refine v_tald hC (Nat.lt_succ_of_le (hwc.k5 hw)) dX4_counted_24 ?_
    refine v_aload_0 hC dX4_counted_25 ?_
    refine v_iload_1 hC dX4_counted_26 ?_
    refine v_iload_2 hC dX4_counted_27 ?_
    refine v_cv2r hC lX4_49 ⟨by decide, 4, _, rfl, rfl, fun _ _ _ => ⟨_, rfl⟩⟩ (k_X4_drawOf (by omega) (by omega)) ⟨Nat.le_of_ble_eq_true rfl, Nat.le_of_ble_eq_true rfl, rfl, rfl⟩ (Nat.le_of_ble_eq_true rfl) dX4_counted_28 ?_
    refine v_imul hC dX4_counted_31 ?_
    refine v_goto (tgt := 36) hC dX4_counted_32 (by decide) ?_
    exact v_iret hC hT (by rw [cCnt, if_pos h9]) dX4_counted_36
theorem k_X4_rowBetween {l : Launch} {E : ET} {σ μ : St} (hwc : WC σ) {i j : Nat} (ha : i < 10) (hb : j < 10) : Ct l E MX4_rowBetween [.ref (adr E 1), .int (nI i), .int (nI j)] (σ) (μ) (some (.int (nI (rwN σ i j)))) (σ) (μ) := by
  refine Ct.of (L := [some (.ref (adr E 1)), some (.int (nI i)), some (.int (nI j))]) (by decide) rfl (Nat.le_of_ble_eq_true rfl) rfl (fun X hC hT => ?_)
  refine v_aload_0 hC dX4_rowBetween_0 ?_
  refine v_get hC fX4_12 (by decide) rfl rfl dX4_rowBetween_1 ?_
  refine v_iload_1 hC dX4_rowBetween_4 ?_
  refine v_iload_2 hC dX4_rowBetween_5 ?_
  refine v_cv2r hC lX4_63 ⟨by decide, 5, _, rfl, rfl, fun _ _ _ => ⟨_, rfl⟩⟩ (k_X5_layer (by omega) (by omega)) ⟨Nat.le_of_ble_eq_true rfl, Nat.le_of_ble_eq_true rfl, rfl, rfl⟩ (Nat.le_of_ble_eq_true rfl) dX4_rowBetween_6 ?_
  refine v_aload_0 hC dX4_rowBetween_9 ?_
  refine v_get hC fX4_12 (by decide) rfl rfl dX4_rowBetween_10 ?_
  refine v_iload_1 hC dX4_rowBetween_13 ?_
  refine v_iload_2 hC dX4_rowBetween_14 ?_
  refine v_cv2r hC lX4_66 ⟨by decide, 5, _, rfl, rfl, fun _ _ _ => ⟨_, rfl⟩⟩ (k_X5_apart hwc (by omega) (by omega)) ⟨Nat.le_of_ble_eq_true rfl, Nat.le_of_ble_eq_true rfl, rfl, rfl⟩ (Nat.le_of_ble_eq_true rfl) dX4_rowBetween_15 ?_
  refine v_cs2r hC lX4_69 (k_X3_row) ⟨Nat.le_of_ble_eq_true rfl, Nat.le_of_ble_eq_true rfl, rfl, rfl⟩ (Nat.le_of_ble_eq_true rfl) dX4_rowBetween_18 ?_
  exact v_iret hC hT rfl dX4_rowBetween_21
theorem k_X4_lowering {l : Launch} {E : ET} {σ μ : St} (hwc : WC σ) {w m s fr : Nat} (hw : w < 10) (hm : m < 24) (hs : s < 10) (hfr : fr < 24) : Ct l E MX4_lowering [.ref (adr E 1), .int (nI w), .int (nI m), .int (nI s), .int (nI fr)] (σ) (μ) (some (.int (cLow σ w m s fr))) (σ) (μ) := by
  have hr := rwN_228 hwc hw hs
  have hlo : lo12 fr m < 24 := by unfold lo12; omega
  have hlo2 : m - 11 ≤ lo12 fr m := by unfold lo12; omega
  refine Ct.of (L := [some (.ref (adr E 1)), some (.int (nI w)), some (.int (nI m)), some (.int (nI s)), some (.int (nI fr)), none, none, none]) (by decide) rfl (Nat.le_of_ble_eq_true rfl) rfl (fun X hC hT => ?_)
  refine v_aload_0 hC dX4_lowering_0 ?_
  refine v_iload_1 hC dX4_lowering_1 ?_
  refine v_iload_3 hC dX4_lowering_2 ?_
  refine v_cv2r hC lX4_72 ⟨by decide, 4, _, rfl, rfl, fun _ _ _ => ⟨_, rfl⟩⟩ (k_X4_rowBetween hwc (by omega) (by omega)) ⟨Nat.le_of_ble_eq_true rfl, Nat.le_of_ble_eq_true rfl, rfl, rfl⟩ (Nat.le_of_ble_eq_true rfl) dX4_lowering_3 ?_
  refine v_istore_5 hC (by decide) rfl dX4_lowering_6 ?_
  refine v_iconst hC dX4_lowering_8 ic_0 ?_
  refine v_istore_6 hC (by decide) rfl dX4_lowering_9 ?_
  refine v_iload_4 hC dX4_lowering_11 ?_
  refine v_iload_2 hC dX4_lowering_13 ?_
  refine v_bipush hC dX4_lowering_14 bp_12 ?_
  refine v_isub hC dX4_lowering_16 ?_
  refine v_iconst hC dX4_lowering_17 ic_1 ?_
  refine v_iadd hC dX4_lowering_18 ?_
  refine v_max hC lX4_75 st_max ini_Math co_max (by decide) (Nat.le_of_ble_eq_true rfl) dX4_lowering_19 ?_
  refine v_top (mx_lo hfr hm) ?_
  refine v_istore_7 hC (by decide) rfl dX4_lowering_22 ?_
  refine up_loop (fun d : Nat => V X E 24 [some (.ref (adr E 1)), some (.int (nI w)), some (.int (nI m)), some (.int (nI s)), some (.int (nI fr)), some (.int (nI (rwN σ w s))), some (.int (it (fLow σ w m s) (lo12 fr m) d (nI 0))), some (.int (nI (lo12 fr m + d)))] [] (σ) (μ)) (Nat.zero_le (m + 1 - lo12 fr m)) ?_ (fun d _ hd ih => ?_)
  · refine v_iload_7 hC dX4_lowering_24 ?_
    refine v_iload_2 hC dX4_lowering_26 ?_
    refine v_icgt (tgt := 82) hC dX4_lowering_27 (by decide) (fun h27 => ?_) (fun h27 => absurd (nI_lt (by omega) (by omega)) h27)
    refine v_iload_6 hC dX4_lowering_82 ?_
    refine v_gets hC fsX4_57 dX4_lowering_84 ?_
    refine v_aload_0 hC dX4_lowering_87 ?_
    refine v_get hC fX4_12 (by decide) rfl rfl dX4_lowering_88 ?_
    refine v_get hC fX4_60 (by decide) rfl rfl dX4_lowering_91 ?_
    refine v_iload_3 hC dX4_lowering_94 ?_
    refine v_iald hC C_3 (by omega) dX4_lowering_95 ?_
    refine v_top (hwc.k hs) ?_
    refine v_tald hC (Nat.lt_succ_of_le (hwc.k5 hs)) dX4_lowering_96 ?_
    refine v_imul hC dX4_lowering_97 ?_
    exact v_iret hC hT rfl dX4_lowering_98
  · refine v_iload_7 hC dX4_lowering_24 ?_
    refine v_iload_2 hC dX4_lowering_26 ?_
    refine v_icgt (tgt := 82) hC dX4_lowering_27 (by decide) (fun h27 => absurd h27 (nI_nlt (by omega) (by omega))) (fun h27 => ?_)
    refine v_aload_0 hC dX4_lowering_30 ?_
    refine v_get hC fX4_12 (by decide) rfl rfl dX4_lowering_31 ?_
    refine v_iload_3 hC dX4_lowering_34 ?_
    refine v_iload_7 hC dX4_lowering_35 ?_
    refine v_cv2r hC lX4_53 ⟨by decide, 5, _, rfl, rfl, fun _ _ _ => ⟨_, rfl⟩⟩ (k_X5_isOwnMonth (by omega) (by omega)) ⟨Nat.le_of_ble_eq_true rfl, Nat.le_of_ble_eq_true rfl, rfl, rfl⟩ (Nat.le_of_ble_eq_true rfl) dX4_lowering_37 ?_
    refine v_ifeqb (tgt := 76) hC dX4_lowering_40 (by decide) (fun h40 => ?_) (fun h40 => ?_)
    · refine v_iinc1_7 hC (by decide) rfl dX4_lowering_76 ?_
      refine v_goto (tgt := 24) hC dX4_lowering_79 (by decide) ?_
      exact v_leq_6 (if_neg h40).symm ih
    · refine v_iload_6 hC dX4_lowering_43 ?_
      refine v_aload_0 hC dX4_lowering_45 ?_
      refine v_get hC fX4_39 (by decide) rfl rfl dX4_lowering_46 ?_
      refine v_iload_3 hC dX4_lowering_49 ?_
      refine v_bipush hC dX4_lowering_50 bp_24 ?_
      refine v_imulN hC dX4_lowering_52 ?_
      refine v_iload_7 hC dX4_lowering_53 ?_
      refine v_iaddN hC dX4_lowering_55 ?_
      refine v_iald hC C_20 (by omega) dX4_lowering_56 ?_
      refine v_aload_0 hC dX4_lowering_57 ?_
      refine v_get hC fX4_21 (by decide) rfl rfl dX4_lowering_58 ?_
      refine v_get hC fX4_80 (by decide) rfl rfl dX4_lowering_61 ?_
      refine v_iload_5 hC dX4_lowering_64 ?_
      refine v_iload_2 hC dX4_lowering_66 ?_
      refine v_iaddN hC dX4_lowering_67 ?_
      refine v_iload_7 hC dX4_lowering_68 ?_
      refine v_isubN hC dX4_lowering_70 (by omega) ?_
      refine v_iald hC C_9 (by omega) dX4_lowering_71 ?_
      refine v_imul hC dX4_lowering_72 ?_
      refine v_iadd hC dX4_lowering_73 ?_
      refine v_istore_6 hC (by decide) rfl dX4_lowering_74 ?_
      refine v_iinc1_7 hC (by decide) rfl dX4_lowering_76 ?_
      refine v_goto (tgt := 24) hC dX4_lowering_79 (by decide) ?_
      exact v_leq_6 (if_pos h40).symm ih
theorem k_X4_loweringOfOneMore {l : Launch} {E : ET} {σ μ : St} (hwc : WC σ) {w m s fr : Nat} (hw : w < 10) (hm : m < 24) (hs : s < 10) (hfr : fr < 24) : Ct l E MX4_loweringOfOneMore [.ref (adr E 1), .int (nI w), .int (nI m), .int (nI s), .int (nI fr)] (σ) (μ) (some (.int (cOne σ w m s fr))) (σ) (μ) := by
  have hr := rwN_228 hwc hw hs
  have hlo : lo12 fr m < 24 := by unfold lo12; omega
  have hlo2 : m - 11 ≤ lo12 fr m := by unfold lo12; omega
  refine Ct.of (L := [some (.ref (adr E 1)), some (.int (nI w)), some (.int (nI m)), some (.int (nI s)), some (.int (nI fr)), none, none, none]) (by decide) rfl (Nat.le_of_ble_eq_true rfl) rfl (fun X hC hT => ?_)
  refine v_aload_0 hC dX4_loweringOfOneMore_0 ?_
  refine v_iload_1 hC dX4_loweringOfOneMore_1 ?_
  refine v_iload_3 hC dX4_loweringOfOneMore_2 ?_
  refine v_cv2r hC lX4_72 ⟨by decide, 4, _, rfl, rfl, fun _ _ _ => ⟨_, rfl⟩⟩ (k_X4_rowBetween hwc (by omega) (by omega)) ⟨Nat.le_of_ble_eq_true rfl, Nat.le_of_ble_eq_true rfl, rfl, rfl⟩ (Nat.le_of_ble_eq_true rfl) dX4_loweringOfOneMore_3 ?_
  refine v_istore_5 hC (by decide) rfl dX4_loweringOfOneMore_6 ?_
  refine v_iconst hC dX4_loweringOfOneMore_8 ic_0 ?_
  refine v_istore_6 hC (by decide) rfl dX4_loweringOfOneMore_9 ?_
  refine v_iload_4 hC dX4_loweringOfOneMore_11 ?_
  refine v_iload_2 hC dX4_loweringOfOneMore_13 ?_
  refine v_bipush hC dX4_loweringOfOneMore_14 bp_12 ?_
  refine v_isub hC dX4_loweringOfOneMore_16 ?_
  refine v_iconst hC dX4_loweringOfOneMore_17 ic_1 ?_
  refine v_iadd hC dX4_loweringOfOneMore_18 ?_
  refine v_max hC lX4_75 st_max ini_Math co_max (by decide) (Nat.le_of_ble_eq_true rfl) dX4_loweringOfOneMore_19 ?_
  refine v_top (mx_lo hfr hm) ?_
  refine v_istore_7 hC (by decide) rfl dX4_loweringOfOneMore_22 ?_
  refine up_loop (fun d : Nat => V X E 24 [some (.ref (adr E 1)), some (.int (nI w)), some (.int (nI m)), some (.int (nI s)), some (.int (nI fr)), some (.int (nI (rwN σ w s))), some (.int (it (fOne σ w m s) (lo12 fr m) d (nI 0))), some (.int (nI (lo12 fr m + d)))] [] (σ) (μ)) (Nat.zero_le (m + 1 - lo12 fr m)) ?_ (fun d _ hd ih => ?_)
  · refine v_iload_7 hC dX4_loweringOfOneMore_24 ?_
    refine v_iload_2 hC dX4_loweringOfOneMore_26 ?_
    refine v_icgt (tgt := 69) hC dX4_loweringOfOneMore_27 (by decide) (fun h27 => ?_) (fun h27 => absurd (nI_lt (by omega) (by omega)) h27)
    refine v_iload_6 hC dX4_loweringOfOneMore_69 ?_
    exact v_iret hC hT rfl dX4_loweringOfOneMore_71
  · refine v_iload_7 hC dX4_loweringOfOneMore_24 ?_
    refine v_iload_2 hC dX4_loweringOfOneMore_26 ?_
    refine v_icgt (tgt := 69) hC dX4_loweringOfOneMore_27 (by decide) (fun h27 => absurd h27 (nI_nlt (by omega) (by omega))) (fun h27 => ?_)
    refine v_aload_0 hC dX4_loweringOfOneMore_30 ?_
    refine v_get hC fX4_12 (by decide) rfl rfl dX4_loweringOfOneMore_31 ?_
    refine v_iload_3 hC dX4_loweringOfOneMore_34 ?_
    refine v_iload_7 hC dX4_loweringOfOneMore_35 ?_
    refine v_cv2r hC lX4_53 ⟨by decide, 5, _, rfl, rfl, fun _ _ _ => ⟨_, rfl⟩⟩ (k_X5_isOwnMonth (by omega) (by omega)) ⟨Nat.le_of_ble_eq_true rfl, Nat.le_of_ble_eq_true rfl, rfl, rfl⟩ (Nat.le_of_ble_eq_true rfl) dX4_loweringOfOneMore_37 ?_
    refine v_ifeqb (tgt := 63) hC dX4_loweringOfOneMore_40 (by decide) (fun h40 => ?_) (fun h40 => ?_)
    · refine v_iinc1_7 hC (by decide) rfl dX4_loweringOfOneMore_63 ?_
      refine v_goto (tgt := 24) hC dX4_loweringOfOneMore_66 (by decide) ?_
      exact v_leq_6 (if_neg h40).symm ih
    · refine v_iload_6 hC dX4_loweringOfOneMore_43 ?_
      refine v_aload_0 hC dX4_loweringOfOneMore_45 ?_
      refine v_get hC fX4_21 (by decide) rfl rfl dX4_loweringOfOneMore_46 ?_
      refine v_get hC fX4_80 (by decide) rfl rfl dX4_loweringOfOneMore_49 ?_
      refine v_iload_5 hC dX4_loweringOfOneMore_52 ?_
      refine v_iload_2 hC dX4_loweringOfOneMore_54 ?_
      refine v_iaddN hC dX4_loweringOfOneMore_55 ?_
      refine v_iload_7 hC dX4_loweringOfOneMore_56 ?_
      refine v_isubN hC dX4_loweringOfOneMore_58 (by omega) ?_
      refine v_iald hC C_9 (by omega) dX4_loweringOfOneMore_59 ?_
      refine v_iadd hC dX4_loweringOfOneMore_60 ?_
      refine v_istore_6 hC (by decide) rfl dX4_loweringOfOneMore_61 ?_
      refine v_iinc1_7 hC (by decide) rfl dX4_loweringOfOneMore_63 ?_
      refine v_goto (tgt := 24) hC dX4_loweringOfOneMore_66 (by decide) ?_
      exact v_leq_6 (if_pos h40).symm ih
theorem k_X4_raisedByRain {l : Launch} {E : ET} {σ μ : St} {m : Nat} (hm : m < 24) : Ct l E MX4_raisedByRain [.ref (adr E 1), .int (nI m)] (σ) (μ) (some (.int (cRain σ m))) (σ) (μ) := by
  have hlo : lo12 0 m < 24 := by unfold lo12; omega
  have hlo2 : m - 11 ≤ lo12 0 m := by unfold lo12; omega
  refine Ct.of (L := [some (.ref (adr E 1)), some (.int (nI m)), none, none]) (by decide) rfl (Nat.le_of_ble_eq_true rfl) rfl (fun X hC hT => ?_)
  refine v_iconst hC dX4_raisedByRain_0 ic_0 ?_
  refine v_istore_2 hC (by decide) rfl dX4_raisedByRain_1 ?_
  refine v_iconst hC dX4_raisedByRain_2 ic_0 ?_
  refine v_iload_1 hC dX4_raisedByRain_3 ?_
  refine v_bipush hC dX4_raisedByRain_4 bp_12 ?_
  refine v_isub hC dX4_raisedByRain_6 ?_
  refine v_iconst hC dX4_raisedByRain_7 ic_1 ?_
  refine v_iadd hC dX4_raisedByRain_8 ?_
  refine v_max hC lX4_75 st_max ini_Math co_max (by decide) (Nat.le_of_ble_eq_true rfl) dX4_raisedByRain_9 ?_
  refine v_top (mx_lo (by omega) hm) ?_
  refine v_istore_3 hC (by decide) rfl dX4_raisedByRain_12 ?_
  refine up_loop (fun d : Nat => V X E 13 [some (.ref (adr E 1)), some (.int (nI m)), some (.int (it (fRain σ m) (lo12 0 m) d (nI 0))), some (.int (nI (lo12 0 m + d)))] [] (σ) (μ)) (Nat.zero_le (m + 1 - lo12 0 m)) ?_ (fun d _ hd ih => ?_)
  · refine v_iload_3 hC dX4_raisedByRain_13 ?_
    refine v_iload_1 hC dX4_raisedByRain_14 ?_
    refine v_icgt (tgt := 45) hC dX4_raisedByRain_15 (by decide) (fun h15 => ?_) (fun h15 => absurd (nI_lt (by omega) (by omega)) h15)
    refine v_iload_2 hC dX4_raisedByRain_45 ?_
    exact v_iret hC hT rfl dX4_raisedByRain_46
  · refine v_iload_3 hC dX4_raisedByRain_13 ?_
    refine v_iload_1 hC dX4_raisedByRain_14 ?_
    refine v_icgt (tgt := 45) hC dX4_raisedByRain_15 (by decide) (fun h15 => absurd h15 (nI_nlt (by omega) (by omega))) (fun h15 => ?_)
    refine v_iload_2 hC dX4_raisedByRain_18 ?_
    refine v_aload_0 hC dX4_raisedByRain_19 ?_
    refine v_get hC fX4_43 (by decide) rfl rfl dX4_raisedByRain_20 ?_
    refine v_iload_3 hC dX4_raisedByRain_23 ?_
    refine v_iald hC C_21 (by omega) dX4_raisedByRain_24 ?_
    refine v_aload_0 hC dX4_raisedByRain_25 ?_
    refine v_get hC fX4_21 (by decide) rfl rfl dX4_raisedByRain_26 ?_
    refine v_get hC fX4_83 (by decide) rfl rfl dX4_raisedByRain_29 ?_
    refine v_iload_1 hC dX4_raisedByRain_32 ?_
    refine v_iload_3 hC dX4_raisedByRain_33 ?_
    refine v_isubN hC dX4_raisedByRain_34 (by omega) ?_
    refine v_iald hC C_10 (by omega) dX4_raisedByRain_35 ?_
    refine v_imul hC dX4_raisedByRain_36 ?_
    refine v_iadd hC dX4_raisedByRain_37 ?_
    refine v_istore_2 hC (by decide) rfl dX4_raisedByRain_38 ?_
    refine v_iinc1_3 hC (by decide) rfl dX4_raisedByRain_39 ?_
    refine v_goto (tgt := 13) hC dX4_raisedByRain_42 (by decide) ?_
    exact ih
theorem k_X4_headOf {l : Launch} {E : ET} {σ μ : St} (hwc : WC σ) {w m : Nat} (hw : w < 10) (hm : m < 24) : Ct l E MX4_headOf [.ref (adr E 1), .int (nI w), .int (nI m)] (σ) (μ) (some (.int (cHead σ w m))) (σ) (μ) := by
  have h10 := hwc.n10
  refine Ct.of (L := [some (.ref (adr E 1)), some (.int (nI w)), some (.int (nI m)), none, none]) (by decide) rfl (Nat.le_of_ble_eq_true rfl) rfl (fun X hC hT => ?_)
  refine v_aload_0 hC dX4_headOf_0 ?_
  refine v_get hC fX4_12 (by decide) rfl rfl dX4_headOf_1 ?_
  refine v_get hC fX4_86 (by decide) rfl rfl dX4_headOf_4 ?_
  refine v_iload_1 hC dX4_headOf_7 ?_
  refine v_iald hC C_6 (by omega) dX4_headOf_8 ?_
  refine v_aload_0 hC dX4_headOf_9 ?_
  refine v_iload_2 hC dX4_headOf_10 ?_
  refine v_cv1r hC lX4_89 ⟨by decide, 4, _, rfl, rfl, fun _ _ _ => ⟨_, rfl⟩⟩ (k_X4_raisedByRain (by omega)) ⟨Nat.le_of_ble_eq_true rfl, Nat.le_of_ble_eq_true rfl, rfl, rfl⟩ (Nat.le_of_ble_eq_true rfl) dX4_headOf_11 ?_
  refine v_iadd hC dX4_headOf_14 ?_
  refine v_istore_3 hC (by decide) rfl dX4_headOf_15 ?_
  refine v_iconst hC dX4_headOf_16 ic_0 ?_
  refine v_istore_4 hC (by decide) rfl dX4_headOf_17 ?_
  refine up_loop (fun d : Nat => V X E 19 [some (.ref (adr E 1)), some (.int (nI w)), some (.int (nI m)), some (.int (it0 (fHead σ w m) d (σ 6 w + cRain σ m))), some (.int (nI d))] [] (σ) (μ)) (Nat.zero_le (nW σ)) ?_ (fun d _ hd ih => ?_)
  · refine v_iload_4 hC dX4_headOf_19 ?_
    refine v_aload_0 hC dX4_headOf_21 ?_
    refine v_get hC fX4_12 (by decide) rfl rfl dX4_headOf_22 ?_
    refine v_get hC fX4_93 (by decide) rfl rfl dX4_headOf_25 ?_
    refine v_icge (tgt := 49) hC dX4_headOf_28 (by decide) (fun h28 => ?_) (fun h28 => absurd (by rw [hwc.n]; exact Int32.le_refl _) h28)
    refine v_iload_3 hC dX4_headOf_49 ?_
    exact v_iret hC hT rfl dX4_headOf_50
  · refine v_iload_4 hC dX4_headOf_19 ?_
    refine v_aload_0 hC dX4_headOf_21 ?_
    refine v_get hC fX4_12 (by decide) rfl rfl dX4_headOf_22 ?_
    refine v_get hC fX4_93 (by decide) rfl rfl dX4_headOf_25 ?_
    refine v_icge (tgt := 49) hC dX4_headOf_28 (by decide) (fun h28 => absurd h28 (by rw [hwc.n]; exact nI_ge hd (by omega))) (fun h28 => ?_)
    refine v_iload_3 hC dX4_headOf_31 ?_
    refine v_aload_0 hC dX4_headOf_32 ?_
    refine v_iload_1 hC dX4_headOf_33 ?_
    refine v_iload_2 hC dX4_headOf_34 ?_
    refine v_iload_4 hC dX4_headOf_35 ?_
    refine v_iconst hC dX4_headOf_37 ic_0 ?_
    refine v_cv4r hC lX4_97 ⟨by decide, 4, _, rfl, rfl, fun _ _ _ => ⟨_, rfl⟩⟩ (k_X4_lowering hwc (by omega) (by omega) (by omega) (by omega)) ⟨Nat.le_of_ble_eq_true rfl, Nat.le_of_ble_eq_true rfl, rfl, rfl⟩ (Nat.le_of_ble_eq_true rfl) dX4_headOf_38 ?_
    refine v_isub hC dX4_headOf_41 ?_
    refine v_istore_3 hC (by decide) rfl dX4_headOf_42 ?_
    refine v_iinc1_4 hC (by decide) rfl dX4_headOf_43 ?_
    refine v_goto (tgt := 19) hC dX4_headOf_46 (by decide) ?_
    exact ih
theorem k_X4_aboveLimit {l : Launch} {E : ET} {σ μ : St} (hwc : WC σ) {w m : Nat} (hw : w < 10) (hm : m < 24) : Ct l E MX4_aboveLimit [.ref (adr E 1), .int (nI w), .int (nI m)] (σ) (μ) (some (.int (cAbv σ w m))) (σ) (μ) := by
  refine Ct.of (L := [some (.ref (adr E 1)), some (.int (nI w)), some (.int (nI m))]) (by decide) rfl (Nat.le_of_ble_eq_true rfl) rfl (fun X hC hT => ?_)
  refine v_aload_0 hC dX4_aboveLimit_0 ?_
  refine v_iload_1 hC dX4_aboveLimit_1 ?_
  refine v_iload_2 hC dX4_aboveLimit_2 ?_
  refine v_cv2r hC lX4_101 ⟨by decide, 4, _, rfl, rfl, fun _ _ _ => ⟨_, rfl⟩⟩ (k_X4_headOf hwc (by omega) (by omega)) ⟨Nat.le_of_ble_eq_true rfl, Nat.le_of_ble_eq_true rfl, rfl, rfl⟩ (Nat.le_of_ble_eq_true rfl) dX4_aboveLimit_3 ?_
  refine v_aload_0 hC dX4_aboveLimit_6 ?_
  refine v_get hC fX4_12 (by decide) rfl rfl dX4_aboveLimit_7 ?_
  refine v_get hC fX4_104 (by decide) rfl rfl dX4_aboveLimit_10 ?_
  refine v_iload_1 hC dX4_aboveLimit_13 ?_
  refine v_iald hC C_7 (by omega) dX4_aboveLimit_14 ?_
  refine v_isub hC dX4_aboveLimit_15 ?_
  exact v_iret hC hT rfl dX4_aboveLimit_16
theorem offF (fr : Nat) {w : Nat} (σ : St) (n : Nat) : Off 22 σ (it (fFsp w) fr n σ) := it_inv (Off 22 σ) n Off.rf (fun _ _ _ _ h => h.wr)
theorem offG (fr : Nat) (σ : St) (n : Nat) : Off 22 σ (it0 (gFsp fr) n σ) := it0_inv (Off 22 σ) n Off.rf (fun _ τ _ h => h.tr (offF fr τ _))
theorem offU (s fr : Nat) (x : Int32) {w : Nat} (σ : St) (n : Nat) : Off 22 σ (it (fUse s fr x w) fr n σ) := it_inv (Off 22 σ) n Off.rf (fun _ _ _ _ h => h.wr)
theorem offV (s fr : Nat) (x : Int32) (σ : St) (n : Nat) : Off 22 σ (it0 (gUse s fr x) n σ) := it0_inv (Off 22 σ) n Off.rf (fun _ τ _ h => h.tr (offU s fr x τ _))
theorem ne22 : 22 ≠ 2 ∧ 22 ≠ 3 ∧ 22 ≠ 4 ∧ 22 ≠ 5 ∧ 22 ≠ 12 ∧ 22 ≠ 13 := by decide
theorem ne20 : 20 ≠ 2 ∧ 20 ≠ 3 ∧ 20 ≠ 4 ∧ 20 ≠ 5 ∧ 20 ≠ 12 ∧ 20 ≠ 13 := by decide
theorem ne16 : 16 ≠ 2 ∧ 16 ≠ 3 ∧ 16 ≠ 4 ∧ 16 ≠ 5 ∧ 16 ≠ 12 ∧ 16 ≠ 13 := by decide
theorem k_X4_findSpare {l : Launch} {E : ET} {σ μ : St} (hwc0 : WC σ) {fr : Nat} (hfr : fr < 24) : Ct l E MX4_findSpare [.ref (adr E 1), .int (nI fr)] (σ) (μ) (none) (cFsp σ fr) (μ) := by
  have h10 := hwc0.n10
  refine Ct.of (L := [some (.ref (adr E 1)), some (.int (nI fr)), none, none]) (by decide) rfl (Nat.le_of_ble_eq_true rfl) rfl (fun X hC hT => ?_)
  refine v_iconst hC dX4_findSpare_0 ic_0 ?_
  refine v_istore_2 hC (by decide) rfl dX4_findSpare_1 ?_
  refine up_loop (fun d : Nat => V X E 2 [some (.ref (adr E 1)), some (.int (nI fr)), some (.int (nI d)), none] [] (it0 (gFsp fr) d σ) (μ)) (Nat.zero_le (nW σ)) ?_ (fun d _ hd ih => ?_)
  · refine v_iload_2 hC dX4_findSpare_2 ?_
    refine v_aload_0 hC dX4_findSpare_3 ?_
    refine v_get hC fX4_12 (by decide) rfl rfl dX4_findSpare_4 ?_
    refine v_get hC fX4_93 (by decide) rfl rfl dX4_findSpare_7 ?_
    refine v_icge (tgt := 60) hC dX4_findSpare_10 (by decide) (fun h10 => ?_) (fun h10 => absurd (by rw [offG fr σ _ 2 (by decide), hwc0.n]; exact Int32.le_refl _) h10)
    exact v_vret hC hT rfl dX4_findSpare_60
  · refine v_iload_2 hC dX4_findSpare_2 ?_
    refine v_aload_0 hC dX4_findSpare_3 ?_
    refine v_get hC fX4_12 (by decide) rfl rfl dX4_findSpare_4 ?_
    refine v_get hC fX4_93 (by decide) rfl rfl dX4_findSpare_7 ?_
    refine v_icge (tgt := 60) hC dX4_findSpare_10 (by decide) (fun h10 => absurd h10 (by rw [offG fr σ _ 2 (by decide), hwc0.n]; exact nI_ge hd (by omega))) (fun h10 => ?_)
    refine v_iload_1 hC dX4_findSpare_13 ?_
    refine v_istore_3 hC (by decide) rfl dX4_findSpare_14 ?_
    refine up_loop (fun e : Nat => V X E 15 [some (.ref (adr E 1)), some (.int (nI fr)), some (.int (nI d)), some (.int (nI (fr + e)))] [] (it (fFsp d) fr e (it0 (gFsp fr) d σ)) (μ)) (Nat.zero_le (24 - fr)) ?_ (fun e _ he ih2 => ?_)
    · refine v_iload_3 hC dX4_findSpare_15 ?_
      refine v_bipush hC dX4_findSpare_16 bp_24 ?_
      refine v_icge (tgt := 54) hC dX4_findSpare_18 (by decide) (fun h18 => ?_) (fun h18 => absurd (nI_le (by omega) (by omega)) h18)
      refine v_iinc1_2 hC (by decide) rfl dX4_findSpare_54 ?_
      refine v_goto (tgt := 2) hC dX4_findSpare_57 (by decide) ?_
      exact v_forget_3 ih
    · have hwc : WC (it (fFsp d) fr e (it0 (gFsp fr) d σ)) := ((offG fr σ _).tr (offF fr _ _)).wc ne22 hwc0
      refine v_iload_3 hC dX4_findSpare_15 ?_
      refine v_bipush hC dX4_findSpare_16 bp_24 ?_
      refine v_icge (tgt := 54) hC dX4_findSpare_18 (by decide) (fun h18 => absurd h18 (nI_ge (by omega) (by omega))) (fun h18 => ?_)
      refine v_aload_0 hC dX4_findSpare_21 ?_
      refine v_get hC fX4_46 (by decide) rfl rfl dX4_findSpare_22 ?_
      refine v_iload_2 hC dX4_findSpare_25 ?_
      refine v_bipush hC dX4_findSpare_26 bp_24 ?_
      refine v_imulN hC dX4_findSpare_28 ?_
      refine v_iload_3 hC dX4_findSpare_29 ?_
      refine v_iaddN hC dX4_findSpare_30 ?_
      refine v_aload_0 hC dX4_findSpare_31 ?_
      refine v_iload_2 hC dX4_findSpare_32 ?_
      refine v_iload_3 hC dX4_findSpare_33 ?_
      refine v_cv2r hC lX4_101 ⟨by decide, 4, _, rfl, rfl, fun _ _ _ => ⟨_, rfl⟩⟩ (k_X4_headOf hwc (by omega) (by omega)) ⟨Nat.le_of_ble_eq_true rfl, Nat.le_of_ble_eq_true rfl, rfl, rfl⟩ (Nat.le_of_ble_eq_true rfl) dX4_findSpare_34 ?_
      refine v_aload_0 hC dX4_findSpare_37 ?_
      refine v_get hC fX4_12 (by decide) rfl rfl dX4_findSpare_38 ?_
      refine v_get hC fX4_104 (by decide) rfl rfl dX4_findSpare_41 ?_
      refine v_iload_2 hC dX4_findSpare_44 ?_
      refine v_iald hC C_7 (by omega) dX4_findSpare_45 ?_
      refine v_isub hC dX4_findSpare_46 ?_
      refine v_iast hC C_22 (by omega) dX4_findSpare_47 ?_
      refine v_iinc1_3 hC (by decide) rfl dX4_findSpare_48 ?_
      refine v_goto (tgt := 15) hC dX4_findSpare_51 (by decide) ?_
      exact ih2
theorem k_X4_useSpare {l : Launch} {E : ET} {σ μ : St} (hwc0 : WC σ) {s : Nat} (hs : s < 10) (x : Int32) {fr : Nat} (hfr : fr < 24) : Ct l E MX4_useSpare [.ref (adr E 1), .int (nI s), .int (nI fr), .int x] (σ) (μ) (none) (cUse σ s fr x) (μ) := by
  have h10 := hwc0.n10
  refine Ct.of (L := [some (.ref (adr E 1)), some (.int (nI s)), some (.int (nI fr)), some (.int x), none, none]) (by decide) rfl (Nat.le_of_ble_eq_true rfl) rfl (fun X hC hT => ?_)
  refine v_iconst hC dX4_useSpare_0 ic_0 ?_
  refine v_istore_4 hC (by decide) rfl dX4_useSpare_1 ?_
  refine up_loop (fun d : Nat => V X E 3 [some (.ref (adr E 1)), some (.int (nI s)), some (.int (nI fr)), some (.int x), some (.int (nI d)), none] [] (it0 (gUse s fr x) d σ) (μ)) (Nat.zero_le (nW σ)) ?_ (fun d _ hd ih => ?_)
  · refine v_iload_4 hC dX4_useSpare_3 ?_
    refine v_aload_0 hC dX4_useSpare_5 ?_
    refine v_get hC fX4_12 (by decide) rfl rfl dX4_useSpare_6 ?_
    refine v_get hC fX4_93 (by decide) rfl rfl dX4_useSpare_9 ?_
    refine v_icge (tgt := 65) hC dX4_useSpare_12 (by decide) (fun h12 => ?_) (fun h12 => absurd (by rw [offV s fr x σ _ 2 (by decide), hwc0.n]; exact Int32.le_refl _) h12)
    exact v_vret hC hT rfl dX4_useSpare_65
  · refine v_iload_4 hC dX4_useSpare_3 ?_
    refine v_aload_0 hC dX4_useSpare_5 ?_
    refine v_get hC fX4_12 (by decide) rfl rfl dX4_useSpare_6 ?_
    refine v_get hC fX4_93 (by decide) rfl rfl dX4_useSpare_9 ?_
    refine v_icge (tgt := 65) hC dX4_useSpare_12 (by decide) (fun h12 => absurd h12 (by rw [offV s fr x σ _ 2 (by decide), hwc0.n]; exact nI_ge hd (by omega))) (fun h12 => ?_)
    refine v_iload_2 hC dX4_useSpare_15 ?_
    refine v_istore_5 hC (by decide) rfl dX4_useSpare_16 ?_
    refine up_loop (fun e : Nat => V X E 18 [some (.ref (adr E 1)), some (.int (nI s)), some (.int (nI fr)), some (.int x), some (.int (nI d)), some (.int (nI (fr + e)))] [] (it (fUse s fr x d) fr e (it0 (gUse s fr x) d σ)) (μ)) (Nat.zero_le (24 - fr)) ?_ (fun e _ he ih2 => ?_)
    · refine v_iload_5 hC dX4_useSpare_18 ?_
      refine v_bipush hC dX4_useSpare_20 bp_24 ?_
      refine v_icge (tgt := 59) hC dX4_useSpare_22 (by decide) (fun h22 => ?_) (fun h22 => absurd (nI_le (by omega) (by omega)) h22)
      refine v_iinc1_4 hC (by decide) rfl dX4_useSpare_59 ?_
      refine v_goto (tgt := 3) hC dX4_useSpare_62 (by decide) ?_
      exact v_forget_5 ih
    · have hwc : WC (it (fUse s fr x d) fr e (it0 (gUse s fr x) d σ)) := ((offV s fr x σ _).tr (offU s fr x _ _)).wc ne22 hwc0
      refine v_iload_5 hC dX4_useSpare_18 ?_
      refine v_bipush hC dX4_useSpare_20 bp_24 ?_
      refine v_icge (tgt := 59) hC dX4_useSpare_22 (by decide) (fun h22 => absurd h22 (nI_ge (by omega) (by omega))) (fun h22 => ?_)
      refine v_aload_0 hC dX4_useSpare_25 ?_
      refine v_get hC fX4_46 (by decide) rfl rfl dX4_useSpare_26 ?_
      refine v_iload_4 hC dX4_useSpare_29 ?_
      refine v_bipush hC dX4_useSpare_31 bp_24 ?_
      refine v_imulN hC dX4_useSpare_33 ?_
      refine v_iload_5 hC dX4_useSpare_34 ?_
      refine v_iaddN hC dX4_useSpare_36 ?_
      refine v_dup2 hC rfl rfl dX4_useSpare_37 ?_
      refine v_iald hC C_22 (by omega) dX4_useSpare_38 ?_
      refine v_iload_3 hC dX4_useSpare_39 ?_
      refine v_aload_0 hC dX4_useSpare_40 ?_
      refine v_iload_4 hC dX4_useSpare_41 ?_
      refine v_iload_5 hC dX4_useSpare_43 ?_
      refine v_iload_1 hC dX4_useSpare_45 ?_
      refine v_iload_2 hC dX4_useSpare_46 ?_
      refine v_cv4r hC lX4_107 ⟨by decide, 4, _, rfl, rfl, fun _ _ _ => ⟨_, rfl⟩⟩ (k_X4_loweringOfOneMore hwc (by omega) (by omega) (by omega) (by omega)) ⟨Nat.le_of_ble_eq_true rfl, Nat.le_of_ble_eq_true rfl, rfl, rfl⟩ (Nat.le_of_ble_eq_true rfl) dX4_useSpare_47 ?_
      refine v_imul hC dX4_useSpare_50 ?_
      refine v_isub hC dX4_useSpare_51 ?_
      refine v_iast hC C_22 (by omega) dX4_useSpare_52 ?_
      refine v_iinc1_5 hC (by decide) rfl dX4_useSpare_53 ?_
      refine v_goto (tgt := 18) hC dX4_useSpare_56 (by decide) ?_
      exact ih2
theorem k_X4_freeOf {l : Launch} {E : ET} {σ μ : St} (hwc : WC σ) {s fr : Nat} (hs : s < 10) (hfr : fr < 24) : Ct l E MX4_freeOf [.ref (adr E 1), .int (nI s), .int (nI fr)] (σ) (μ) (some (.int (cFree σ s fr))) (σ) (μ) := by
  have h10 := hwc.n10
  refine Ct.of (L := [some (.ref (adr E 1)), some (.int (nI s)), some (.int (nI fr)), none, none, none, none]) (by decide) rfl (Nat.le_of_ble_eq_true rfl) rfl (fun X hC hT => ?_)
  refine v_aload_0 hC dX4_freeOf_0 ?_
  refine v_get hC fX4_12 (by decide) rfl rfl dX4_freeOf_1 ?_
  refine v_iload_1 hC dX4_freeOf_4 ?_
  refine v_cv1r hC lX4_110 ⟨by decide, 5, _, rfl, rfl, fun _ _ _ => ⟨_, rfl⟩⟩ (k_X5_isDrawing hwc (by omega)) ⟨Nat.le_of_ble_eq_true rfl, Nat.le_of_ble_eq_true rfl, rfl, rfl⟩ (Nat.le_of_ble_eq_true rfl) dX4_freeOf_5 ?_
  refine v_ifneb (tgt := 13) hC dX4_freeOf_8 (by decide) (fun h8 => ?_) (fun h8 => ?_)
  · refine v_sipush hC dX4_freeOf_13 sp_1000 ?_
    refine v_istore_3 hC (by decide) rfl dX4_freeOf_16 ?_
    refine v_iconst hC dX4_freeOf_17 ic_0 ?_
    refine v_istore_4 hC (by decide) rfl dX4_freeOf_18 ?_
    refine up_loop (fun d : Nat => V X E 20 [some (.ref (adr E 1)), some (.int (nI s)), some (.int (nI fr)), some (.int (it0 (gFree σ s fr) d (nI 1000))), some (.int (nI d)), none, none] [] (σ) (μ)) (Nat.zero_le (nW σ)) ?_ (fun d _ hd ih => ?_)
    · refine v_iload_4 hC dX4_freeOf_20 ?_
      refine v_aload_0 hC dX4_freeOf_22 ?_
      refine v_get hC fX4_12 (by decide) rfl rfl dX4_freeOf_23 ?_
      refine v_get hC fX4_93 (by decide) rfl rfl dX4_freeOf_26 ?_
      refine v_icge (tgt := 96) hC dX4_freeOf_29 (by decide) (fun h29 => ?_) (fun h29 => absurd (by rw [hwc.n]; exact Int32.le_refl _) h29)
      refine v_iload_3 hC dX4_freeOf_96 ?_
      exact v_iret hC hT (by rw [cFree, if_pos h8]) dX4_freeOf_97
    · refine v_iload_4 hC dX4_freeOf_20 ?_
      refine v_aload_0 hC dX4_freeOf_22 ?_
      refine v_get hC fX4_12 (by decide) rfl rfl dX4_freeOf_23 ?_
      refine v_get hC fX4_93 (by decide) rfl rfl dX4_freeOf_26 ?_
      refine v_icge (tgt := 96) hC dX4_freeOf_29 (by decide) (fun h29 => absurd h29 (by rw [hwc.n]; exact nI_ge hd (by omega))) (fun h29 => ?_)
      refine v_iload_2 hC dX4_freeOf_32 ?_
      refine v_istore_5 hC (by decide) rfl dX4_freeOf_33 ?_
      refine up_loop (fun e : Nat => V X E 35 [some (.ref (adr E 1)), some (.int (nI s)), some (.int (nI fr)), some (.int (it (fFree σ s fr d) fr e (it0 (gFree σ s fr) d (nI 1000)))), some (.int (nI d)), some (.int (nI (fr + e))), none] [] (σ) (μ)) (Nat.zero_le (24 - fr)) ?_ (fun e _ he ih2 => ?_)
      · refine v_iload_5 hC dX4_freeOf_35 ?_
        refine v_bipush hC dX4_freeOf_37 bp_24 ?_
        refine v_icge (tgt := 90) hC dX4_freeOf_39 (by decide) (fun h39 => ?_) (fun h39 => absurd (nI_le (by omega) (by omega)) h39)
        refine v_iinc1_4 hC (by decide) rfl dX4_freeOf_90 ?_
        refine v_goto (tgt := 20) hC dX4_freeOf_93 (by decide) ?_
        exact v_forget_5 (v_forget_6 ih)
      · refine v_iload_5 hC dX4_freeOf_35 ?_
        refine v_bipush hC dX4_freeOf_37 bp_24 ?_
        refine v_icge (tgt := 90) hC dX4_freeOf_39 (by decide) (fun h39 => absurd h39 (nI_ge (by omega) (by omega))) (fun h39 => ?_)
        refine v_aload_0 hC dX4_freeOf_42 ?_
        refine v_iload_4 hC dX4_freeOf_43 ?_
        refine v_iload_5 hC dX4_freeOf_45 ?_
        refine v_iload_1 hC dX4_freeOf_47 ?_
        refine v_iload_2 hC dX4_freeOf_48 ?_
        refine v_cv4r hC lX4_107 ⟨by decide, 4, _, rfl, rfl, fun _ _ _ => ⟨_, rfl⟩⟩ (k_X4_loweringOfOneMore hwc (by omega) (by omega) (by omega) (by omega)) ⟨Nat.le_of_ble_eq_true rfl, Nat.le_of_ble_eq_true rfl, rfl, rfl⟩ (Nat.le_of_ble_eq_true rfl) dX4_freeOf_49 ?_
        refine v_istore_6 hC (by decide) rfl dX4_freeOf_52 ?_
        refine v_iload_6 hC dX4_freeOf_54 ?_
        refine v_ifle (tgt := 84) hC dX4_freeOf_56 (by decide) (fun h56 => ?_) (fun h56 => ?_)
        · refine v_iinc1_5 hC (by decide) rfl dX4_freeOf_84 ?_
          refine v_goto (tgt := 35) hC dX4_freeOf_87 (by decide) ?_
          exact v_forget_6 (v_leq_3 (if_pos h56).symm ih2)
        · refine v_iload_3 hC dX4_freeOf_59 ?_
          refine v_iconst hC dX4_freeOf_60 ic_0 ?_
          refine v_aload_0 hC dX4_freeOf_61 ?_
          refine v_get hC fX4_46 (by decide) rfl rfl dX4_freeOf_62 ?_
          refine v_iload_4 hC dX4_freeOf_65 ?_
          refine v_bipush hC dX4_freeOf_67 bp_24 ?_
          refine v_imulN hC dX4_freeOf_69 ?_
          refine v_iload_5 hC dX4_freeOf_70 ?_
          refine v_iaddN hC dX4_freeOf_72 ?_
          refine v_iald hC C_22 (by omega) dX4_freeOf_73 ?_
          refine v_max hC lX4_75 st_max ini_Math co_max (by decide) (Nat.le_of_ble_eq_true rfl) dX4_freeOf_74 ?_
          refine v_iload_6 hC dX4_freeOf_77 ?_
          refine v_idiv hC dX4_freeOf_79 (fun q => h56 (by rw [q]; decide)) ?_
          refine v_min hC lX4_114 st_min ini_Math co_min (by decide) (Nat.le_of_ble_eq_true rfl) dX4_freeOf_80 ?_
          refine v_istore_3 hC (by decide) rfl dX4_freeOf_83 ?_
          refine v_iinc1_5 hC (by decide) rfl dX4_freeOf_84 ?_
          refine v_goto (tgt := 35) hC dX4_freeOf_87 (by decide) ?_
          exact v_forget_6 (v_leq_3 (if_neg h56).symm ih2)
  · refine v_iconst hC dX4_freeOf_11 ic_0 ?_
    exact v_iret hC hT (by rw [cFree, if_neg h8]) dX4_freeOf_12
theorem unsI (fr w : Nat) (σ : St) (n : Nat) : Off 20 σ (it (fUns w) fr n σ) := it_inv (Off 20 σ) n Off.rf (fun _ _ _ _ h => h.wr)
def Off2 (j k : Nat) (σ τ : St) : Prop := ∀ i, i ≠ j → i ≠ k → τ i = σ i
theorem unsG (fr : Nat) (σ : St) (n : Nat) : Off2 16 20 σ (it0 (gUns fr) n σ) := it0_inv (Off2 16 20 σ) n (fun _ _ _ => rfl) (fun i τ _ h j h1 h2 => by
  show gUns fr i τ j = σ j
  unfold gUns
  rw [unsI fr _ _ _ j h2, wr_ne h1]
  exact h j h1 h2)
theorem Off2.wc {σ τ : St} (h : Off2 16 20 σ τ) (hw : WC σ) : WC τ := hw.of (h 2 (by decide) (by decide)) (h 3 (by decide) (by decide)) (h 4 (by decide) (by decide)) (h 5 (by decide) (by decide)) (h 12 (by decide) (by decide)) (h 13 (by decide) (by decide))
theorem k_X4_unserve {l : Launch} {E : ET} {σ μ : St} (hwc : WC σ) {fr : Nat} (hfr : fr < 24) : Ct l E MX4_unserve [.ref (adr E 1), .int (nI fr)] (σ) (μ) (none) (cUns σ fr) (μ) := by
  have h10 := hwc.l10
  refine Ct.of (L := [some (.ref (adr E 1)), some (.int (nI fr)), none, none]) (by decide) rfl (Nat.le_of_ble_eq_true rfl) rfl (fun X hC hT => ?_)
  refine v_iconst hC dX4_unserve_0 ic_0 ?_
  refine v_istore_2 hC (by decide) rfl dX4_unserve_1 ?_
  refine up_loop (fun d : Nat => V X E 2 [some (.ref (adr E 1)), some (.int (nI fr)), some (.int (nI d)), none] [] (it0 (gUns fr) d σ) (μ)) (Nat.zero_le (nLi σ)) ?_ (fun d _ hd ih => ?_)
  · refine v_iload_2 hC dX4_unserve_2 ?_
    refine v_aload_0 hC dX4_unserve_3 ?_
    refine v_get hC fX4_28 (by decide) rfl rfl dX4_unserve_4 ?_
    refine v_get hC fX4_117 (by decide) rfl rfl dX4_unserve_7 ?_
    refine v_icge (tgt := 58) hC dX4_unserve_10 (by decide) (fun h10 => ?_) (fun h10 => absurd (by rw [unsG fr σ _ 12 (by decide) (by decide), hwc.l]; exact Int32.le_refl _) h10)
    exact v_vret hC hT rfl dX4_unserve_58
  · have hwd : WC (it0 (gUns fr) d σ) := (unsG fr σ d).wc hwc
    refine v_iload_2 hC dX4_unserve_2 ?_
    refine v_aload_0 hC dX4_unserve_3 ?_
    refine v_get hC fX4_28 (by decide) rfl rfl dX4_unserve_4 ?_
    refine v_get hC fX4_117 (by decide) rfl rfl dX4_unserve_7 ?_
    refine v_icge (tgt := 58) hC dX4_unserve_10 (by decide) (fun h10 => absurd h10 (by rw [unsG fr σ _ 12 (by decide) (by decide), hwc.l]; exact nI_ge hd (by omega))) (fun h10 => ?_)
    refine v_aload_0 hC dX4_unserve_13 ?_
    refine v_get hC fX4_28 (by decide) rfl rfl dX4_unserve_14 ?_
    refine v_get hC fX4_118 (by decide) rfl rfl dX4_unserve_17 ?_
    refine v_iload_2 hC dX4_unserve_20 ?_
    refine v_iconst (v := -1) hC dX4_unserve_21 (by decide +kernel) ?_
    refine v_iast hC C_16 (by omega) dX4_unserve_22 ?_
    refine v_iload_1 hC dX4_unserve_23 ?_
    refine v_istore_3 hC (by decide) rfl dX4_unserve_24 ?_
    refine up_loop (fun e : Nat => V X E 25 [some (.ref (adr E 1)), some (.int (nI fr)), some (.int (nI d)), some (.int (nI (fr + e)))] [] (it (fUns (lwl (it0 (gUns fr) d σ) d)) fr e (wr (it0 (gUns fr) d σ) 16 d (-1))) (μ)) (Nat.zero_le (24 - fr)) ?_ (fun e _ he ih2 => ?_)
    · refine v_iload_3 hC dX4_unserve_25 ?_
      refine v_bipush hC dX4_unserve_26 bp_24 ?_
      refine v_icge (tgt := 52) hC dX4_unserve_28 (by decide) (fun h28 => ?_) (fun h28 => absurd (nI_le (by omega) (by omega)) h28)
      refine v_iinc1_2 hC (by decide) rfl dX4_unserve_52 ?_
      refine v_goto (tgt := 2) hC dX4_unserve_55 (by decide) ?_
      exact v_forget_3 ih
    · have hw10 := hwd.w10 (i := d) (by omega)
      have ew : (it (fUns (lwl (it0 (gUns fr) d σ) d)) fr e (wr (it0 (gUns fr) d σ) 16 d (-1))) 13 d = nI (lwl (it0 (gUns fr) d σ) d) := by rw [unsI fr _ _ _ 13 (by decide), wr_ne (by decide)]; exact hwd.w (by omega)
      refine v_iload_3 hC dX4_unserve_25 ?_
      refine v_bipush hC dX4_unserve_26 bp_24 ?_
      refine v_icge (tgt := 52) hC dX4_unserve_28 (by decide) (fun h28 => absurd h28 (nI_ge (by omega) (by omega))) (fun h28 => ?_)
      refine v_aload_0 hC dX4_unserve_31 ?_
      refine v_aload_0 hC dX4_unserve_32 ?_
      refine v_get hC fX4_28 (by decide) rfl rfl dX4_unserve_33 ?_
      refine v_get hC fX4_121 (by decide) rfl rfl dX4_unserve_36 ?_
      refine v_iload_2 hC dX4_unserve_39 ?_
      refine v_iald hC C_13 (by omega) dX4_unserve_40 ?_
      refine v_top (ew) ?_
      refine v_iload_3 hC dX4_unserve_41 ?_
      refine v_iconst hC dX4_unserve_42 ic_0 ?_
      refine v_cv3 hC lX4_123 ⟨by decide, 4, _, rfl, rfl, fun _ _ _ => ⟨_, rfl⟩⟩ (k_X4_setDraw (by omega) (by omega)) ⟨Nat.le_of_ble_eq_true rfl, Nat.le_of_ble_eq_true rfl, rfl, rfl⟩ (Nat.le_of_ble_eq_true rfl) dX4_unserve_43 ?_
      refine v_iinc1_3 hC (by decide) rfl dX4_unserve_46 ?_
      refine v_goto (tgt := 25) hC dX4_unserve_49 (by decide) ?_
      exact ih2
theorem k_X4_roomForDraws {l : Launch} {E : ET} {σ μ : St} {w fr : Nat} (hw : w < 10) (hfr : fr < 24) : Ct l E MX4_roomForDraws [.ref (adr E 1), .int (nI w), .int (nI fr)] (σ) (μ) (some (.int (cRoom σ w fr))) (σ) (μ) := by
  refine Ct.of (L := [some (.ref (adr E 1)), some (.int (nI w)), some (.int (nI fr)), none, none]) (by decide) rfl (Nat.le_of_ble_eq_true rfl) rfl (fun X hC hT => ?_)
  refine v_sipush hC dX4_roomForDraws_0 sp_1000 ?_
  refine v_istore_3 hC (by decide) rfl dX4_roomForDraws_3 ?_
  refine v_iload_2 hC dX4_roomForDraws_4 ?_
  refine v_istore_4 hC (by decide) rfl dX4_roomForDraws_5 ?_
  refine up_loop (fun d : Nat => V X E 7 [some (.ref (adr E 1)), some (.int (nI w)), some (.int (nI fr)), some (.int (it (fRoom σ w) fr d (nI 1000))), some (.int (nI (fr + d)))] [] (σ) (μ)) (Nat.zero_le (24 - fr)) ?_ (fun d _ hd ih => ?_)
  · refine v_iload_4 hC dX4_roomForDraws_7 ?_
    refine v_bipush hC dX4_roomForDraws_9 bp_24 ?_
    refine v_icge (tgt := 49) hC dX4_roomForDraws_11 (by decide) (fun h11 => ?_) (fun h11 => absurd (nI_le (by omega) (by omega)) h11)
    refine v_iload_3 hC dX4_roomForDraws_49 ?_
    exact v_iret hC hT rfl dX4_roomForDraws_50
  · refine v_iload_4 hC dX4_roomForDraws_7 ?_
    refine v_bipush hC dX4_roomForDraws_9 bp_24 ?_
    refine v_icge (tgt := 49) hC dX4_roomForDraws_11 (by decide) (fun h11 => absurd h11 (nI_ge (by omega) (by omega))) (fun h11 => ?_)
    refine v_aload_0 hC dX4_roomForDraws_14 ?_
    refine v_get hC fX4_12 (by decide) rfl rfl dX4_roomForDraws_15 ?_
    refine v_iload_1 hC dX4_roomForDraws_18 ?_
    refine v_iload_4 hC dX4_roomForDraws_19 ?_
    refine v_cv2r hC lX4_53 ⟨by decide, 5, _, rfl, rfl, fun _ _ _ => ⟨_, rfl⟩⟩ (k_X5_isOwnMonth (by omega) (by omega)) ⟨Nat.le_of_ble_eq_true rfl, Nat.le_of_ble_eq_true rfl, rfl, rfl⟩ (Nat.le_of_ble_eq_true rfl) dX4_roomForDraws_21 ?_
    refine v_ifeqb (tgt := 43) hC dX4_roomForDraws_24 (by decide) (fun h24 => ?_) (fun h24 => ?_)
    · refine v_iinc1_4 hC (by decide) rfl dX4_roomForDraws_43 ?_
      refine v_goto (tgt := 7) hC dX4_roomForDraws_46 (by decide) ?_
      exact v_leq_3 (if_neg h24).symm ih
    · refine v_iload_3 hC dX4_roomForDraws_27 ?_
      refine v_sipush hC dX4_roomForDraws_28 sp_1000 ?_
      refine v_aload_0 hC dX4_roomForDraws_31 ?_
      refine v_iload_1 hC dX4_roomForDraws_32 ?_
      refine v_iload_4 hC dX4_roomForDraws_33 ?_
      refine v_cv2r hC lX4_49 ⟨by decide, 4, _, rfl, rfl, fun _ _ _ => ⟨_, rfl⟩⟩ (k_X4_drawOf (by omega) (by omega)) ⟨Nat.le_of_ble_eq_true rfl, Nat.le_of_ble_eq_true rfl, rfl, rfl⟩ (Nat.le_of_ble_eq_true rfl) dX4_roomForDraws_35 ?_
      refine v_isub hC dX4_roomForDraws_38 ?_
      refine v_min hC lX4_114 st_min ini_Math co_min (by decide) (Nat.le_of_ble_eq_true rfl) dX4_roomForDraws_39 ?_
      refine v_istore_3 hC (by decide) rfl dX4_roomForDraws_42 ?_
      refine v_iinc1_4 hC (by decide) rfl dX4_roomForDraws_43 ?_
      refine v_goto (tgt := 7) hC dX4_roomForDraws_46 (by decide) ?_
      exact v_leq_3 (if_pos h24).symm ih
theorem grI (fr w : Nat) (x : Int32) (σ : St) (n : Nat) : Off 20 σ (it (fGr w x) fr n σ) := it_inv (Off 20 σ) n Off.rf (fun i τ _ _ h => by
  unfold fGr
  split
  · exact h.wr
  · exact h)
theorem k_X4_grant {l : Launch} {E : ET} {σ μ : St} (hwc : WC σ) {i fr : Nat} (hi : i < 10) (hfr : fr < 24) (x : Int32) : Ct l E MX4_grant [.ref (adr E 1), .int (nI i), .int (nI fr), .int x] (σ) (μ) (some (.int (cMore σ i fr x))) (cGrant σ i fr x) (μ) := by
  have hw10 := hwc.w10 hi
  refine Ct.of (L := [some (.ref (adr E 1)), some (.int (nI i)), some (.int (nI fr)), some (.int x), none, none, none]) (by decide) rfl (Nat.le_of_ble_eq_true rfl) rfl (fun X hC hT => ?_)
  refine v_aload_0 hC dX4_grant_0 ?_
  refine v_get hC fX4_28 (by decide) rfl rfl dX4_grant_1 ?_
  refine v_get hC fX4_121 (by decide) rfl rfl dX4_grant_4 ?_
  refine v_iload_1 hC dX4_grant_7 ?_
  refine v_iald hC C_13 (by omega) dX4_grant_8 ?_
  refine v_top (hwc.w hi) ?_
  refine v_istore_4 hC (by decide) rfl dX4_grant_9 ?_
  refine v_aload_0 hC dX4_grant_11 ?_
  refine v_get hC fX4_28 (by decide) rfl rfl dX4_grant_12 ?_
  refine v_get hC fX4_127 (by decide) rfl rfl dX4_grant_15 ?_
  refine v_iload_1 hC dX4_grant_18 ?_
  refine v_iald hC C_15 (by omega) dX4_grant_19 ?_
  refine v_iload_3 hC dX4_grant_20 ?_
  refine v_min hC lX4_114 st_min ini_Math co_min (by decide) (Nat.le_of_ble_eq_true rfl) dX4_grant_21 ?_
  refine v_istore_5 hC (by decide) rfl dX4_grant_24 ?_
  refine v_iload_5 hC dX4_grant_26 ?_
  refine v_aload_0 hC dX4_grant_28 ?_
  refine v_iload_4 hC dX4_grant_29 ?_
  refine v_iload_2 hC dX4_grant_31 ?_
  refine v_cv2r hC lX4_130 ⟨by decide, 4, _, rfl, rfl, fun _ _ _ => ⟨_, rfl⟩⟩ (k_X4_roomForDraws (by omega) (by omega)) ⟨Nat.le_of_ble_eq_true rfl, Nat.le_of_ble_eq_true rfl, rfl, rfl⟩ (Nat.le_of_ble_eq_true rfl) dX4_grant_32 ?_
  refine v_min hC lX4_114 st_min ini_Math co_min (by decide) (Nat.le_of_ble_eq_true rfl) dX4_grant_35 ?_
  refine v_istore_5 hC (by decide) rfl dX4_grant_38 ?_
  refine v_iload_2 hC dX4_grant_40 ?_
  refine v_istore_6 hC (by decide) rfl dX4_grant_41 ?_
  refine up_loop (fun d : Nat => V X E 43 [some (.ref (adr E 1)), some (.int (nI i)), some (.int (nI fr)), some (.int x), some (.int (nI (lwl σ i))), some (.int (cMore σ i fr x)), some (.int (nI (fr + d)))] [] (it (fGr (lwl σ i) (cMore σ i fr x)) fr d σ) (μ)) (Nat.zero_le (24 - fr)) ?_ (fun d _ hd ih => ?_)
  · refine v_iload_6 hC dX4_grant_43 ?_
    refine v_bipush hC dX4_grant_45 bp_24 ?_
    refine v_icge (tgt := 89) hC dX4_grant_47 (by decide) (fun h47 => ?_) (fun h47 => absurd (nI_le (by omega) (by omega)) h47)
    refine v_aload_0 hC dX4_grant_89 ?_
    refine v_iload_4 hC dX4_grant_90 ?_
    refine v_iload_2 hC dX4_grant_92 ?_
    refine v_iload_5 hC dX4_grant_93 ?_
    refine v_cv3 hC lX4_133 ⟨by decide, 4, _, rfl, rfl, fun _ _ _ => ⟨_, rfl⟩⟩ (k_X4_useSpare ((grI fr _ _ σ _).wc ne20 hwc) (by omega) _ (by omega)) ⟨Nat.le_of_ble_eq_true rfl, Nat.le_of_ble_eq_true rfl, rfl, rfl⟩ (Nat.le_of_ble_eq_true rfl) dX4_grant_95 ?_
    refine v_aload_0 hC dX4_grant_98 ?_
    refine v_get hC fX4_28 (by decide) rfl rfl dX4_grant_99 ?_
    refine v_get hC fX4_118 (by decide) rfl rfl dX4_grant_102 ?_
    refine v_iload_1 hC dX4_grant_105 ?_
    refine v_iload_5 hC dX4_grant_106 ?_
    refine v_iast hC C_16 (by omega) dX4_grant_108 ?_
    refine v_iload_5 hC dX4_grant_109 ?_
    exact v_iret hC hT rfl dX4_grant_111
  · refine v_iload_6 hC dX4_grant_43 ?_
    refine v_bipush hC dX4_grant_45 bp_24 ?_
    refine v_icge (tgt := 89) hC dX4_grant_47 (by decide) (fun h47 => absurd h47 (nI_ge (by omega) (by omega))) (fun h47 => ?_)
    refine v_aload_0 hC dX4_grant_50 ?_
    refine v_get hC fX4_12 (by decide) rfl rfl dX4_grant_51 ?_
    refine v_iload_4 hC dX4_grant_54 ?_
    refine v_iload_6 hC dX4_grant_56 ?_
    refine v_cv2r hC lX4_53 ⟨by decide, 5, _, rfl, rfl, fun _ _ _ => ⟨_, rfl⟩⟩ (k_X5_isOwnMonth (by omega) (by omega)) ⟨Nat.le_of_ble_eq_true rfl, Nat.le_of_ble_eq_true rfl, rfl, rfl⟩ (Nat.le_of_ble_eq_true rfl) dX4_grant_58 ?_
    refine v_ifeqb (tgt := 83) hC dX4_grant_61 (by decide) (fun h61 => ?_) (fun h61 => ?_)
    · refine v_iinc1_6 hC (by decide) rfl dX4_grant_83 ?_
      refine v_goto (tgt := 43) hC dX4_grant_86 (by decide) ?_
      exact v_world (if_neg h61).symm rfl ih
    · refine v_aload_0 hC dX4_grant_64 ?_
      refine v_iload_4 hC dX4_grant_65 ?_
      refine v_iload_6 hC dX4_grant_67 ?_
      refine v_aload_0 hC dX4_grant_69 ?_
      refine v_iload_4 hC dX4_grant_70 ?_
      refine v_iload_6 hC dX4_grant_72 ?_
      refine v_cv2r hC lX4_49 ⟨by decide, 4, _, rfl, rfl, fun _ _ _ => ⟨_, rfl⟩⟩ (k_X4_drawOf (by omega) (by omega)) ⟨Nat.le_of_ble_eq_true rfl, Nat.le_of_ble_eq_true rfl, rfl, rfl⟩ (Nat.le_of_ble_eq_true rfl) dX4_grant_74 ?_
      refine v_iload_5 hC dX4_grant_77 ?_
      refine v_iadd hC dX4_grant_79 ?_
      refine v_cv3 hC lX4_123 ⟨by decide, 4, _, rfl, rfl, fun _ _ _ => ⟨_, rfl⟩⟩ (k_X4_setDraw (by omega) (by omega)) ⟨Nat.le_of_ble_eq_true rfl, Nat.le_of_ble_eq_true rfl, rfl, rfl⟩ (Nat.le_of_ble_eq_true rfl) dX4_grant_80 ?_
      refine v_iinc1_6 hC (by decide) rfl dX4_grant_83 ?_
      refine v_goto (tgt := 43) hC dX4_grant_86 (by decide) ?_
      exact v_world (if_pos h61).symm rfl ih
theorem k_X4_leastToHold {l : Launch} {E : ET} {σ μ : St} (hwc : WC σ) {w m : Nat} (hw : w < 10) (hm : m < 24) (x : Int32) : Ct l E MX4_leastToHold [.ref (adr E 1), .int (nI w), .int (nI m), .int x] (σ) (μ) (some (.int (cHold σ w m x))) (σ) (μ) := by
  have hr := rwN_228 hwc hw hw
  refine Ct.of (L := [some (.ref (adr E 1)), some (.int (nI w)), some (.int (nI m)), some (.int x), none, none]) (by decide) rfl (Nat.le_of_ble_eq_true rfl) rfl (fun X hC hT => ?_)
  refine v_aload_0 hC dX4_leastToHold_0 ?_
  refine v_get hC fX4_21 (by decide) rfl rfl dX4_leastToHold_1 ?_
  refine v_get hC fX4_80 (by decide) rfl rfl dX4_leastToHold_4 ?_
  refine v_aload_0 hC dX4_leastToHold_7 ?_
  refine v_iload_1 hC dX4_leastToHold_8 ?_
  refine v_iload_1 hC dX4_leastToHold_9 ?_
  refine v_cv2r hC lX4_72 ⟨by decide, 4, _, rfl, rfl, fun _ _ _ => ⟨_, rfl⟩⟩ (k_X4_rowBetween hwc (by omega) (by omega)) ⟨Nat.le_of_ble_eq_true rfl, Nat.le_of_ble_eq_true rfl, rfl, rfl⟩ (Nat.le_of_ble_eq_true rfl) dX4_leastToHold_10 ?_
  refine v_iald hC C_9 (by omega) dX4_leastToHold_13 ?_
  refine v_istore_4 hC (by decide) rfl dX4_leastToHold_14 ?_
  refine v_iload_3 hC dX4_leastToHold_16 ?_
  refine v_aload_0 hC dX4_leastToHold_17 ?_
  refine v_iload_1 hC dX4_leastToHold_18 ?_
  refine v_iload_2 hC dX4_leastToHold_19 ?_
  refine v_cv2r hC lX4_101 ⟨by decide, 4, _, rfl, rfl, fun _ _ _ => ⟨_, rfl⟩⟩ (k_X4_headOf hwc (by omega) (by omega)) ⟨Nat.le_of_ble_eq_true rfl, Nat.le_of_ble_eq_true rfl, rfl, rfl⟩ (Nat.le_of_ble_eq_true rfl) dX4_leastToHold_20 ?_
  refine v_aload_0 hC dX4_leastToHold_23 ?_
  refine v_iload_1 hC dX4_leastToHold_24 ?_
  refine v_iload_2 hC dX4_leastToHold_25 ?_
  refine v_cv2r hC lX4_49 ⟨by decide, 4, _, rfl, rfl, fun _ _ _ => ⟨_, rfl⟩⟩ (k_X4_drawOf (by omega) (by omega)) ⟨Nat.le_of_ble_eq_true rfl, Nat.le_of_ble_eq_true rfl, rfl, rfl⟩ (Nat.le_of_ble_eq_true rfl) dX4_leastToHold_26 ?_
  refine v_iload_4 hC dX4_leastToHold_29 ?_
  refine v_imul hC dX4_leastToHold_31 ?_
  refine v_isub hC dX4_leastToHold_32 ?_
  refine v_isub hC dX4_leastToHold_33 ?_
  refine v_istore_5 hC (by decide) rfl dX4_leastToHold_34 ?_
  refine v_iload_5 hC dX4_leastToHold_36 ?_
  refine v_ifgt (tgt := 43) hC dX4_leastToHold_38 (by decide) (fun h38 => ?_) (fun h38 => ?_)
  · refine v_iload_4 hC dX4_leastToHold_43 ?_
    refine v_ifle (tgt := 61) hC dX4_leastToHold_45 (by decide) (fun h45 => ?_) (fun h45 => ?_)
    · refine v_sipush hC dX4_leastToHold_61 sp_1001 ?_
      exact v_iret hC hT (by rw [cHold, if_neg (Int32.not_le.mpr h38), if_neg (Int32.not_lt.mpr h45)]) dX4_leastToHold_64
    · refine v_iload_5 hC dX4_leastToHold_48 ?_
      refine v_iload_4 hC dX4_leastToHold_50 ?_
      refine v_iadd hC dX4_leastToHold_52 ?_
      refine v_iconst hC dX4_leastToHold_53 ic_1 ?_
      refine v_isub hC dX4_leastToHold_54 ?_
      refine v_iload_4 hC dX4_leastToHold_55 ?_
      refine v_idiv hC dX4_leastToHold_57 (fun q => h45 (by rw [q]; decide)) ?_
      refine v_goto (tgt := 64) hC dX4_leastToHold_58 (by decide) ?_
      exact v_iret hC hT (by rw [cHold, if_neg (Int32.not_le.mpr h38), if_pos (Int32.not_le.mp h45)]) dX4_leastToHold_64
  · refine v_iconst hC dX4_leastToHold_41 ic_0 ?_
    exact v_iret hC hT (by rw [cHold, if_pos (Int32.not_lt.mp h38)]) dX4_leastToHold_42
theorem k_X4_mostToMove {l : Launch} {E : ET} {σ μ : St} (hwc : WC σ) {w m fr : Nat} (hw : w < 10) (hm : m < 24) (hfr : fr < 10) : Ct l E MX4_mostToMove [.ref (adr E 1), .int (nI w), .int (nI m), .int (nI fr)] (σ) (μ) (some (.int (cMove σ w m fr))) (σ) (μ) := by
  have h10 := hwc.n10
  refine Ct.of (L := [some (.ref (adr E 1)), some (.int (nI w)), some (.int (nI m)), some (.int (nI fr)), none, none, none, none, none, none, none, none]) (by decide) rfl (Nat.le_of_ble_eq_true rfl) rfl (fun X hC hT => ?_)
  refine v_aload_0 hC dX4_mostToMove_0 ?_
  refine v_get hC fX4_12 (by decide) rfl rfl dX4_mostToMove_1 ?_
  refine v_iload_1 hC dX4_mostToMove_4 ?_
  refine v_iload_2 hC dX4_mostToMove_5 ?_
  refine v_cv2r hC lX4_53 ⟨by decide, 5, _, rfl, rfl, fun _ _ _ => ⟨_, rfl⟩⟩ (k_X5_isOwnMonth (by omega) (by omega)) ⟨Nat.le_of_ble_eq_true rfl, Nat.le_of_ble_eq_true rfl, rfl, rfl⟩ (Nat.le_of_ble_eq_true rfl) dX4_mostToMove_6 ?_
  refine v_ifneb (tgt := 16) hC dX4_mostToMove_9 (by decide) (fun h9 => ?_) (fun h9 => ?_)
  · refine v_sipush hC dX4_mostToMove_16 sp_1000 ?_
    refine v_istore_4 hC (by decide) rfl dX4_mostToMove_19 ?_
    refine v_aload_0 hC dX4_mostToMove_21 ?_
    refine v_iload_3 hC dX4_mostToMove_22 ?_
    refine v_iload_2 hC dX4_mostToMove_23 ?_
    refine v_cv2r hC lX4_136 ⟨by decide, 4, _, rfl, rfl, fun _ _ _ => ⟨_, rfl⟩⟩ (k_X4_counted hwc (by omega) (by omega)) ⟨Nat.le_of_ble_eq_true rfl, Nat.le_of_ble_eq_true rfl, rfl, rfl⟩ (Nat.le_of_ble_eq_true rfl) dX4_mostToMove_24 ?_
    refine v_istore_5 hC (by decide) rfl dX4_mostToMove_27 ?_
    refine v_iconst hC dX4_mostToMove_29 ic_0 ?_
    refine v_istore_6 hC (by decide) rfl dX4_mostToMove_30 ?_
    refine up_loop (fun d : Nat => V X E 32 [some (.ref (adr E 1)), some (.int (nI w)), some (.int (nI m)), some (.int (nI fr)), some (.int (it0 (gMove σ w m fr) d (nI 1000))), some (.int (cCnt σ fr m)), some (.int (nI d)), none, none, none, none, none] [] (σ) (μ)) (Nat.zero_le (nW σ)) ?_ (fun d _ hd ih => ?_)
    · refine v_iload_6 hC dX4_mostToMove_32 ?_
      refine v_aload_0 hC dX4_mostToMove_34 ?_
      refine v_get hC fX4_12 (by decide) rfl rfl dX4_mostToMove_35 ?_
      refine v_get hC fX4_93 (by decide) rfl rfl dX4_mostToMove_38 ?_
      refine v_icge (tgt := 150) hC dX4_mostToMove_41 (by decide) (fun h41 => ?_) (fun h41 => absurd (by rw [hwc.n]; exact Int32.le_refl _) h41)
      refine v_iload_4 hC dX4_mostToMove_150 ?_
      exact v_iret hC hT (by rw [cMove, if_pos h9]) dX4_mostToMove_152
    · refine v_iload_6 hC dX4_mostToMove_32 ?_
      refine v_aload_0 hC dX4_mostToMove_34 ?_
      refine v_get hC fX4_12 (by decide) rfl rfl dX4_mostToMove_35 ?_
      refine v_get hC fX4_93 (by decide) rfl rfl dX4_mostToMove_38 ?_
      refine v_icge (tgt := 150) hC dX4_mostToMove_41 (by decide) (fun h41 => absurd h41 (by rw [hwc.n]; exact nI_ge hd (by omega))) (fun h41 => ?_)
      refine v_aload_0 hC dX4_mostToMove_44 ?_
      refine v_iload_6 hC dX4_mostToMove_45 ?_
      refine v_iload_1 hC dX4_mostToMove_47 ?_
      refine v_cv2r hC lX4_72 ⟨by decide, 4, _, rfl, rfl, fun _ _ _ => ⟨_, rfl⟩⟩ (k_X4_rowBetween hwc (by omega) (by omega)) ⟨Nat.le_of_ble_eq_true rfl, Nat.le_of_ble_eq_true rfl, rfl, rfl⟩ (Nat.le_of_ble_eq_true rfl) dX4_mostToMove_48 ?_
      refine v_istore_7 hC (by decide) rfl dX4_mostToMove_51 ?_
      refine v_aload_0 hC dX4_mostToMove_53 ?_
      refine v_iload_6 hC dX4_mostToMove_54 ?_
      refine v_iload_3 hC dX4_mostToMove_56 ?_
      refine v_cv2r hC lX4_72 ⟨by decide, 4, _, rfl, rfl, fun _ _ _ => ⟨_, rfl⟩⟩ (k_X4_rowBetween hwc (by omega) (by omega)) ⟨Nat.le_of_ble_eq_true rfl, Nat.le_of_ble_eq_true rfl, rfl, rfl⟩ (Nat.le_of_ble_eq_true rfl) dX4_mostToMove_57 ?_
      refine v_istore_8 hC (by decide) rfl dX4_mostToMove_60 ?_
      refine v_iconst hC dX4_mostToMove_62 ic_0 ?_
      refine v_istore_9 hC (by decide) rfl dX4_mostToMove_63 ?_
      have hr1 := rwN_228 hwc (a := d) (b := w) (by omega) hw
      have hr2 := rwN_228 hwc (a := d) (b := fr) (by omega) hfr
      refine up_loop (fun e : Nat => V X E 65 [some (.ref (adr E 1)), some (.int (nI w)), some (.int (nI m)), some (.int (nI fr)), some (.int (it0 (fMove σ w m fr d) e (it0 (gMove σ w m fr) d (nI 1000)))), some (.int (cCnt σ fr m)), some (.int (nI d)), some (.int (nI (rwN σ d w))), some (.int (nI (rwN σ d fr))), some (.int (nI e)), none, none] [] (σ) (μ)) (Nat.zero_le (min 12 (24 - m))) ?_ (fun e _ he ih2 => ?_)
      · refine v_iload_9 hC dX4_mostToMove_65 ?_
        refine v_bipush hC dX4_mostToMove_67 bp_12 ?_
        refine v_icge (tgt := 144) hC dX4_mostToMove_69 (by decide) (fun h69 => ?_) (fun h69 => ?_)
        · refine v_iinc1_6 hC (by decide) rfl dX4_mostToMove_144 ?_
          refine v_goto (tgt := 32) hC dX4_mostToMove_147 (by decide) ?_
          exact v_forget_7 (v_forget_8 (v_forget_9 ih))
        · refine v_iload_2 hC dX4_mostToMove_72 ?_
          refine v_iload_9 hC dX4_mostToMove_73 ?_
          refine v_iaddN hC dX4_mostToMove_75 ?_
          refine v_bipush hC dX4_mostToMove_76 bp_24 ?_
          refine v_icge (tgt := 144) hC dX4_mostToMove_78 (by decide) (fun h78 => ?_) (fun h78 => ?_)
          · refine v_iinc1_6 hC (by decide) rfl dX4_mostToMove_144 ?_
            refine v_goto (tgt := 32) hC dX4_mostToMove_147 (by decide) ?_
            exact v_forget_7 (v_forget_8 (v_forget_9 ih))
          · exact absurd (nI_le (a := 24) (by have : ¬ 12 ≤ min 12 (24 - m) := fun q => h69 (nI_le q (by omega)); omega) (by omega)) h78
      · refine v_iload_9 hC dX4_mostToMove_65 ?_
        refine v_bipush hC dX4_mostToMove_67 bp_12 ?_
        refine v_icge (tgt := 144) hC dX4_mostToMove_69 (by decide) (fun h69 => absurd h69 (nI_ge (by omega) (by omega))) (fun h69 => ?_)
        refine v_iload_2 hC dX4_mostToMove_72 ?_
        refine v_iload_9 hC dX4_mostToMove_73 ?_
        refine v_iaddN hC dX4_mostToMove_75 ?_
        refine v_bipush hC dX4_mostToMove_76 bp_24 ?_
        refine v_icge (tgt := 144) hC dX4_mostToMove_78 (by decide) (fun h78 => absurd h78 (nI_ge (by omega) (by omega))) (fun h78 => ?_)
        refine v_aload_0 hC dX4_mostToMove_81 ?_
        refine v_get hC fX4_21 (by decide) rfl rfl dX4_mostToMove_82 ?_
        refine v_get hC fX4_80 (by decide) rfl rfl dX4_mostToMove_85 ?_
        refine v_iload_7 hC dX4_mostToMove_88 ?_
        refine v_iload_9 hC dX4_mostToMove_90 ?_
        refine v_iaddN hC dX4_mostToMove_92 ?_
        refine v_iald hC C_9 (by omega) dX4_mostToMove_93 ?_
        refine v_istore_10 hC (by decide) rfl dX4_mostToMove_94 ?_
        refine v_iload_10 hC dX4_mostToMove_96 ?_
        refine v_ifle (tgt := 138) hC dX4_mostToMove_98 (by decide) (fun h98 => ?_) (fun h98 => ?_)
        · refine v_iinc1_9 hC (by decide) rfl dX4_mostToMove_138 ?_
          refine v_goto (tgt := 65) hC dX4_mostToMove_141 (by decide) ?_
          exact v_forget_10 (v_leq_4 (if_pos h98).symm ih2)
        · refine v_iload_5 hC dX4_mostToMove_101 ?_
          refine v_aload_0 hC dX4_mostToMove_103 ?_
          refine v_get hC fX4_21 (by decide) rfl rfl dX4_mostToMove_104 ?_
          refine v_get hC fX4_80 (by decide) rfl rfl dX4_mostToMove_107 ?_
          refine v_iload_8 hC dX4_mostToMove_110 ?_
          refine v_iload_9 hC dX4_mostToMove_112 ?_
          refine v_iaddN hC dX4_mostToMove_114 ?_
          refine v_iald hC C_9 (by omega) dX4_mostToMove_115 ?_
          refine v_imul hC dX4_mostToMove_116 ?_
          refine v_iload_10 hC dX4_mostToMove_117 ?_
          refine v_idiv hC dX4_mostToMove_119 (fun q => h98 (by rw [q]; decide)) ?_
          refine v_istore_11 hC (by decide) rfl dX4_mostToMove_120 ?_
          refine v_iload_4 hC dX4_mostToMove_122 ?_
          refine v_aload_0 hC dX4_mostToMove_124 ?_
          refine v_iload_1 hC dX4_mostToMove_125 ?_
          refine v_iload_2 hC dX4_mostToMove_126 ?_
          refine v_cv2r hC lX4_49 ⟨by decide, 4, _, rfl, rfl, fun _ _ _ => ⟨_, rfl⟩⟩ (k_X4_drawOf (by omega) (by omega)) ⟨Nat.le_of_ble_eq_true rfl, Nat.le_of_ble_eq_true rfl, rfl, rfl⟩ (Nat.le_of_ble_eq_true rfl) dX4_mostToMove_127 ?_
          refine v_iload_11 hC dX4_mostToMove_130 ?_
          refine v_iadd hC dX4_mostToMove_132 ?_
          refine v_min hC lX4_114 st_min ini_Math co_min (by decide) (Nat.le_of_ble_eq_true rfl) dX4_mostToMove_133 ?_
          refine v_istore_4 hC (by decide) rfl dX4_mostToMove_136 ?_
          refine v_iinc1_9 hC (by decide) rfl dX4_mostToMove_138 ?_
          refine v_goto (tgt := 65) hC dX4_mostToMove_141 (by decide) ?_
          exact v_forget_10 (v_forget_11 (v_leq_4 (if_neg h98).symm ih2))
  · refine v_sipush hC dX4_mostToMove_12 sp_1000 ?_
    exact v_iret hC hT (by rw [cMove, if_neg h9]) dX4_mostToMove_15
theorem k_X4_sumOfSquares {l : Launch} {E : ET} {σ μ : St} (hwc : WC σ) : Ct l E MX4_sumOfSquares [.ref (adr E 1)] (σ) (μ) (some (.long (cSq σ))) (σ) (μ) := by
  have h10 := hwc.n10
  refine Ct.of (L := [some (.ref (adr E 1)), none, none, none, none, none, none]) (by decide) rfl (Nat.le_of_ble_eq_true rfl) rfl (fun X hC hT => ?_)
  refine v_lconst hC dX4_sumOfSquares_0 rfl ?_
  refine v_lstore_1 hC (by decide) rfl dX4_sumOfSquares_1 ?_
  refine v_iconst hC dX4_sumOfSquares_2 ic_0 ?_
  refine v_istore_3 hC (by decide) rfl dX4_sumOfSquares_3 ?_
  refine up_loop (fun d : Nat => V X E 4 [some (.ref (adr E 1)), some (.long (it0 (gSq σ) d 0)), none, some (.int (nI d)), none, none, none] [] (σ) (μ)) (Nat.zero_le (nW σ)) ?_ (fun d _ hd ih => ?_)
  · refine v_iload_3 hC dX4_sumOfSquares_4 ?_
    refine v_aload_0 hC dX4_sumOfSquares_5 ?_
    refine v_get hC fX4_12 (by decide) rfl rfl dX4_sumOfSquares_6 ?_
    refine v_get hC fX4_93 (by decide) rfl rfl dX4_sumOfSquares_9 ?_
    refine v_icge (tgt := 79) hC dX4_sumOfSquares_12 (by decide) (fun h12 => ?_) (fun h12 => absurd (by rw [hwc.n]; exact Int32.le_refl _) h12)
    refine v_lload_1 hC dX4_sumOfSquares_79 ?_
    exact v_lret hC hT rfl dX4_sumOfSquares_80
  · refine v_iload_3 hC dX4_sumOfSquares_4 ?_
    refine v_aload_0 hC dX4_sumOfSquares_5 ?_
    refine v_get hC fX4_12 (by decide) rfl rfl dX4_sumOfSquares_6 ?_
    refine v_get hC fX4_93 (by decide) rfl rfl dX4_sumOfSquares_9 ?_
    refine v_icge (tgt := 79) hC dX4_sumOfSquares_12 (by decide) (fun h12 => absurd h12 (by rw [hwc.n]; exact nI_ge hd (by omega))) (fun h12 => ?_)
    refine v_iconst hC dX4_sumOfSquares_15 ic_0 ?_
    refine v_istore_4 hC (by decide) rfl dX4_sumOfSquares_16 ?_
    refine up_loop (fun e : Nat => V X E 18 [some (.ref (adr E 1)), some (.long (it0 (fSq σ d) e (it0 (gSq σ) d 0))), none, some (.int (nI d)), some (.int (nI e)), none, none] [] (σ) (μ)) (Nat.zero_le (24)) ?_ (fun e _ he ih2 => ?_)
    · refine v_iload_4 hC dX4_sumOfSquares_18 ?_
      refine v_bipush hC dX4_sumOfSquares_20 bp_24 ?_
      refine v_icge (tgt := 73) hC dX4_sumOfSquares_22 (by decide) (fun h22 => ?_) (fun h22 => absurd (nI_le (by omega) (by omega)) h22)
      refine v_iinc1_3 hC (by decide) rfl dX4_sumOfSquares_73 ?_
      refine v_goto (tgt := 4) hC dX4_sumOfSquares_76 (by decide) ?_
      exact v_forget_4 ih
    · refine v_iload_4 hC dX4_sumOfSquares_18 ?_
      refine v_bipush hC dX4_sumOfSquares_20 bp_24 ?_
      refine v_icge (tgt := 73) hC dX4_sumOfSquares_22 (by decide) (fun h22 => absurd h22 (nI_ge (by omega) (by omega))) (fun h22 => ?_)
      refine v_aload_0 hC dX4_sumOfSquares_25 ?_
      refine v_get hC fX4_35 (by decide) rfl rfl dX4_sumOfSquares_26 ?_
      refine v_iload_3 hC dX4_sumOfSquares_29 ?_
      refine v_iload_4 hC dX4_sumOfSquares_30 ?_
      refine v_cv2r hC lX4_139 ⟨by decide, 1, _, rfl, rfl, fun _ _ _ => ⟨_, rfl⟩⟩ (k_X1_has (by omega) (by omega)) ⟨Nat.le_of_ble_eq_true rfl, Nat.le_of_ble_eq_true rfl, rfl, rfl⟩ (Nat.le_of_ble_eq_true rfl) dX4_sumOfSquares_32 ?_
      refine v_ifeqb (tgt := 67) hC dX4_sumOfSquares_35 (by decide) (fun h35 => ?_) (fun h35 => ?_)
      · refine v_iinc1_4 hC (by decide) rfl dX4_sumOfSquares_67 ?_
        refine v_goto (tgt := 18) hC dX4_sumOfSquares_70 (by decide) ?_
        exact v_leqJ_1 (if_pos (Classical.not_not.mp h35)).symm ih2
      · refine v_aload_0 hC dX4_sumOfSquares_38 ?_
        refine v_get hC fX4_35 (by decide) rfl rfl dX4_sumOfSquares_39 ?_
        refine v_iload_3 hC dX4_sumOfSquares_42 ?_
        refine v_iload_4 hC dX4_sumOfSquares_43 ?_
        refine v_cv2r hC lX4_142 ⟨by decide, 1, _, rfl, rfl, fun _ _ _ => ⟨_, rfl⟩⟩ (k_X1_at (by omega) (by omega)) ⟨Nat.le_of_ble_eq_true rfl, Nat.le_of_ble_eq_true rfl, rfl, rfl⟩ (Nat.le_of_ble_eq_true rfl) dX4_sumOfSquares_45 ?_
        refine v_aload_0 hC dX4_sumOfSquares_48 ?_
        refine v_iload_3 hC dX4_sumOfSquares_49 ?_
        refine v_iload_4 hC dX4_sumOfSquares_50 ?_
        refine v_cv2r hC lX4_101 ⟨by decide, 4, _, rfl, rfl, fun _ _ _ => ⟨_, rfl⟩⟩ (k_X4_headOf hwc (by omega) (by omega)) ⟨Nat.le_of_ble_eq_true rfl, Nat.le_of_ble_eq_true rfl, rfl, rfl⟩ (Nat.le_of_ble_eq_true rfl) dX4_sumOfSquares_52 ?_
        refine v_isub hC dX4_sumOfSquares_55 ?_
        refine v_i2l hC dX4_sumOfSquares_56 ?_
        refine v_lstore_5 hC (by decide) rfl dX4_sumOfSquares_57 ?_
        refine v_lload_1 hC dX4_sumOfSquares_59 ?_
        refine v_lload_5 hC dX4_sumOfSquares_60 ?_
        refine v_lload_5 hC dX4_sumOfSquares_62 ?_
        refine v_lmul hC dX4_sumOfSquares_64 ?_
        refine v_ladd hC dX4_sumOfSquares_65 ?_
        refine v_lstore_1 hC (by decide) rfl dX4_sumOfSquares_66 ?_
        refine v_iinc1_4 hC (by decide) rfl dX4_sumOfSquares_67 ?_
        refine v_goto (tgt := 18) hC dX4_sumOfSquares_70 (by decide) ?_
        exact v_forget_5 (v_leqJ_1 (if_neg h35).symm ih2)
theorem k_X4_take_23 {l : Launch} {E : ET} {σ μ : St}  : Ct l E MX4_take [.ref (adr E 23), .ref (adr E 1)] (σ) (μ) (none) (takeA σ 1 23) (μ) := by
  refine Ct.of (L := [some (.ref (adr E 23)), some (.ref (adr E 1))]) (by decide) rfl (Nat.le_of_ble_eq_true rfl) rfl (fun X hC hT => ?_)
  refine v_aload_0 hC dX4_take_0 ?_
  refine v_get hC fX4_12 (by decide) rfl rfl dX4_take_1 ?_
  refine v_aload_1 hC dX4_take_4 ?_
  refine v_get hC fX4_12 (by decide) rfl rfl dX4_take_5 ?_
  refine v_cv1 hC lX4_145 ⟨by decide, 5, _, rfl, rfl, fun _ _ _ => ⟨_, rfl⟩⟩ (k_X5_take_23) ⟨Nat.le_of_ble_eq_true rfl, Nat.le_of_ble_eq_true rfl, rfl, rfl⟩ (Nat.le_of_ble_eq_true rfl) dX4_take_8 ?_
  refine v_aload_0 hC dX4_take_11 ?_
  refine v_get hC fX4_21 (by decide) rfl rfl dX4_take_12 ?_
  refine v_aload_1 hC dX4_take_15 ?_
  refine v_get hC fX4_21 (by decide) rfl rfl dX4_take_16 ?_
  refine v_cv1 hC lX4_149 ⟨by decide, 3, _, rfl, rfl, fun _ _ _ => ⟨_, rfl⟩⟩ (k_X3_take_23) ⟨Nat.le_of_ble_eq_true rfl, Nat.le_of_ble_eq_true rfl, rfl, rfl⟩ (Nat.le_of_ble_eq_true rfl) dX4_take_19 ?_
  refine v_aload_0 hC dX4_take_22 ?_
  refine v_get hC fX4_28 (by decide) rfl rfl dX4_take_23 ?_
  refine v_aload_1 hC dX4_take_26 ?_
  refine v_get hC fX4_28 (by decide) rfl rfl dX4_take_27 ?_
  refine v_cv1 hC lX4_152 ⟨by decide, 0, _, rfl, rfl, fun _ _ _ => ⟨_, rfl⟩⟩ (k_X0_take_23) ⟨Nat.le_of_ble_eq_true rfl, Nat.le_of_ble_eq_true rfl, rfl, rfl⟩ (Nat.le_of_ble_eq_true rfl) dX4_take_30 ?_
  refine v_aload_0 hC dX4_take_33 ?_
  refine v_get hC fX4_35 (by decide) rfl rfl dX4_take_34 ?_
  refine v_aload_1 hC dX4_take_37 ?_
  refine v_get hC fX4_35 (by decide) rfl rfl dX4_take_38 ?_
  refine v_cv1 hC lX4_155 ⟨by decide, 1, _, rfl, rfl, fun _ _ _ => ⟨_, rfl⟩⟩ (k_X1_take_23) ⟨Nat.le_of_ble_eq_true rfl, Nat.le_of_ble_eq_true rfl, rfl, rfl⟩ (Nat.le_of_ble_eq_true rfl) dX4_take_41 ?_
  refine v_aload_1 hC dX4_take_44 ?_
  refine v_get hC fX4_39 (by decide) rfl rfl dX4_take_45 ?_
  refine v_aload_0 hC dX4_take_48 ?_
  refine v_get hC fX4_39 (by decide) rfl rfl dX4_take_49 ?_
  refine v_cs2 hC lX4_158 (k_X6_copyRow C_20 C_42) ⟨Nat.le_of_ble_eq_true rfl, Nat.le_of_ble_eq_true rfl, rfl, rfl⟩ (Nat.le_of_ble_eq_true rfl) dX4_take_52 ?_
  refine v_aload_1 hC dX4_take_55 ?_
  refine v_get hC fX4_43 (by decide) rfl rfl dX4_take_56 ?_
  refine v_aload_0 hC dX4_take_59 ?_
  refine v_get hC fX4_43 (by decide) rfl rfl dX4_take_60 ?_
  refine v_cs2 hC lX4_158 (k_X6_copyRow C_21 C_43) ⟨Nat.le_of_ble_eq_true rfl, Nat.le_of_ble_eq_true rfl, rfl, rfl⟩ (Nat.le_of_ble_eq_true rfl) dX4_take_63 ?_
  exact v_vret hC hT rfl dX4_take_66
theorem k_X4_take_1 {l : Launch} {E : ET} {σ μ : St}  : Ct l E MX4_take [.ref (adr E 1), .ref (adr E 23)] (σ) (μ) (none) (takeA σ 23 1) (μ) := by
  refine Ct.of (L := [some (.ref (adr E 1)), some (.ref (adr E 23))]) (by decide) rfl (Nat.le_of_ble_eq_true rfl) rfl (fun X hC hT => ?_)
  refine v_aload_0 hC dX4_take_0 ?_
  refine v_get hC fX4_12 (by decide) rfl rfl dX4_take_1 ?_
  refine v_aload_1 hC dX4_take_4 ?_
  refine v_get hC fX4_12 (by decide) rfl rfl dX4_take_5 ?_
  refine v_cv1 hC lX4_145 ⟨by decide, 5, _, rfl, rfl, fun _ _ _ => ⟨_, rfl⟩⟩ (k_X5_take_1) ⟨Nat.le_of_ble_eq_true rfl, Nat.le_of_ble_eq_true rfl, rfl, rfl⟩ (Nat.le_of_ble_eq_true rfl) dX4_take_8 ?_
  refine v_aload_0 hC dX4_take_11 ?_
  refine v_get hC fX4_21 (by decide) rfl rfl dX4_take_12 ?_
  refine v_aload_1 hC dX4_take_15 ?_
  refine v_get hC fX4_21 (by decide) rfl rfl dX4_take_16 ?_
  refine v_cv1 hC lX4_149 ⟨by decide, 3, _, rfl, rfl, fun _ _ _ => ⟨_, rfl⟩⟩ (k_X3_take_1) ⟨Nat.le_of_ble_eq_true rfl, Nat.le_of_ble_eq_true rfl, rfl, rfl⟩ (Nat.le_of_ble_eq_true rfl) dX4_take_19 ?_
  refine v_aload_0 hC dX4_take_22 ?_
  refine v_get hC fX4_28 (by decide) rfl rfl dX4_take_23 ?_
  refine v_aload_1 hC dX4_take_26 ?_
  refine v_get hC fX4_28 (by decide) rfl rfl dX4_take_27 ?_
  refine v_cv1 hC lX4_152 ⟨by decide, 0, _, rfl, rfl, fun _ _ _ => ⟨_, rfl⟩⟩ (k_X0_take_1) ⟨Nat.le_of_ble_eq_true rfl, Nat.le_of_ble_eq_true rfl, rfl, rfl⟩ (Nat.le_of_ble_eq_true rfl) dX4_take_30 ?_
  refine v_aload_0 hC dX4_take_33 ?_
  refine v_get hC fX4_35 (by decide) rfl rfl dX4_take_34 ?_
  refine v_aload_1 hC dX4_take_37 ?_
  refine v_get hC fX4_35 (by decide) rfl rfl dX4_take_38 ?_
  refine v_cv1 hC lX4_155 ⟨by decide, 1, _, rfl, rfl, fun _ _ _ => ⟨_, rfl⟩⟩ (k_X1_take_1) ⟨Nat.le_of_ble_eq_true rfl, Nat.le_of_ble_eq_true rfl, rfl, rfl⟩ (Nat.le_of_ble_eq_true rfl) dX4_take_41 ?_
  refine v_aload_1 hC dX4_take_44 ?_
  refine v_get hC fX4_39 (by decide) rfl rfl dX4_take_45 ?_
  refine v_aload_0 hC dX4_take_48 ?_
  refine v_get hC fX4_39 (by decide) rfl rfl dX4_take_49 ?_
  refine v_cs2 hC lX4_158 (k_X6_copyRow C_42 C_20) ⟨Nat.le_of_ble_eq_true rfl, Nat.le_of_ble_eq_true rfl, rfl, rfl⟩ (Nat.le_of_ble_eq_true rfl) dX4_take_52 ?_
  refine v_aload_1 hC dX4_take_55 ?_
  refine v_get hC fX4_43 (by decide) rfl rfl dX4_take_56 ?_
  refine v_aload_0 hC dX4_take_59 ?_
  refine v_get hC fX4_43 (by decide) rfl rfl dX4_take_60 ?_
  refine v_cs2 hC lX4_158 (k_X6_copyRow C_43 C_21) ⟨Nat.le_of_ble_eq_true rfl, Nat.le_of_ble_eq_true rfl, rfl, rfl⟩ (Nat.le_of_ble_eq_true rfl) dX4_take_63 ?_
  exact v_vret hC hT rfl dX4_take_66
