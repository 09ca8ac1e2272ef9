theorem k_X7_in {l : Launch} {E : ET} {σ μ : St} (v p q : Int32) : Ct l E MX7_in [.int v, .int p, .int q] (σ) (μ) (some (.int (bI (p ≤ v ∧ v ≤ q)))) (σ) (μ) := by
  refine Ct.of (L := [some (.int v), some (.int p), some (.int q)]) (by decide) rfl (Nat.le_of_ble_eq_true rfl) rfl (fun X hC hT => ?_)
  refine v_iload_0 hC dX7_in_0 ?_
  refine v_iload_1 hC dX7_in_1 ?_
  refine v_iclt (tgt := 14) hC dX7_in_2 (by decide) (fun h2 => ?_) (fun h2 => ?_)
  · refine v_iconst hC dX7_in_14 ic_0 ?_
    exact v_zret hC hT (bI_f (fun q => absurd h2 (Int32.not_lt.mpr q.1))) dX7_in_15
  · refine v_iload_0 hC dX7_in_5 ?_
    refine v_iload_2 hC dX7_in_6 ?_
    refine v_icgt (tgt := 14) hC dX7_in_7 (by decide) (fun h7 => ?_) (fun h7 => ?_)
    · refine v_iconst hC dX7_in_14 ic_0 ?_
      exact v_zret hC hT (bI_f (fun q => absurd h7 (Int32.not_lt.mpr q.2))) dX7_in_15
    · refine v_iconst hC dX7_in_10 ic_1 ?_
      refine v_goto (tgt := 15) hC dX7_in_11 (by decide) ?_
      exact v_zret hC hT (bI_t ⟨Int32.not_lt.mp h2, Int32.not_lt.mp h7⟩) dX7_in_15
theorem k_X7_found {l : Launch} {E : ET} {σ μ : St} (v : Int32) : Ct l E MX7_found [.ref (adr E 54), .int v] (σ) (μ) (some (.int v)) (σ) (mfnd μ) := by
  refine Ct.of (L := [some (.ref (adr E 54)), some (.int v)]) (by decide) rfl (Nat.le_of_ble_eq_true rfl) rfl (fun X hC hT => ?_)
  refine v_aload_0 hC dX7_found_0 ?_
  refine v_dup hC rfl dX7_found_1 ?_
  refine v_get hC fX7_40 (by decide) rfl rfl dX7_found_2 ?_
  refine v_iconst hC dX7_found_5 ic_1 ?_
  refine v_iadd hC dX7_found_6 ?_
  refine w_put (k := 0) hC pX7_40 (by decide) rfl (Nat.le_of_ble_eq_true rfl) rfl dX7_found_7 ?_
  refine v_iload_1 hC dX7_found_10 ?_
  exact v_iretM hC hT rfl dX7_found_11
theorem k_X7_wells {l : Launch} {E : ET} {σ μ : St}  : Ct l E MX7_wells [.ref (adr E 54)] (σ) (μ) (some (.int (μ 1 1086))) (σ) (μ) := by
  refine Ct.of (L := [some (.ref (adr E 54))]) (by decide) rfl (Nat.le_of_ble_eq_true rfl) rfl (fun X hC hT => ?_)
  refine v_aload_0 hC dX7_wells_0 ?_
  refine v_get hC fX7_7 (by decide) rfl rfl dX7_wells_1 ?_
  refine v_sipush hC dX7_wells_4 sp_1086 ?_
  refine w_iald (k := 1) hC N_1 (by first | omega | (simp only [mcl, mRd]; omega)) dX7_wells_7 ?_
  exact v_iret hC hT rfl dX7_wells_8
theorem k_X7_isWell {l : Launch} {E : ET} {σ μ : St} (v : Int32) : Ct l E MX7_isWell [.ref (adr E 54), .int v] (σ) (μ) (some (.int (bI (isMW μ v)))) (σ) (μ) := by
  refine Ct.of (L := [some (.ref (adr E 54)), some (.int v)]) (by decide) rfl (Nat.le_of_ble_eq_true rfl) rfl (fun X hC hT => ?_)
  refine v_iload_1 hC dX7_isWell_0 ?_
  refine v_iconst hC dX7_isWell_1 ic_0 ?_
  refine v_aload_0 hC dX7_isWell_2 ?_
  refine v_cv0r hC lX7_44 ⟨by decide, 7, _, rfl, rfl, fun _ _ _ => ⟨_, rfl⟩⟩ (k_X7_wells) ⟨Nat.le_of_ble_eq_true rfl, Nat.le_of_ble_eq_true rfl, rfl, rfl⟩ (Nat.le_of_ble_eq_true rfl) dX7_isWell_3 ?_
  refine v_iconst hC dX7_isWell_6 ic_1 ?_
  refine v_isub hC dX7_isWell_7 ?_
  refine v_cs3r hC lX7_48 (k_X7_in _ _ _) ⟨Nat.le_of_ble_eq_true rfl, Nat.le_of_ble_eq_true rfl, rfl, rfl⟩ (Nat.le_of_ble_eq_true rfl) dX7_isWell_8 ?_
  exact v_zret hC hT rfl dX7_isWell_11
theorem k_X7_isMonth {l : Launch} {E : ET} {σ μ : St} (v : Int32) : Ct l E MX7_isMonth [.int v] (σ) (μ) (some (.int (bI (isR v 23)))) (σ) (μ) := by
  refine Ct.of (L := [some (.int v)]) (by decide) rfl (Nat.le_of_ble_eq_true rfl) rfl (fun X hC hT => ?_)
  refine v_iload_0 hC dX7_isMonth_0 ?_
  refine v_iconst hC dX7_isMonth_1 ic_0 ?_
  refine v_bipush hC dX7_isMonth_2 bp_23 ?_
  refine v_cs3r hC lX7_48 (k_X7_in _ _ _) ⟨Nat.le_of_ble_eq_true rfl, Nat.le_of_ble_eq_true rfl, rfl, rfl⟩ (Nat.le_of_ble_eq_true rfl) dX7_isMonth_4 ?_
  exact v_zret hC hT rfl dX7_isMonth_7
theorem k_X7_isHead {l : Launch} {E : ET} {σ μ : St} (v : Int32) : Ct l E MX7_isHead [.int v] (σ) (μ) (some (.int (bI (isH v)))) (σ) (μ) := by
  refine Ct.of (L := [some (.int v)]) (by decide) rfl (Nat.le_of_ble_eq_true rfl) rfl (fun X hC hT => ?_)
  refine v_iload_0 hC dX7_isHead_0 ?_
  refine v_ldc hC kX7_52 dX7_isHead_1 ?_
  refine v_ldc hC kX7_53 dX7_isHead_3 ?_
  refine v_cs3r hC lX7_48 (k_X7_in _ _ _) ⟨Nat.le_of_ble_eq_true rfl, Nat.le_of_ble_eq_true rfl, rfl, rfl⟩ (Nat.le_of_ble_eq_true rfl) dX7_isHead_5 ?_
  exact v_zret hC hT rfl dX7_isHead_8
theorem k_X7_isSheet {l : Launch} {E : ET} {σ μ : St} (v : Int32) : Ct l E MX7_isSheet [.int v] (σ) (μ) (some (.int (bI (isR v 3)))) (σ) (μ) := by
  refine Ct.of (L := [some (.int v)]) (by decide) rfl (Nat.le_of_ble_eq_true rfl) rfl (fun X hC hT => ?_)
  refine v_iload_0 hC dX7_isSheet_0 ?_
  refine v_iconst hC dX7_isSheet_1 ic_0 ?_
  refine v_iconst hC dX7_isSheet_2 ic_3 ?_
  refine v_cs3r hC lX7_48 (k_X7_in _ _ _) ⟨Nat.le_of_ble_eq_true rfl, Nat.le_of_ble_eq_true rfl, rfl, rfl⟩ (Nat.le_of_ble_eq_true rfl) dX7_isSheet_3 ?_
  exact v_zret hC hT rfl dX7_isSheet_6
theorem k_X7_told0 {l : Launch} {E : ET} {σ μ : St} {w j : Nat} (hw : w < 10) (hj : j < 5) : Ct l E MX7_told0 [.ref (adr E 54), .int (nI w), .int (nI j)] (σ) (μ) (some (.int (μ 1 (0 + 5 * w + j)))) (σ) (μ) := by
  refine Ct.of (L := [some (.ref (adr E 54)), some (.int (nI w)), some (.int (nI j))]) (by decide) rfl (Nat.le_of_ble_eq_true rfl) rfl (fun X hC hT => ?_)
  refine v_aload_0 hC dX7_told0_0 ?_
  refine v_get hC fX7_7 (by decide) rfl rfl dX7_told0_1 ?_
  refine v_iconst hC dX7_told0_4 ic_0 ?_
  refine v_iconst hC dX7_told0_5 ic_5 ?_
  refine v_iload_1 hC dX7_told0_6 ?_
  refine v_imulN hC dX7_told0_7 ?_
  refine v_iaddN hC dX7_told0_8 ?_
  refine v_iload_2 hC dX7_told0_9 ?_
  refine v_iaddN hC dX7_told0_10 ?_
  refine w_iald (k := 1) hC N_1 (by first | omega | (simp only [mcl, mRd]; omega)) dX7_told0_11 ?_
  exact v_iret hC hT rfl dX7_told0_12
theorem k_X7_kindOf {l : Launch} {E : ET} {σ μ : St} {w : Nat} (hw : w < 10) : Ct l E MX7_kindOf [.ref (adr E 54), .int (nI w)] (σ) (μ) (some (.int (mKind μ w))) (σ) (μ) := by
  refine Ct.of (L := [some (.ref (adr E 54)), some (.int (nI w))]) (by decide) rfl (Nat.le_of_ble_eq_true rfl) rfl (fun X hC hT => ?_)
  refine v_aload_0 hC dX7_kindOf_0 ?_
  refine v_iload_1 hC dX7_kindOf_1 ?_
  refine v_iconst hC dX7_kindOf_2 ic_0 ?_
  refine v_cv2r hC lX7_54 ⟨by decide, 7, _, rfl, rfl, fun _ _ _ => ⟨_, rfl⟩⟩ (k_X7_told0 (by omega) (by omega)) ⟨Nat.le_of_ble_eq_true rfl, Nat.le_of_ble_eq_true rfl, rfl, rfl⟩ (Nat.le_of_ble_eq_true rfl) dX7_kindOf_3 ?_
  exact v_iret hC hT rfl dX7_kindOf_6
theorem k_X7_drawOf {l : Launch} {E : ET} {σ μ : St} {w m : Nat} (hw : w < 10) (hm : m < 24) : Ct l E MX7_drawOf [.ref (adr E 54), .int (nI w), .int (nI m)] (σ) (μ) (some (.int (mDr μ w m))) (σ) (μ) := by
  refine Ct.of (L := [some (.ref (adr E 54)), some (.int (nI w)), some (.int (nI m))]) (by decide) rfl (Nat.le_of_ble_eq_true rfl) rfl (fun X hC hT => ?_)
  refine v_aload_0 hC dX7_drawOf_0 ?_
  refine v_get hC fX7_7 (by decide) rfl rfl dX7_drawOf_1 ?_
  refine v_bipush hC dX7_drawOf_4 bp_50 ?_
  refine v_bipush hC dX7_drawOf_6 bp_24 ?_
  refine v_iload_1 hC dX7_drawOf_8 ?_
  refine v_imulN hC dX7_drawOf_9 ?_
  refine v_iaddN hC dX7_drawOf_10 ?_
  refine v_iload_2 hC dX7_drawOf_11 ?_
  refine v_iaddN hC dX7_drawOf_12 ?_
  refine w_iald (k := 1) hC N_1 (by first | omega | (simp only [mcl, mRd]; omega)) dX7_drawOf_13 ?_
  exact v_iret hC hT rfl dX7_drawOf_14
theorem k_X7_licenceOf {l : Launch} {E : ET} {σ μ : St} {i j : Nat} (hi : i < 10) (hj : j < 4) : Ct l E MX7_licenceOf [.ref (adr E 54), .int (nI i), .int (nI j)] (σ) (μ) (some (.int (μ 1 (566 + 4 * i + j)))) (σ) (μ) := by
  refine Ct.of (L := [some (.ref (adr E 54)), some (.int (nI i)), some (.int (nI j))]) (by decide) rfl (Nat.le_of_ble_eq_true rfl) rfl (fun X hC hT => ?_)
  refine v_aload_0 hC dX7_licenceOf_0 ?_
  refine v_get hC fX7_7 (by decide) rfl rfl dX7_licenceOf_1 ?_
  refine v_sipush hC dX7_licenceOf_4 sp_566 ?_
  refine v_iconst hC dX7_licenceOf_7 ic_4 ?_
  refine v_iload_1 hC dX7_licenceOf_8 ?_
  refine v_imulN hC dX7_licenceOf_9 ?_
  refine v_iaddN hC dX7_licenceOf_10 ?_
  refine v_iload_2 hC dX7_licenceOf_11 ?_
  refine v_iaddN hC dX7_licenceOf_12 ?_
  refine w_iald (k := 1) hC N_1 (by first | omega | (simp only [mcl, mRd]; omega)) dX7_licenceOf_13 ?_
  exact v_iret hC hT rfl dX7_licenceOf_14
theorem k_X7_cell {l : Launch} {E : ET} {σ μ : St} {i d g : Nat} : Ct l E MX7_cell [.int (nI i), .int (nI d), .int (nI g)] (σ) (μ) (some (.int (nI (mcl i d g)))) (σ) (μ) := by
  refine Ct.of (L := [some (.int (nI i)), some (.int (nI d)), some (.int (nI g))]) (by decide) rfl (Nat.le_of_ble_eq_true rfl) rfl (fun X hC hT => ?_)
  refine v_sipush hC dX7_cell_0 sp_290 ?_
  refine v_bipush hC dX7_cell_3 bp_120 ?_
  refine v_iload_0 hC dX7_cell_5 ?_
  refine v_imulN hC dX7_cell_6 ?_
  refine v_iaddN hC dX7_cell_7 ?_
  refine v_bipush hC dX7_cell_8 bp_12 ?_
  refine v_iload_1 hC dX7_cell_10 ?_
  refine v_imulN hC dX7_cell_11 ?_
  refine v_iaddN hC dX7_cell_12 ?_
  refine v_iload_2 hC dX7_cell_13 ?_
  refine v_iaddN hC dX7_cell_14 ?_
  exact v_iret hC hT rfl dX7_cell_15
theorem k_X7_reading {l : Launch} {E : ET} {σ μ : St} {w m : Nat} : Ct l E MX7_reading [.ref (adr E 54), .int (nI w), .int (nI m)] (σ) (μ) (some (.int (nI (mRd w m)))) (σ) (μ) := by
  refine Ct.of (L := [some (.ref (adr E 54)), some (.int (nI w)), some (.int (nI m))]) (by decide) rfl (Nat.le_of_ble_eq_true rfl) rfl (fun X hC hT => ?_)
  refine v_sipush hC dX7_reading_0 sp_606 ?_
  refine v_iconst hC dX7_reading_3 ic_2 ?_
  refine v_bipush hC dX7_reading_4 bp_24 ?_
  refine v_iload_1 hC dX7_reading_6 ?_
  refine v_imulN hC dX7_reading_7 ?_
  refine v_iload_2 hC dX7_reading_8 ?_
  refine v_iaddN hC dX7_reading_9 ?_
  refine v_imulN hC dX7_reading_10 ?_
  refine v_iaddN hC dX7_reading_11 ?_
  exact v_iret hC hT rfl dX7_reading_12
theorem k_X7_isNone {l : Launch} {E : ET} {σ μ : St} (b : Int32) : Ct l E MX7_isNone [.int b] (σ) (μ) (some (.int (bI (noNum b)))) (σ) (μ) := by
  refine Ct.of (L := [some (.int b)]) (by decide) rfl (Nat.le_of_ble_eq_true rfl) rfl (fun X hC hT => ?_)
  refine v_iload_0 hC dX7_isNone_0 ?_
  refine v_ldc hC kX7_89 dX7_isNone_1 ?_
  refine v_iand hC dX7_isNone_3 ?_
  refine v_ldc hC kX7_90 dX7_isNone_4 ?_
  refine v_icle (tgt := 13) hC dX7_isNone_6 (by decide) (fun h6 => ?_) (fun h6 => ?_)
  · refine v_iconst hC dX7_isNone_13 ic_0 ?_
    exact v_zret hC hT (bI_f (Int32.not_lt.mpr h6)) dX7_isNone_14
  · refine v_iconst hC dX7_isNone_9 ic_1 ?_
    refine v_goto (tgt := 14) hC dX7_isNone_10 (by decide) ?_
    exact v_zret hC hT (bI_t (Int32.not_le.mp h6)) dX7_isNone_14
theorem k_X7_apart {l : Launch} {E : ET} {σ μ : St} (hwm : WM μ) {i j : Nat} (ha : i < 10) (hb : j < 10) : Ct l E MX7_apart [.ref (adr E 54), .int (nI i), .int (nI j)] (σ) (μ) (some (.int (nI (mapN μ i j)))) (σ) (μ) := by
  refine Ct.of (L := [some (.ref (adr E 54)), some (.int (nI i)), some (.int (nI j)), none, none, none]) (by decide) rfl (Nat.le_of_ble_eq_true rfl) rfl (fun X hC hT => ?_)
  refine v_aload_0 hC dX7_apart_0 ?_
  refine v_iload_1 hC dX7_apart_1 ?_
  refine v_iconst hC dX7_apart_2 ic_1 ?_
  refine v_cv2r hC lX7_54 ⟨by decide, 7, _, rfl, rfl, fun _ _ _ => ⟨_, rfl⟩⟩ (k_X7_told0 (by omega) (by omega)) ⟨Nat.le_of_ble_eq_true rfl, Nat.le_of_ble_eq_true rfl, rfl, rfl⟩ (Nat.le_of_ble_eq_true rfl) dX7_apart_3 ?_
  refine v_aload_0 hC dX7_apart_6 ?_
  refine v_iload_2 hC dX7_apart_7 ?_
  refine v_iconst hC dX7_apart_8 ic_1 ?_
  refine v_cv2r hC lX7_54 ⟨by decide, 7, _, rfl, rfl, fun _ _ _ => ⟨_, rfl⟩⟩ (k_X7_told0 (by omega) (by omega)) ⟨Nat.le_of_ble_eq_true rfl, Nat.le_of_ble_eq_true rfl, rfl, rfl⟩ (Nat.le_of_ble_eq_true rfl) dX7_apart_9 ?_
  refine v_isub hC dX7_apart_12 ?_
  refine v_istore_3 hC (by decide) rfl dX7_apart_13 ?_
  refine v_aload_0 hC dX7_apart_14 ?_
  refine v_iload_1 hC dX7_apart_15 ?_
  refine v_iconst hC dX7_apart_16 ic_2 ?_
  refine v_cv2r hC lX7_54 ⟨by decide, 7, _, rfl, rfl, fun _ _ _ => ⟨_, rfl⟩⟩ (k_X7_told0 (by omega) (by omega)) ⟨Nat.le_of_ble_eq_true rfl, Nat.le_of_ble_eq_true rfl, rfl, rfl⟩ (Nat.le_of_ble_eq_true rfl) dX7_apart_17 ?_
  refine v_aload_0 hC dX7_apart_20 ?_
  refine v_iload_2 hC dX7_apart_21 ?_
  refine v_iconst hC dX7_apart_22 ic_2 ?_
  refine v_cv2r hC lX7_54 ⟨by decide, 7, _, rfl, rfl, fun _ _ _ => ⟨_, rfl⟩⟩ (k_X7_told0 (by omega) (by omega)) ⟨Nat.le_of_ble_eq_true rfl, Nat.le_of_ble_eq_true rfl, rfl, rfl⟩ (Nat.le_of_ble_eq_true rfl) dX7_apart_23 ?_
  refine v_isub hC dX7_apart_26 ?_
  refine v_istore_4 hC (by decide) rfl dX7_apart_27 ?_
  refine v_iload_3 hC dX7_apart_29 ?_
  refine v_ifge (tgt := 38) hC dX7_apart_30 (by decide) (fun h30 => ?_) (fun h30 => ?_)
  · refine v_iload_3 hC dX7_apart_38 ?_
    refine v_top (show _ = sab _ from (if_pos h30).symm) ?_
    refine v_istore_3 hC (by decide) rfl dX7_apart_39 ?_
    refine v_iload_4 hC dX7_apart_40 ?_
    refine v_ifge (tgt := 51) hC dX7_apart_42 (by decide) (fun h42 => ?_) (fun h42 => ?_)
    · refine v_iload_4 hC dX7_apart_51 ?_
      refine v_top (show _ = sab _ from (if_pos h42).symm) ?_
      refine v_istore_4 hC (by decide) rfl dX7_apart_53 ?_
      refine v_iload_3 hC dX7_apart_55 ?_
      refine v_iload_4 hC dX7_apart_56 ?_
      refine v_icle (tgt := 65) hC dX7_apart_58 (by decide) (fun h58 => ?_) (fun h58 => ?_)
      · refine v_iload_4 hC dX7_apart_65 ?_
        refine v_top (show _ = gmx _ _ from (if_pos h58).symm) ?_
        refine v_istore_5 hC (by decide) rfl dX7_apart_67 ?_
        refine v_iload_5 hC dX7_apart_69 ?_
        refine v_bipush hC dX7_apart_71 bp_9 ?_
        refine v_icle (tgt := 81) hC dX7_apart_73 (by decide) (fun h73 => ?_) (fun h73 => ?_)
        · refine v_iload_5 hC dX7_apart_81 ?_
          refine v_top (show _ = cap9 _ from (if_pos h73).symm) ?_
          exact v_iret hC hT (by rw [← mAp_N hwm ha hb]; rfl) dX7_apart_83
        · refine v_bipush hC dX7_apart_76 bp_9 ?_
          refine v_goto (tgt := 83) hC dX7_apart_78 (by decide) ?_
          refine v_top (show _ = cap9 _ from (if_neg h73).symm) ?_
          exact v_iret hC hT (by rw [← mAp_N hwm ha hb]; rfl) dX7_apart_83
      · refine v_iload_3 hC dX7_apart_61 ?_
        refine v_goto (tgt := 67) hC dX7_apart_62 (by decide) ?_
        refine v_top (show _ = gmx _ _ from (if_neg h58).symm) ?_
        refine v_istore_5 hC (by decide) rfl dX7_apart_67 ?_
        refine v_iload_5 hC dX7_apart_69 ?_
        refine v_bipush hC dX7_apart_71 bp_9 ?_
        refine v_icle (tgt := 81) hC dX7_apart_73 (by decide) (fun h73 => ?_) (fun h73 => ?_)
        · refine v_iload_5 hC dX7_apart_81 ?_
          refine v_top (show _ = cap9 _ from (if_pos h73).symm) ?_
          exact v_iret hC hT (by rw [← mAp_N hwm ha hb]; rfl) dX7_apart_83
        · refine v_bipush hC dX7_apart_76 bp_9 ?_
          refine v_goto (tgt := 83) hC dX7_apart_78 (by decide) ?_
          refine v_top (show _ = cap9 _ from (if_neg h73).symm) ?_
          exact v_iret hC hT (by rw [← mAp_N hwm ha hb]; rfl) dX7_apart_83
    · refine v_iload_4 hC dX7_apart_45 ?_
      refine v_ineg hC dX7_apart_47 ?_
      refine v_goto (tgt := 53) hC dX7_apart_48 (by decide) ?_
      refine v_top (show _ = sab _ from (if_neg h42).symm) ?_
      refine v_istore_4 hC (by decide) rfl dX7_apart_53 ?_
      refine v_iload_3 hC dX7_apart_55 ?_
      refine v_iload_4 hC dX7_apart_56 ?_
      refine v_icle (tgt := 65) hC dX7_apart_58 (by decide) (fun h58 => ?_) (fun h58 => ?_)
      · refine v_iload_4 hC dX7_apart_65 ?_
        refine v_top (show _ = gmx _ _ from (if_pos h58).symm) ?_
        refine v_istore_5 hC (by decide) rfl dX7_apart_67 ?_
        refine v_iload_5 hC dX7_apart_69 ?_
        refine v_bipush hC dX7_apart_71 bp_9 ?_
        refine v_icle (tgt := 81) hC dX7_apart_73 (by decide) (fun h73 => ?_) (fun h73 => ?_)
        · refine v_iload_5 hC dX7_apart_81 ?_
          refine v_top (show _ = cap9 _ from (if_pos h73).symm) ?_
          exact v_iret hC hT (by rw [← mAp_N hwm ha hb]; rfl) dX7_apart_83
        · refine v_bipush hC dX7_apart_76 bp_9 ?_
          refine v_goto (tgt := 83) hC dX7_apart_78 (by decide) ?_
          refine v_top (show _ = cap9 _ from (if_neg h73).symm) ?_
          exact v_iret hC hT (by rw [← mAp_N hwm ha hb]; rfl) dX7_apart_83
      · refine v_iload_3 hC dX7_apart_61 ?_
        refine v_goto (tgt := 67) hC dX7_apart_62 (by decide) ?_
        refine v_top (show _ = gmx _ _ from (if_neg h58).symm) ?_
        refine v_istore_5 hC (by decide) rfl dX7_apart_67 ?_
        refine v_iload_5 hC dX7_apart_69 ?_
        refine v_bipush hC dX7_apart_71 bp_9 ?_
        refine v_icle (tgt := 81) hC dX7_apart_73 (by decide) (fun h73 => ?_) (fun h73 => ?_)
        · refine v_iload_5 hC dX7_apart_81 ?_
          refine v_top (show _ = cap9 _ from (if_pos h73).symm) ?_
          exact v_iret hC hT (by rw [← mAp_N hwm ha hb]; rfl) dX7_apart_83
        · refine v_bipush hC dX7_apart_76 bp_9 ?_
          refine v_goto (tgt := 83) hC dX7_apart_78 (by decide) ?_
          refine v_top (show _ = cap9 _ from (if_neg h73).symm) ?_
          exact v_iret hC hT (by rw [← mAp_N hwm ha hb]; rfl) dX7_apart_83
  · refine v_iload_3 hC dX7_apart_33 ?_
    refine v_ineg hC dX7_apart_34 ?_
    refine v_goto (tgt := 39) hC dX7_apart_35 (by decide) ?_
    refine v_top (show _ = sab _ from (if_neg h30).symm) ?_
    refine v_istore_3 hC (by decide) rfl dX7_apart_39 ?_
    refine v_iload_4 hC dX7_apart_40 ?_
    refine v_ifge (tgt := 51) hC dX7_apart_42 (by decide) (fun h42 => ?_) (fun h42 => ?_)
    · refine v_iload_4 hC dX7_apart_51 ?_
      refine v_top (show _ = sab _ from (if_pos h42).symm) ?_
      refine v_istore_4 hC (by decide) rfl dX7_apart_53 ?_
      refine v_iload_3 hC dX7_apart_55 ?_
      refine v_iload_4 hC dX7_apart_56 ?_
      refine v_icle (tgt := 65) hC dX7_apart_58 (by decide) (fun h58 => ?_) (fun h58 => ?_)
      · refine v_iload_4 hC dX7_apart_65 ?_
        refine v_top (show _ = gmx _ _ from (if_pos h58).symm) ?_
        refine v_istore_5 hC (by decide) rfl dX7_apart_67 ?_
        refine v_iload_5 hC dX7_apart_69 ?_
        refine v_bipush hC dX7_apart_71 bp_9 ?_
        refine v_icle (tgt := 81) hC dX7_apart_73 (by decide) (fun h73 => ?_) (fun h73 => ?_)
        · refine v_iload_5 hC dX7_apart_81 ?_
          refine v_top (show _ = cap9 _ from (if_pos h73).symm) ?_
          exact v_iret hC hT (by rw [← mAp_N hwm ha hb]; rfl) dX7_apart_83
        · refine v_bipush hC dX7_apart_76 bp_9 ?_
          refine v_goto (tgt := 83) hC dX7_apart_78 (by decide) ?_
          refine v_top (show _ = cap9 _ from (if_neg h73).symm) ?_
          exact v_iret hC hT (by rw [← mAp_N hwm ha hb]; rfl) dX7_apart_83
      · refine v_iload_3 hC dX7_apart_61 ?_
        refine v_goto (tgt := 67) hC dX7_apart_62 (by decide) ?_
        refine v_top (show _ = gmx _ _ from (if_neg h58).symm) ?_
        refine v_istore_5 hC (by decide) rfl dX7_apart_67 ?_
        refine v_iload_5 hC dX7_apart_69 ?_
        refine v_bipush hC dX7_apart_71 bp_9 ?_
        refine v_icle (tgt := 81) hC dX7_apart_73 (by decide) (fun h73 => ?_) (fun h73 => ?_)
        · refine v_iload_5 hC dX7_apart_81 ?_
          refine v_top (show _ = cap9 _ from (if_pos h73).symm) ?_
          exact v_iret hC hT (by rw [← mAp_N hwm ha hb]; rfl) dX7_apart_83
        · refine v_bipush hC dX7_apart_76 bp_9 ?_
          refine v_goto (tgt := 83) hC dX7_apart_78 (by decide) ?_
          refine v_top (show _ = cap9 _ from (if_neg h73).symm) ?_
          exact v_iret hC hT (by rw [← mAp_N hwm ha hb]; rfl) dX7_apart_83
    · refine v_iload_4 hC dX7_apart_45 ?_
      refine v_ineg hC dX7_apart_47 ?_
      refine v_goto (tgt := 53) hC dX7_apart_48 (by decide) ?_
      refine v_top (show _ = sab _ from (if_neg h42).symm) ?_
      refine v_istore_4 hC (by decide) rfl dX7_apart_53 ?_
      refine v_iload_3 hC dX7_apart_55 ?_
      refine v_iload_4 hC dX7_apart_56 ?_
      refine v_icle (tgt := 65) hC dX7_apart_58 (by decide) (fun h58 => ?_) (fun h58 => ?_)
      · refine v_iload_4 hC dX7_apart_65 ?_
        refine v_top (show _ = gmx _ _ from (if_pos h58).symm) ?_
        refine v_istore_5 hC (by decide) rfl dX7_apart_67 ?_
        refine v_iload_5 hC dX7_apart_69 ?_
        refine v_bipush hC dX7_apart_71 bp_9 ?_
        refine v_icle (tgt := 81) hC dX7_apart_73 (by decide) (fun h73 => ?_) (fun h73 => ?_)
        · refine v_iload_5 hC dX7_apart_81 ?_
          refine v_top (show _ = cap9 _ from (if_pos h73).symm) ?_
          exact v_iret hC hT (by rw [← mAp_N hwm ha hb]; rfl) dX7_apart_83
        · refine v_bipush hC dX7_apart_76 bp_9 ?_
          refine v_goto (tgt := 83) hC dX7_apart_78 (by decide) ?_
          refine v_top (show _ = cap9 _ from (if_neg h73).symm) ?_
          exact v_iret hC hT (by rw [← mAp_N hwm ha hb]; rfl) dX7_apart_83
      · refine v_iload_3 hC dX7_apart_61 ?_
        refine v_goto (tgt := 67) hC dX7_apart_62 (by decide) ?_
        refine v_top (show _ = gmx _ _ from (if_neg h58).symm) ?_
        refine v_istore_5 hC (by decide) rfl dX7_apart_67 ?_
        refine v_iload_5 hC dX7_apart_69 ?_
        refine v_bipush hC dX7_apart_71 bp_9 ?_
        refine v_icle (tgt := 81) hC dX7_apart_73 (by decide) (fun h73 => ?_) (fun h73 => ?_)
        · refine v_iload_5 hC dX7_apart_81 ?_
          refine v_top (show _ = cap9 _ from (if_pos h73).symm) ?_
          exact v_iret hC hT (by rw [← mAp_N hwm ha hb]; rfl) dX7_apart_83
        · refine v_bipush hC dX7_apart_76 bp_9 ?_
          refine v_goto (tgt := 83) hC dX7_apart_78 (by decide) ?_
          refine v_top (show _ = cap9 _ from (if_neg h73).symm) ?_
          exact v_iret hC hT (by rw [← mAp_N hwm ha hb]; rfl) dX7_apart_83
theorem k_X7_cut {l : Launch} {E : ET} {σ μ : St} (b : Int32) : Ct l E MX7_cut [.int b] (σ) (μ) (some (.int (mCut b))) (σ) (μ) := by
  refine Ct.of (L := [some (.int b), none, none, none]) (by decide) rfl (Nat.le_of_ble_eq_true rfl) rfl (fun X hC hT => ?_)
  refine v_iload_0 hC dX7_cut_0 ?_
  refine v_bipush hC dX7_cut_1 bp_23 ?_
  refine v_ishr hC dX7_cut_3 ?_
  refine v_sipush hC dX7_cut_4 sp_255 ?_
  refine v_iand hC dX7_cut_7 ?_
  refine v_bipush hC dX7_cut_8 bp_127 ?_
  refine v_isub hC dX7_cut_10 ?_
  refine v_istore_1 hC (by decide) rfl dX7_cut_11 ?_
  refine v_iload_0 hC dX7_cut_12 ?_
  refine v_ldc hC kX7_96 dX7_cut_13 ?_
  refine v_iand hC dX7_cut_15 ?_
  refine v_ldc hC kX7_97 dX7_cut_16 ?_
  refine v_ior hC dX7_cut_18 ?_
  refine v_istore_2 hC (by decide) rfl dX7_cut_19 ?_
  refine v_iload_1 hC dX7_cut_20 ?_
  refine v_ifge (tgt := 28) hC dX7_cut_21 (by decide) (fun h21 => ?_) (fun h21 => ?_)
  · refine v_iload_1 hC dX7_cut_28 ?_
    refine v_bipush hC dX7_cut_29 bp_10 ?_
    refine v_icle (tgt := 40) hC dX7_cut_31 (by decide) (fun h31 => ?_) (fun h31 => ?_)
    · refine v_iload_2 hC dX7_cut_40 ?_
      refine v_bipush hC dX7_cut_41 bp_23 ?_
      refine v_iload_1 hC dX7_cut_43 ?_
      refine v_isub hC dX7_cut_44 ?_
      refine v_ishr hC dX7_cut_45 ?_
      refine v_istore_3 hC (by decide) rfl dX7_cut_46 ?_
      refine v_iload_0 hC dX7_cut_47 ?_
      refine v_ifge (tgt := 56) hC dX7_cut_48 (by decide) (fun h48 => ?_) (fun h48 => ?_)
      · refine v_iload_3 hC dX7_cut_56 ?_
        exact v_iret hC hT (by rw [mCut, if_pos h48, if_pos h21, if_pos h31]) dX7_cut_57
      · refine v_iload_3 hC dX7_cut_51 ?_
        refine v_ineg hC dX7_cut_52 ?_
        refine v_goto (tgt := 57) hC dX7_cut_53 (by decide) ?_
        exact v_iret hC hT (by rw [mCut, if_neg h48, if_pos h21, if_pos h31]) dX7_cut_57
    · refine v_sipush hC dX7_cut_34 sp_2000 ?_
      refine v_goto (tgt := 46) hC dX7_cut_37 (by decide) ?_
      refine v_istore_3 hC (by decide) rfl dX7_cut_46 ?_
      refine v_iload_0 hC dX7_cut_47 ?_
      refine v_ifge (tgt := 56) hC dX7_cut_48 (by decide) (fun h48 => ?_) (fun h48 => ?_)
      · refine v_iload_3 hC dX7_cut_56 ?_
        exact v_iret hC hT (by rw [mCut, if_pos h48, if_pos h21, if_neg h31]) dX7_cut_57
      · refine v_iload_3 hC dX7_cut_51 ?_
        refine v_ineg hC dX7_cut_52 ?_
        refine v_goto (tgt := 57) hC dX7_cut_53 (by decide) ?_
        exact v_iret hC hT (by rw [mCut, if_neg h48, if_pos h21, if_neg h31]) dX7_cut_57
  · refine v_iconst hC dX7_cut_24 ic_0 ?_
    refine v_goto (tgt := 46) hC dX7_cut_25 (by decide) ?_
    refine v_istore_3 hC (by decide) rfl dX7_cut_46 ?_
    refine v_iload_0 hC dX7_cut_47 ?_
    refine v_ifge (tgt := 56) hC dX7_cut_48 (by decide) (fun h48 => ?_) (fun h48 => ?_)
    · refine v_iload_3 hC dX7_cut_56 ?_
      exact v_iret hC hT (by rw [mCut, if_pos h48, if_neg h21]) dX7_cut_57
    · refine v_iload_3 hC dX7_cut_51 ?_
      refine v_ineg hC dX7_cut_52 ?_
      refine v_goto (tgt := 57) hC dX7_cut_53 (by decide) ?_
      exact v_iret hC hT (by rw [mCut, if_neg h48, if_neg h21]) dX7_cut_57
theorem k_X7_sign {l : Launch} {E : ET} {σ μ : St} {w m : Nat} (hw : w < 10) (hm : m < 24) : Ct l E MX7_sign [.ref (adr E 54), .int (nI w), .int (nI m)] (σ) (μ) (some (.int (mSgn μ w m))) (σ) (μ) := by
  refine Ct.of (L := [some (.ref (adr E 54)), some (.int (nI w)), some (.int (nI m)), none]) (by decide) rfl (Nat.le_of_ble_eq_true rfl) rfl (fun X hC hT => ?_)
  refine v_aload_0 hC dX7_sign_0 ?_
  refine v_iload_1 hC dX7_sign_1 ?_
  refine v_cv1r hC lX7_71 ⟨by decide, 7, _, rfl, rfl, fun _ _ _ => ⟨_, rfl⟩⟩ (k_X7_kindOf (by omega)) ⟨Nat.le_of_ble_eq_true rfl, Nat.le_of_ble_eq_true rfl, rfl, rfl⟩ (Nat.le_of_ble_eq_true rfl) dX7_sign_2 ?_
  refine v_istore_3 hC (by decide) rfl dX7_sign_5 ?_
  refine v_iload_3 hC dX7_sign_6 ?_
  refine v_iconst hC dX7_sign_7 ic_2 ?_
  refine v_icne (tgt := 26) hC dX7_sign_8 (by decide) (fun h8 => ?_) (fun h8 => ?_)
  · refine v_iload_3 hC dX7_sign_26 ?_
    refine v_iconst hC dX7_sign_27 ic_5 ?_
    refine v_icne (tgt := 35) hC dX7_sign_28 (by decide) (fun h28 => ?_) (fun h28 => ?_)
    · refine v_iload_3 hC dX7_sign_35 ?_
      refine v_iconst hC dX7_sign_36 ic_3 ?_
      refine v_iceq (tgt := 45) hC dX7_sign_37 (by decide) (fun h37 => ?_) (fun h37 => ?_)
      · refine v_iconst (v := -1) hC dX7_sign_45 (by decide +kernel) ?_
        refine v_goto (tgt := 50) hC dX7_sign_46 (by decide) ?_
        exact v_iret hC hT (by rw [mSgn, if_neg h8, if_neg h28, if_pos (Or.inl h37)]) dX7_sign_50
      · refine v_iload_3 hC dX7_sign_40 ?_
        refine v_iconst hC dX7_sign_41 ic_4 ?_
        refine v_icne (tgt := 49) hC dX7_sign_42 (by decide) (fun h42 => ?_) (fun h42 => ?_)
        · refine v_iconst hC dX7_sign_49 ic_1 ?_
          exact v_iret hC hT (by rw [mSgn, if_neg h8, if_neg h28, if_neg (fun q => q.elim h37 h42)]) dX7_sign_50
        · refine v_iconst (v := -1) hC dX7_sign_45 (by decide +kernel) ?_
          refine v_goto (tgt := 50) hC dX7_sign_46 (by decide) ?_
          exact v_iret hC hT (by rw [mSgn, if_neg h8, if_neg h28, if_pos (Or.inr h42)]) dX7_sign_50
    · refine v_iconst hC dX7_sign_31 ic_0 ?_
      refine v_goto (tgt := 50) hC dX7_sign_32 (by decide) ?_
      exact v_iret hC hT (by rw [mSgn, if_neg h8, if_pos h28]) dX7_sign_50
  · refine v_iload_1 hC dX7_sign_11 ?_
    refine v_iconst hC dX7_sign_12 ic_2 ?_
    refine v_irem hC dX7_sign_13 (by decide) ?_
    refine v_iload_2 hC dX7_sign_14 ?_
    refine v_iconst hC dX7_sign_15 ic_2 ?_
    refine v_irem hC dX7_sign_16 (by decide) ?_
    refine v_icne (tgt := 24) hC dX7_sign_17 (by decide) (fun h17 => ?_) (fun h17 => ?_)
    · refine v_iconst hC dX7_sign_24 ic_0 ?_
      exact v_iret hC hT (by rw [mSgn, if_pos h8, if_neg (by rw [rem2 (by omega), rem2 (by omega)] at h17; exact fun q => h17 (by rw [q]))]) dX7_sign_25
    · refine v_iconst hC dX7_sign_20 ic_1 ?_
      refine v_goto (tgt := 25) hC dX7_sign_21 (by decide) ?_
      exact v_iret hC hT (by rw [mSgn, if_pos h8, if_pos ((nI_eq (by omega) (by omega)).mp (by rw [rem2 (by omega), rem2 (by omega)] at h17; exact h17))]) dX7_sign_25
theorem k_X7_share {l : Launch} {E : ET} {σ μ : St} (hwm : WM μ) {p w : Nat} (hp : p < 10) (hw : w < 10) (g : Int32) : Ct l E MX7_share [.ref (adr E 54), .int (nI p), .int (nI w), .int g] (σ) (μ) (some (.int (mSh μ p w g))) (σ) (μ) := by
  refine Ct.of (L := [some (.ref (adr E 54)), some (.int (nI p)), some (.int (nI w)), some (.int g), none]) (by decide) rfl (Nat.le_of_ble_eq_true rfl) rfl (fun X hC hT => ?_)
  refine v_iload_3 hC dX7_share_0 ?_
  refine v_iconst hC dX7_share_1 ic_0 ?_
  refine v_bipush hC dX7_share_2 bp_11 ?_
  refine v_cs3r hC lX7_48 (k_X7_in _ _ _) ⟨Nat.le_of_ble_eq_true rfl, Nat.le_of_ble_eq_true rfl, rfl, rfl⟩ (Nat.le_of_ble_eq_true rfl) dX7_share_4 ?_
  refine v_ifneb (tgt := 12) hC dX7_share_7 (by decide) (fun h7 => ?_) (fun h7 => ?_)
  · refine v_aload_0 hC dX7_share_12 ?_
    refine v_iload_1 hC dX7_share_13 ?_
    refine v_cv1r hC lX7_71 ⟨by decide, 7, _, rfl, rfl, fun _ _ _ => ⟨_, rfl⟩⟩ (k_X7_kindOf (by omega)) ⟨Nat.le_of_ble_eq_true rfl, Nat.le_of_ble_eq_true rfl, rfl, rfl⟩ (Nat.le_of_ble_eq_true rfl) dX7_share_14 ?_
    refine v_iconst hC dX7_share_17 ic_1 ?_
    refine v_icne (tgt := 25) hC dX7_share_18 (by decide) (fun h18 => ?_) (fun h18 => ?_)
    · refine v_iconst hC dX7_share_25 ic_0 ?_
      refine v_aload_0 hC dX7_share_26 ?_
      refine v_iload_2 hC dX7_share_27 ?_
      refine v_cv1r hC lX7_71 ⟨by decide, 7, _, rfl, rfl, fun _ _ _ => ⟨_, rfl⟩⟩ (k_X7_kindOf (by omega)) ⟨Nat.le_of_ble_eq_true rfl, Nat.le_of_ble_eq_true rfl, rfl, rfl⟩ (Nat.le_of_ble_eq_true rfl) dX7_share_28 ?_
      refine v_iconst hC dX7_share_31 ic_1 ?_
      refine v_icne (tgt := 39) hC dX7_share_32 (by decide) (fun h32 => ?_) (fun h32 => ?_)
      · refine v_iconst hC dX7_share_39 ic_0 ?_
        refine v_iceq (tgt := 47) hC dX7_share_40 (by decide) (fun h40 => ?_) (fun h40 => absurd rfl h40)
        refine v_iconst hC dX7_share_47 ic_0 ?_
        refine v_top (show _ = nI (mly μ p w) from by rw [mly, if_pos (iff_of_false h18 h32)]) ?_
        have hly := mly_1 μ p w
        have hap := mapN_9 hwm hp hw
        obtain ⟨g, hg, rfl⟩ := isR_nat (by decide) h7
        refine v_istore_4 hC (by decide) rfl dX7_share_48 ?_
        refine v_aload_0 hC dX7_share_50 ?_
        refine v_get hC fX7_7 (by decide) rfl rfl dX7_share_51 ?_
        refine v_iload_4 hC dX7_share_54 ?_
        refine v_aload_0 hC dX7_share_56 ?_
        refine v_iload_1 hC dX7_share_57 ?_
        refine v_iload_2 hC dX7_share_58 ?_
        refine v_cv2r hC lX7_78 ⟨by decide, 7, _, rfl, rfl, fun _ _ _ => ⟨_, rfl⟩⟩ (k_X7_apart hwm (by omega) (by omega)) ⟨Nat.le_of_ble_eq_true rfl, Nat.le_of_ble_eq_true rfl, rfl, rfl⟩ (Nat.le_of_ble_eq_true rfl) dX7_share_59 ?_
        refine v_iload_3 hC dX7_share_62 ?_
        refine v_cs3r hC lX7_81 (k_X7_cell) ⟨Nat.le_of_ble_eq_true rfl, Nat.le_of_ble_eq_true rfl, rfl, rfl⟩ (Nat.le_of_ble_eq_true rfl) dX7_share_63 ?_
        refine w_iald (k := 1) hC N_1 (by first | omega | (simp only [mcl, mRd]; omega)) dX7_share_66 ?_
        exact v_iret hC hT (by rw [mSh, if_pos h7, tnI (j := g) (by omega)]) dX7_share_67
      · refine v_iconst hC dX7_share_35 ic_1 ?_
        refine v_goto (tgt := 40) hC dX7_share_36 (by decide) ?_
        refine v_iceq (tgt := 47) hC dX7_share_40 (by decide) (fun h40 => absurd h40 (by decide)) (fun h40 => ?_)
        refine v_iconst hC dX7_share_43 ic_1 ?_
        refine v_goto (tgt := 48) hC dX7_share_44 (by decide) ?_
        refine v_top (show _ = nI (mly μ p w) from by rw [mly, if_neg (fun q => h18 (q.mpr h32))]) ?_
        have hly := mly_1 μ p w
        have hap := mapN_9 hwm hp hw
        obtain ⟨g, hg, rfl⟩ := isR_nat (by decide) h7
        refine v_istore_4 hC (by decide) rfl dX7_share_48 ?_
        refine v_aload_0 hC dX7_share_50 ?_
        refine v_get hC fX7_7 (by decide) rfl rfl dX7_share_51 ?_
        refine v_iload_4 hC dX7_share_54 ?_
        refine v_aload_0 hC dX7_share_56 ?_
        refine v_iload_1 hC dX7_share_57 ?_
        refine v_iload_2 hC dX7_share_58 ?_
        refine v_cv2r hC lX7_78 ⟨by decide, 7, _, rfl, rfl, fun _ _ _ => ⟨_, rfl⟩⟩ (k_X7_apart hwm (by omega) (by omega)) ⟨Nat.le_of_ble_eq_true rfl, Nat.le_of_ble_eq_true rfl, rfl, rfl⟩ (Nat.le_of_ble_eq_true rfl) dX7_share_59 ?_
        refine v_iload_3 hC dX7_share_62 ?_
        refine v_cs3r hC lX7_81 (k_X7_cell) ⟨Nat.le_of_ble_eq_true rfl, Nat.le_of_ble_eq_true rfl, rfl, rfl⟩ (Nat.le_of_ble_eq_true rfl) dX7_share_63 ?_
        refine w_iald (k := 1) hC N_1 (by first | omega | (simp only [mcl, mRd]; omega)) dX7_share_66 ?_
        exact v_iret hC hT (by rw [mSh, if_pos h7, tnI (j := g) (by omega)]) dX7_share_67
    · refine v_iconst hC dX7_share_21 ic_1 ?_
      refine v_goto (tgt := 26) hC dX7_share_22 (by decide) ?_
      refine v_aload_0 hC dX7_share_26 ?_
      refine v_iload_2 hC dX7_share_27 ?_
      refine v_cv1r hC lX7_71 ⟨by decide, 7, _, rfl, rfl, fun _ _ _ => ⟨_, rfl⟩⟩ (k_X7_kindOf (by omega)) ⟨Nat.le_of_ble_eq_true rfl, Nat.le_of_ble_eq_true rfl, rfl, rfl⟩ (Nat.le_of_ble_eq_true rfl) dX7_share_28 ?_
      refine v_iconst hC dX7_share_31 ic_1 ?_
      refine v_icne (tgt := 39) hC dX7_share_32 (by decide) (fun h32 => ?_) (fun h32 => ?_)
      · refine v_iconst hC dX7_share_39 ic_0 ?_
        refine v_iceq (tgt := 47) hC dX7_share_40 (by decide) (fun h40 => absurd h40 (by decide)) (fun h40 => ?_)
        refine v_iconst hC dX7_share_43 ic_1 ?_
        refine v_goto (tgt := 48) hC dX7_share_44 (by decide) ?_
        refine v_top (show _ = nI (mly μ p w) from by rw [mly, if_neg (fun q => h32 (q.mp h18))]) ?_
        have hly := mly_1 μ p w
        have hap := mapN_9 hwm hp hw
        obtain ⟨g, hg, rfl⟩ := isR_nat (by decide) h7
        refine v_istore_4 hC (by decide) rfl dX7_share_48 ?_
        refine v_aload_0 hC dX7_share_50 ?_
        refine v_get hC fX7_7 (by decide) rfl rfl dX7_share_51 ?_
        refine v_iload_4 hC dX7_share_54 ?_
        refine v_aload_0 hC dX7_share_56 ?_
        refine v_iload_1 hC dX7_share_57 ?_
        refine v_iload_2 hC dX7_share_58 ?_
        refine v_cv2r hC lX7_78 ⟨by decide, 7, _, rfl, rfl, fun _ _ _ => ⟨_, rfl⟩⟩ (k_X7_apart hwm (by omega) (by omega)) ⟨Nat.le_of_ble_eq_true rfl, Nat.le_of_ble_eq_true rfl, rfl, rfl⟩ (Nat.le_of_ble_eq_true rfl) dX7_share_59 ?_
        refine v_iload_3 hC dX7_share_62 ?_
        refine v_cs3r hC lX7_81 (k_X7_cell) ⟨Nat.le_of_ble_eq_true rfl, Nat.le_of_ble_eq_true rfl, rfl, rfl⟩ (Nat.le_of_ble_eq_true rfl) dX7_share_63 ?_
        refine w_iald (k := 1) hC N_1 (by first | omega | (simp only [mcl, mRd]; omega)) dX7_share_66 ?_
        exact v_iret hC hT (by rw [mSh, if_pos h7, tnI (j := g) (by omega)]) dX7_share_67
      · refine v_iconst hC dX7_share_35 ic_1 ?_
        refine v_goto (tgt := 40) hC dX7_share_36 (by decide) ?_
        refine v_iceq (tgt := 47) hC dX7_share_40 (by decide) (fun h40 => ?_) (fun h40 => absurd rfl h40)
        refine v_iconst hC dX7_share_47 ic_0 ?_
        refine v_top (show _ = nI (mly μ p w) from by rw [mly, if_pos (iff_of_true h18 h32)]) ?_
        have hly := mly_1 μ p w
        have hap := mapN_9 hwm hp hw
        obtain ⟨g, hg, rfl⟩ := isR_nat (by decide) h7
        refine v_istore_4 hC (by decide) rfl dX7_share_48 ?_
        refine v_aload_0 hC dX7_share_50 ?_
        refine v_get hC fX7_7 (by decide) rfl rfl dX7_share_51 ?_
        refine v_iload_4 hC dX7_share_54 ?_
        refine v_aload_0 hC dX7_share_56 ?_
        refine v_iload_1 hC dX7_share_57 ?_
        refine v_iload_2 hC dX7_share_58 ?_
        refine v_cv2r hC lX7_78 ⟨by decide, 7, _, rfl, rfl, fun _ _ _ => ⟨_, rfl⟩⟩ (k_X7_apart hwm (by omega) (by omega)) ⟨Nat.le_of_ble_eq_true rfl, Nat.le_of_ble_eq_true rfl, rfl, rfl⟩ (Nat.le_of_ble_eq_true rfl) dX7_share_59 ?_
        refine v_iload_3 hC dX7_share_62 ?_
        refine v_cs3r hC lX7_81 (k_X7_cell) ⟨Nat.le_of_ble_eq_true rfl, Nat.le_of_ble_eq_true rfl, rfl, rfl⟩ (Nat.le_of_ble_eq_true rfl) dX7_share_63 ?_
        refine w_iald (k := 1) hC N_1 (by first | omega | (simp only [mcl, mRd]; omega)) dX7_share_66 ?_
        exact v_iret hC hT (by rw [mSh, if_pos h7, tnI (j := g) (by omega)]) dX7_share_67
  · refine v_iconst hC dX7_share_10 ic_0 ?_
    exact v_iret hC hT (by rw [mSh, if_neg h7]) dX7_share_11
theorem k_X7_lowering {l : Launch} {E : ET} {σ μ : St} (hwm : WM μ) {p n w fr : Nat} (hp : p < 10) (hn : n < 24) (hw : w < 10) (hfr : fr < 24) : Ct l E MX7_lowering [.ref (adr E 54), .int (nI p), .int (nI n), .int (nI w), .int (nI fr)] (σ) (μ) (some (.int (mLow μ p n w fr))) (σ) (μ) := by
  refine Ct.of (L := [some (.ref (adr E 54)), some (.int (nI p)), some (.int (nI n)), some (.int (nI w)), some (.int (nI fr)), none, none]) (by decide) rfl (Nat.le_of_ble_eq_true rfl) rfl (fun X hC hT => ?_)
  refine v_iconst hC dX7_lowering_0 ic_0 ?_
  refine v_istore_5 hC (by decide) rfl dX7_lowering_1 ?_
  refine v_iload_4 hC dX7_lowering_3 ?_
  refine v_istore_6 hC (by decide) rfl dX7_lowering_5 ?_
  refine up_loop (fun d : Nat => V X E 7 [some (.ref (adr E 54)), some (.int (nI p)), some (.int (nI n)), some (.int (nI w)), some (.int (nI fr)), some (.int (it (fmLow μ p n w) fr d (nI 0))), some (.int (nI (fr + d)))] [] (σ) (μ)) (Nat.zero_le (24 - fr)) ?_ (fun d _ hd ih => ?_)
  · refine v_iload_6 hC dX7_lowering_7 ?_
    refine v_bipush hC dX7_lowering_9 bp_24 ?_
    refine v_icge (tgt := 51) hC dX7_lowering_11 (by decide) (fun h11 => ?_) (fun h11 => absurd (nI_le (by omega) (by omega)) h11)
    refine v_iload_5 hC dX7_lowering_51 ?_
    exact v_iret hC hT rfl dX7_lowering_53
  · refine v_iload_6 hC dX7_lowering_7 ?_
    refine v_bipush hC dX7_lowering_9 bp_24 ?_
    refine v_icge (tgt := 51) hC dX7_lowering_11 (by decide) (fun h11 => absurd h11 (nI_ge (by omega) (by omega))) (fun h11 => ?_)
    refine v_iload_5 hC dX7_lowering_14 ?_
    refine v_aload_0 hC dX7_lowering_16 ?_
    refine v_iload_3 hC dX7_lowering_17 ?_
    refine v_iload_6 hC dX7_lowering_18 ?_
    refine v_cv2r hC lX7_105 ⟨by decide, 7, _, rfl, rfl, fun _ _ _ => ⟨_, rfl⟩⟩ (k_X7_sign (by omega) (by omega)) ⟨Nat.le_of_ble_eq_true rfl, Nat.le_of_ble_eq_true rfl, rfl, rfl⟩ (Nat.le_of_ble_eq_true rfl) dX7_lowering_20 ?_
    refine v_aload_0 hC dX7_lowering_23 ?_
    refine v_iload_3 hC dX7_lowering_24 ?_
    refine v_iload_6 hC dX7_lowering_25 ?_
    refine v_cv2r hC lX7_75 ⟨by decide, 7, _, rfl, rfl, fun _ _ _ => ⟨_, rfl⟩⟩ (k_X7_drawOf (by omega) (by omega)) ⟨Nat.le_of_ble_eq_true rfl, Nat.le_of_ble_eq_true rfl, rfl, rfl⟩ (Nat.le_of_ble_eq_true rfl) dX7_lowering_27 ?_
    refine v_imul hC dX7_lowering_30 ?_
    refine v_aload_0 hC dX7_lowering_31 ?_
    refine v_iload_1 hC dX7_lowering_32 ?_
    refine v_iload_3 hC dX7_lowering_33 ?_
    refine v_iload_2 hC dX7_lowering_34 ?_
    refine v_iload_6 hC dX7_lowering_35 ?_
    refine v_isub hC dX7_lowering_37 ?_
    refine v_cv3r hC lX7_108 ⟨by decide, 7, _, rfl, rfl, fun _ _ _ => ⟨_, rfl⟩⟩ (k_X7_share hwm (by omega) (by omega) _) ⟨Nat.le_of_ble_eq_true rfl, Nat.le_of_ble_eq_true rfl, rfl, rfl⟩ (Nat.le_of_ble_eq_true rfl) dX7_lowering_38 ?_
    refine v_imul hC dX7_lowering_41 ?_
    refine v_iadd hC dX7_lowering_42 ?_
    refine v_istore_5 hC (by decide) rfl dX7_lowering_43 ?_
    refine v_iinc1_6 hC (by decide) rfl dX7_lowering_45 ?_
    refine v_goto (tgt := 7) hC dX7_lowering_48 (by decide) ?_
    exact ih
theorem k_X7_rainOf {l : Launch} {E : ET} {σ μ : St} {n : Nat} (hn : n < 24) : Ct l E MX7_rainOf [.ref (adr E 54), .int (nI n)] (σ) (μ) (some (.int (mRain μ n))) (σ) (μ) := by
  refine Ct.of (L := [some (.ref (adr E 54)), some (.int (nI n)), none, none]) (by decide) rfl (Nat.le_of_ble_eq_true rfl) rfl (fun X hC hT => ?_)
  refine v_iconst hC dX7_rainOf_0 ic_0 ?_
  refine v_istore_2 hC (by decide) rfl dX7_rainOf_1 ?_
  refine v_iconst hC dX7_rainOf_2 ic_0 ?_
  refine v_istore_3 hC (by decide) rfl dX7_rainOf_3 ?_
  refine up_loop (fun d : Nat => V X E 4 [some (.ref (adr E 54)), some (.int (nI n)), some (.int (it0 (fmRain μ n) d (nI 0))), some (.int (nI d))] [] (σ) (μ)) (Nat.zero_le (n + 1)) ?_ (fun d _ hd ih => ?_)
  · refine v_iload_3 hC dX7_rainOf_4 ?_
    refine v_iload_1 hC dX7_rainOf_5 ?_
    refine v_icgt (tgt := 53) hC dX7_rainOf_6 (by decide) (fun h6 => ?_) (fun h6 => absurd (nI_lt (by omega) (by omega)) h6)
    refine v_iload_2 hC dX7_rainOf_53 ?_
    exact v_iret hC hT rfl dX7_rainOf_54
  · refine v_iload_3 hC dX7_rainOf_4 ?_
    refine v_iload_1 hC dX7_rainOf_5 ?_
    refine v_icgt (tgt := 53) hC dX7_rainOf_6 (by decide) (fun h6 => absurd h6 (nI_nlt (by omega) (by omega))) (fun h6 => ?_)
    refine v_iload_2 hC dX7_rainOf_9 ?_
    refine v_iload_1 hC dX7_rainOf_10 ?_
    refine v_iload_3 hC dX7_rainOf_11 ?_
    refine v_isubN hC dX7_rainOf_12 (by omega) ?_
    refine v_bipush hC dX7_rainOf_13 bp_11 ?_
    refine v_icle (tgt := 22) hC dX7_rainOf_15 (by decide) (fun h15 => ?_) (fun h15 => ?_)
    · refine v_aload_0 hC dX7_rainOf_22 ?_
      refine v_get hC fX7_7 (by decide) rfl rfl dX7_rainOf_23 ?_
      refine v_sipush hC dX7_rainOf_26 sp_542 ?_
      refine v_iload_3 hC dX7_rainOf_29 ?_
      refine v_iaddN hC dX7_rainOf_30 ?_
      refine w_iald (k := 1) hC N_1 (by first | omega | (simp only [mcl, mRd]; omega)) dX7_rainOf_31 ?_
      refine v_aload_0 hC dX7_rainOf_32 ?_
      refine v_get hC fX7_7 (by decide) rfl rfl dX7_rainOf_33 ?_
      refine v_sipush hC dX7_rainOf_36 sp_530 ?_
      refine v_iload_1 hC dX7_rainOf_39 ?_
      refine v_iaddN hC dX7_rainOf_40 ?_
      refine v_iload_3 hC dX7_rainOf_41 ?_
      refine v_isubN hC dX7_rainOf_42 (by omega) ?_
      refine w_iald (k := 1) hC N_1 (by have := (nI_leI (by omega) (by omega)).mp h15; omega) dX7_rainOf_43 ?_
      refine v_imul hC dX7_rainOf_44 ?_
      refine v_top (y := if nI (n - d) ≤ nI 11 then μ 1 (542 + d) * μ 1 (530 + n - d) else nI 0) (if_pos h15).symm ?_
      refine v_iadd hC dX7_rainOf_45 ?_
      refine v_istore_2 hC (by decide) rfl dX7_rainOf_46 ?_
      refine v_iinc1_3 hC (by decide) rfl dX7_rainOf_47 ?_
      refine v_goto (tgt := 4) hC dX7_rainOf_50 (by decide) ?_
      exact ih
    · refine v_iconst hC dX7_rainOf_18 ic_0 ?_
      refine v_goto (tgt := 45) hC dX7_rainOf_19 (by decide) ?_
      refine v_top (y := if nI (n - d) ≤ nI 11 then μ 1 (542 + d) * μ 1 (530 + n - d) else nI 0) (if_neg h15).symm ?_
      refine v_iadd hC dX7_rainOf_45 ?_
      refine v_istore_2 hC (by decide) rfl dX7_rainOf_46 ?_
      refine v_iinc1_3 hC (by decide) rfl dX7_rainOf_47 ?_
      refine v_goto (tgt := 4) hC dX7_rainOf_50 (by decide) ?_
      exact ih
theorem k_X7_headOf {l : Launch} {E : ET} {σ μ : St} (hwm : WM μ) {p n : Nat} (hp : p < 10) (hn : n < 24) : Ct l E MX7_headOf [.ref (adr E 54), .int (nI p), .int (nI n)] (σ) (μ) (some (.int (mHead μ p n))) (σ) (μ) := by
  have h10 := hwm.n10
  refine Ct.of (L := [some (.ref (adr E 54)), some (.int (nI p)), some (.int (nI n)), none, none]) (by decide) rfl (Nat.le_of_ble_eq_true rfl) rfl (fun X hC hT => ?_)
  refine v_aload_0 hC dX7_headOf_0 ?_
  refine v_iload_1 hC dX7_headOf_1 ?_
  refine v_iconst hC dX7_headOf_2 ic_3 ?_
  refine v_cv2r hC lX7_54 ⟨by decide, 7, _, rfl, rfl, fun _ _ _ => ⟨_, rfl⟩⟩ (k_X7_told0 (by omega) (by omega)) ⟨Nat.le_of_ble_eq_true rfl, Nat.le_of_ble_eq_true rfl, rfl, rfl⟩ (Nat.le_of_ble_eq_true rfl) dX7_headOf_3 ?_
  refine v_aload_0 hC dX7_headOf_6 ?_
  refine v_iload_2 hC dX7_headOf_7 ?_
  refine v_cv1r hC lX7_111 ⟨by decide, 7, _, rfl, rfl, fun _ _ _ => ⟨_, rfl⟩⟩ (k_X7_rainOf (by omega)) ⟨Nat.le_of_ble_eq_true rfl, Nat.le_of_ble_eq_true rfl, rfl, rfl⟩ (Nat.le_of_ble_eq_true rfl) dX7_headOf_8 ?_
  refine v_iadd hC dX7_headOf_11 ?_
  refine v_istore_3 hC (by decide) rfl dX7_headOf_12 ?_
  refine v_iconst hC dX7_headOf_13 ic_0 ?_
  refine v_istore_4 hC (by decide) rfl dX7_headOf_14 ?_
  refine up_loop (fun d : Nat => V X E 16 [some (.ref (adr E 54)), some (.int (nI p)), some (.int (nI n)), some (.int (it0 (fmHead μ p n) d (μ 1 (0 + 5 * p + 3) + mRain μ n))), some (.int (nI d))] [] (σ) (μ)) (Nat.zero_le (mN μ)) ?_ (fun d _ hd ih => ?_)
  · refine v_iload_4 hC dX7_headOf_16 ?_
    refine v_aload_0 hC dX7_headOf_18 ?_
    refine v_cv0r hC lX7_44 ⟨by decide, 7, _, rfl, rfl, fun _ _ _ => ⟨_, rfl⟩⟩ (k_X7_wells) ⟨Nat.le_of_ble_eq_true rfl, Nat.le_of_ble_eq_true rfl, rfl, rfl⟩ (Nat.le_of_ble_eq_true rfl) dX7_headOf_19 ?_
    refine v_icge (tgt := 43) hC dX7_headOf_22 (by decide) (fun h22 => ?_) (fun h22 => absurd (by rw [hwm.n]; exact Int32.le_refl _) h22)
    refine v_iload_3 hC dX7_headOf_43 ?_
    exact v_iret hC hT rfl dX7_headOf_44
  · refine v_iload_4 hC dX7_headOf_16 ?_
    refine v_aload_0 hC dX7_headOf_18 ?_
    refine v_cv0r hC lX7_44 ⟨by decide, 7, _, rfl, rfl, fun _ _ _ => ⟨_, rfl⟩⟩ (k_X7_wells) ⟨Nat.le_of_ble_eq_true rfl, Nat.le_of_ble_eq_true rfl, rfl, rfl⟩ (Nat.le_of_ble_eq_true rfl) dX7_headOf_19 ?_
    refine v_icge (tgt := 43) hC dX7_headOf_22 (by decide) (fun h22 => absurd h22 (by rw [hwm.n]; exact nI_ge hd (by omega))) (fun h22 => ?_)
    refine v_iload_3 hC dX7_headOf_25 ?_
    refine v_aload_0 hC dX7_headOf_26 ?_
    refine v_iload_1 hC dX7_headOf_27 ?_
    refine v_iload_2 hC dX7_headOf_28 ?_
    refine v_iload_4 hC dX7_headOf_29 ?_
    refine v_iconst hC dX7_headOf_31 ic_0 ?_
    refine v_cv4r hC lX7_114 ⟨by decide, 7, _, rfl, rfl, fun _ _ _ => ⟨_, rfl⟩⟩ (k_X7_lowering hwm (by omega) (by omega) (by omega) (by omega)) ⟨Nat.le_of_ble_eq_true rfl, Nat.le_of_ble_eq_true rfl, rfl, rfl⟩ (Nat.le_of_ble_eq_true rfl) dX7_headOf_32 ?_
    refine v_isub hC dX7_headOf_35 ?_
    refine v_istore_3 hC (by decide) rfl dX7_headOf_36 ?_
    refine v_iinc1_4 hC (by decide) rfl dX7_headOf_37 ?_
    refine v_goto (tgt := 16) hC dX7_headOf_40 (by decide) ?_
    exact ih
theorem k_X7_above {l : Launch} {E : ET} {σ μ : St} (hwm : WM μ) {p n : Nat} (hp : p < 10) (hn : n < 24) : Ct l E MX7_above [.ref (adr E 54), .int (nI p), .int (nI n)] (σ) (μ) (some (.int (mAbv μ p n))) (σ) (μ) := by
  refine Ct.of (L := [some (.ref (adr E 54)), some (.int (nI p)), some (.int (nI n))]) (by decide) rfl (Nat.le_of_ble_eq_true rfl) rfl (fun X hC hT => ?_)
  refine v_aload_0 hC dX7_above_0 ?_
  refine v_iload_1 hC dX7_above_1 ?_
  refine v_iload_2 hC dX7_above_2 ?_
  refine v_cv2r hC lX7_118 ⟨by decide, 7, _, rfl, rfl, fun _ _ _ => ⟨_, rfl⟩⟩ (k_X7_headOf hwm (by omega) (by omega)) ⟨Nat.le_of_ble_eq_true rfl, Nat.le_of_ble_eq_true rfl, rfl, rfl⟩ (Nat.le_of_ble_eq_true rfl) dX7_above_3 ?_
  refine v_aload_0 hC dX7_above_6 ?_
  refine v_iload_1 hC dX7_above_7 ?_
  refine v_iconst hC dX7_above_8 ic_4 ?_
  refine v_cv2r hC lX7_54 ⟨by decide, 7, _, rfl, rfl, fun _ _ _ => ⟨_, rfl⟩⟩ (k_X7_told0 (by omega) (by omega)) ⟨Nat.le_of_ble_eq_true rfl, Nat.le_of_ble_eq_true rfl, rfl, rfl⟩ (Nat.le_of_ble_eq_true rfl) dX7_above_9 ?_
  refine v_isub hC dX7_above_12 ?_
  exact v_iret hC hT rfl dX7_above_13
theorem k_X7_isFree {l : Launch} {E : ET} {σ μ : St} (hwm : WM μ) {fr : Nat} (hfr : fr < 24) (q : Int32) : Ct l E MX7_isFree [.ref (adr E 54), .int (nI fr), .int q] (σ) (μ) (some (.int (bI (mIsF μ fr q)))) (σ) (μ) := by
  have h10 := hwm.n10
  refine Ct.of (L := [some (.ref (adr E 54)), some (.int (nI fr)), some (.int q), none, none, none]) (by decide) rfl (Nat.le_of_ble_eq_true rfl) rfl (fun X hC hT => ?_)
  refine v_iconst hC dX7_isFree_0 ic_0 ?_
  refine v_istore_3 hC (by decide) rfl dX7_isFree_1 ?_
  refine up_loop (fun d : Nat => (∀ p, p < d → ∀ i, i < 24 - fr → okF μ p (fr + i) q) → V X E 2 [some (.ref (adr E 54)), some (.int (nI fr)), some (.int q), some (.int (nI d)), none, none] [] (σ) (μ)) (Nat.zero_le (mN μ)) (fun hx => ?_) (fun d _ hd ih hx => ?_) (fun i hi => absurd hi (Nat.not_lt_zero i))
  · refine v_iload_3 hC dX7_isFree_2 ?_
    refine v_aload_0 hC dX7_isFree_3 ?_
    refine v_cv0r hC lX7_44 ⟨by decide, 7, _, rfl, rfl, fun _ _ _ => ⟨_, rfl⟩⟩ (k_X7_wells) ⟨Nat.le_of_ble_eq_true rfl, Nat.le_of_ble_eq_true rfl, rfl, rfl⟩ (Nat.le_of_ble_eq_true rfl) dX7_isFree_4 ?_
    refine v_icge (tgt := 86) hC dX7_isFree_7 (by decide) (fun h7 => ?_) (fun h7 => absurd (by rw [hwm.n]; exact Int32.le_refl _) h7)
    refine v_iconst hC dX7_isFree_86 ic_1 ?_
    exact v_zret hC hT (bI_t hx) dX7_isFree_87
  · refine v_iload_3 hC dX7_isFree_2 ?_
    refine v_aload_0 hC dX7_isFree_3 ?_
    refine v_cv0r hC lX7_44 ⟨by decide, 7, _, rfl, rfl, fun _ _ _ => ⟨_, rfl⟩⟩ (k_X7_wells) ⟨Nat.le_of_ble_eq_true rfl, Nat.le_of_ble_eq_true rfl, rfl, rfl⟩ (Nat.le_of_ble_eq_true rfl) dX7_isFree_4 ?_
    refine v_icge (tgt := 86) hC dX7_isFree_7 (by decide) (fun h7 => absurd h7 (by rw [hwm.n]; exact nI_ge hd (by omega))) (fun h7 => ?_)
    refine v_iload_1 hC dX7_isFree_10 ?_
    refine v_istore_4 hC (by decide) rfl dX7_isFree_11 ?_
    refine up_loop (fun e : Nat => (∀ i, i < e → okF μ d (fr + i) q) → V X E 13 [some (.ref (adr E 54)), some (.int (nI fr)), some (.int q), some (.int (nI d)), some (.int (nI (fr + e))), none] [] (σ) (μ)) (Nat.zero_le (24 - fr)) (fun hy => ?_) (fun e _ he ih2 hy => ?_) (fun i hi => absurd hi (Nat.not_lt_zero i))
    · refine v_iload_4 hC dX7_isFree_13 ?_
      refine v_bipush hC dX7_isFree_15 bp_24 ?_
      refine v_icge (tgt := 80) hC dX7_isFree_17 (by decide) (fun h17 => ?_) (fun h17 => absurd (nI_le (by omega) (by omega)) h17)
      refine v_iinc1_3 hC (by decide) rfl dX7_isFree_80 ?_
      refine v_goto (tgt := 2) hC dX7_isFree_83 (by decide) ?_
      exact v_forget_4 (ih (all_s hx hy))
    · refine v_iload_4 hC dX7_isFree_13 ?_
      refine v_bipush hC dX7_isFree_15 bp_24 ?_
      refine v_icge (tgt := 80) hC dX7_isFree_17 (by decide) (fun h17 => absurd h17 (nI_ge (by omega) (by omega))) (fun h17 => ?_)
      refine v_bipush hC dX7_isFree_20 bp_24 ?_
      refine v_iload_3 hC dX7_isFree_22 ?_
      refine v_imulN hC dX7_isFree_23 ?_
      refine v_iload_4 hC dX7_isFree_24 ?_
      refine v_iaddN hC dX7_isFree_26 ?_
      refine v_istore_5 hC (by decide) rfl dX7_isFree_27 ?_
      refine v_aload_0 hC dX7_isFree_29 ?_
      refine v_get hC fX7_28 (by decide) rfl rfl dX7_isFree_30 ?_
      refine v_iload_5 hC dX7_isFree_33 ?_
      refine w_iald (k := 7) hC N_7 (by first | omega | (simp only [mcl, mRd]; omega)) dX7_isFree_35 ?_
      refine v_ifge (tgt := 52) hC dX7_isFree_36 (by decide) (fun h36 => ?_) (fun h36 => ?_)
      · refine v_aload_0 hC dX7_isFree_52 ?_
        refine v_get hC fX7_28 (by decide) rfl rfl dX7_isFree_53 ?_
        refine v_iload_5 hC dX7_isFree_56 ?_
        refine w_iald (k := 7) hC N_7 (by first | omega | (simp only [mcl, mRd]; omega)) dX7_isFree_58 ?_
        refine v_iload_2 hC dX7_isFree_59 ?_
        refine v_aload_0 hC dX7_isFree_60 ?_
        refine v_get hC fX7_31 (by decide) rfl rfl dX7_isFree_61 ?_
        refine v_iload_5 hC dX7_isFree_64 ?_
        refine w_iald (k := 8) hC N_8 (by first | omega | (simp only [mcl, mRd]; omega)) dX7_isFree_66 ?_
        refine v_imul hC dX7_isFree_67 ?_
        refine v_isub hC dX7_isFree_68 ?_
        refine v_ifge (tgt := 74) hC dX7_isFree_69 (by decide) (fun h69 => ?_) (fun h69 => ?_)
        · refine v_iinc1_4 hC (by decide) rfl dX7_isFree_74 ?_
          refine v_goto (tgt := 13) hC dX7_isFree_77 (by decide) ?_
          exact v_forget_5 (ih2 (all_s hy (by show ite _ _ _; rw [if_neg (Int32.not_lt.mpr h36)]; exact h69)))
        · refine v_iconst hC dX7_isFree_72 ic_0 ?_
          exact v_zret hC hT (bI_f (fun z => absurd (z d hd e he) (by show ¬ ite _ _ _; rw [if_neg (Int32.not_lt.mpr h36)]; exact h69))) dX7_isFree_73
      · refine v_aload_0 hC dX7_isFree_39 ?_
        refine v_get hC fX7_31 (by decide) rfl rfl dX7_isFree_40 ?_
        refine v_iload_5 hC dX7_isFree_43 ?_
        refine w_iald (k := 8) hC N_8 (by first | omega | (simp only [mcl, mRd]; omega)) dX7_isFree_45 ?_
        refine v_ifle (tgt := 74) hC dX7_isFree_46 (by decide) (fun h46 => ?_) (fun h46 => ?_)
        · refine v_iinc1_4 hC (by decide) rfl dX7_isFree_74 ?_
          refine v_goto (tgt := 13) hC dX7_isFree_77 (by decide) ?_
          exact v_forget_5 (ih2 (all_s hy (by show ite _ _ _; rw [if_pos (Int32.not_le.mp h36)]; exact h46)))
        · refine v_goto (tgt := 72) hC dX7_isFree_49 (by decide) ?_
          refine v_iconst hC dX7_isFree_72 ic_0 ?_
          exact v_zret hC hT (bI_f (fun z => absurd (z d hd e he) (by show ¬ ite _ _ _; rw [if_pos (Int32.not_le.mp h36)]; exact h46))) dX7_isFree_73
theorem offTk (w p n fr : Nat) (μ : St) (k : Nat) : Offs [7, 8] μ (it (fTk w p n) fr k μ) := it_inv (Offs [7, 8] μ) k Offs.rf (fun _ _ _ _ h => h.wr (by decide))
theorem offGk (w fr p : Nat) (n : Nat) (μ : St) : Offs [7, 8] μ (gTk w fr p n μ) := ((Offs.rf.wr (by decide)).wr (by decide)).tr (offTk w p n fr _ _)
theorem offHk (w fr p : Nat) (μ : St) (k : Nat) : Offs [7, 8] μ (it (gTk w fr p) fr k μ) := it_inv (Offs [7, 8] μ) k Offs.rf (fun _ _ _ _ h => h.tr (offGk w fr p _ _))
theorem offFk (w fr : Nat) (μ : St) (k : Nat) : Offs [7, 8] μ (it0 (hTk w fr) k μ) := it0_inv (Offs [7, 8] μ) k Offs.rf (fun _ _ _ h => h.tr (offHk w fr _ _ _))
theorem fillWM {μ : St} (h : WM μ) (w fr : Nat) : WM (mFill μ w fr) := (offFk w fr μ _).wm (by decide) (by decide) h
theorem k_X7_freeOf {l : Launch} {E : ET} {σ μ : St} (hwm0 : WM μ) {w fr : Nat} (hw : w < 10) (hfr : fr < 24) : Ct l E MX7_freeOf [.ref (adr E 54), .int (nI w), .int (nI fr)] (σ) (μ) (some (.int (mFree μ w fr).1)) (σ) ((mFree μ w fr).2) := by
  have h10 := hwm0.n10
  refine Ct.of (L := [some (.ref (adr E 54)), some (.int (nI w)), some (.int (nI fr)), none, none, none, none]) (by decide) rfl (Nat.le_of_ble_eq_true rfl) rfl (fun X hC hT => ?_)
  refine v_aload_0 hC dX7_freeOf_0 ?_
  refine v_iload_1 hC dX7_freeOf_1 ?_
  refine v_cv1r hC lX7_71 ⟨by decide, 7, _, rfl, rfl, fun _ _ _ => ⟨_, rfl⟩⟩ (k_X7_kindOf (by omega)) ⟨Nat.le_of_ble_eq_true rfl, Nat.le_of_ble_eq_true rfl, rfl, rfl⟩ (Nat.le_of_ble_eq_true rfl) dX7_freeOf_2 ?_
  refine v_istore_3 hC (by decide) rfl dX7_freeOf_5 ?_
  refine v_iload_3 hC dX7_freeOf_6 ?_
  refine v_iconst hC dX7_freeOf_7 ic_2 ?_
  refine v_icle (tgt := 13) hC dX7_freeOf_8 (by decide) (fun h8 => ?_) (fun h8 => ?_)
  · refine v_iconst hC dX7_freeOf_13 ic_0 ?_
    refine v_istore_4 hC (by decide) rfl dX7_freeOf_14 ?_
    refine up_loop (fun d : Nat => V X E 16 [some (.ref (adr E 54)), some (.int (nI w)), some (.int (nI fr)), some (.int (mKind μ w)), some (.int (nI d)), none, none] [] (σ) (it0 (hTk w fr) d μ)) (Nat.zero_le (mN μ)) ?_ (fun d _ hd ih => ?_)
    · refine v_iload_4 hC dX7_freeOf_16 ?_
      refine v_aload_0 hC dX7_freeOf_18 ?_
      refine v_cv0r hC lX7_44 ⟨by decide, 7, _, rfl, rfl, fun _ _ _ => ⟨_, rfl⟩⟩ (k_X7_wells) ⟨Nat.le_of_ble_eq_true rfl, Nat.le_of_ble_eq_true rfl, rfl, rfl⟩ (Nat.le_of_ble_eq_true rfl) dX7_freeOf_19 ?_
      refine v_icge (tgt := 134) hC dX7_freeOf_22 (by decide) (fun h22 => ?_) (fun h22 => absurd (by rw [offFk w fr μ _ 1 (by decide), hwm0.n]; exact Int32.le_refl _) h22)
      refine v_sipush hC dX7_freeOf_134 sp_1000 ?_
      refine v_istore_4 hC (by decide) rfl dX7_freeOf_137 ?_
      have LQ : ∀ q : Nat, q ≤ 1000 → down (fun q => decide (mIsF (mFill μ w fr) fr (nI q))) 1000 = down (fun q => decide (mIsF (mFill μ w fr) fr (nI q))) q → V X E 139 [some (.ref (adr E 54)), some (.int (nI w)), some (.int (nI fr)), some (.int (mKind μ w)), some (.int (nI q)), none, none] [] σ (mFill μ w fr) := by
        have hwm := fillWM hwm0 w fr
        intro q
        induction q with
        | zero =>
          intro _ hx
          refine v_iload_4 hC dX7_freeOf_139 ?_
          refine v_ifle (tgt := 160) hC dX7_freeOf_141 (by decide) (fun h141 => ?_) (fun h141 => absurd (by decide) h141)
          refine v_iload_4 hC dX7_freeOf_160 ?_
          exact v_iretM hC hT (by rw [mFree, if_pos h8, mFreeQ, hx]; rfl) dX7_freeOf_162
        | succ q ihq =>
          intro hq hx
          refine v_iload_4 hC dX7_freeOf_139 ?_
          refine v_ifle (tgt := 160) hC dX7_freeOf_141 (by decide) (fun h141 => absurd h141 (nI_nle (by omega) (by omega))) (fun h141 => ?_)
          refine v_aload_0 hC dX7_freeOf_144 ?_
          refine v_iload_2 hC dX7_freeOf_145 ?_
          refine v_iload_4 hC dX7_freeOf_146 ?_
          refine v_cv2r hC lX7_125 ⟨by decide, 7, _, rfl, rfl, fun _ _ _ => ⟨_, rfl⟩⟩ (k_X7_isFree hwm (by omega) _) ⟨Nat.le_of_ble_eq_true rfl, Nat.le_of_ble_eq_true rfl, rfl, rfl⟩ (Nat.le_of_ble_eq_true rfl) dX7_freeOf_148 ?_
          refine v_ifneb (tgt := 160) hC dX7_freeOf_151 (by decide) (fun h151 => ?_) (fun h151 => ?_)
          · refine v_iload_4 hC dX7_freeOf_160 ?_
            exact v_iretM hC hT (by rw [mFree, if_pos h8, mFreeQ, hx, down, if_pos (decide_eq_true h151)]) dX7_freeOf_162
          · refine v_iinc_4 hC (by decide) rfl dX7_freeOf_154 (dec1 q) ?_
            refine v_goto (tgt := 139) hC dX7_freeOf_157 (by decide) ?_
            exact ihq (by omega) (hx.trans (by rw [down, if_neg (by simpa using h151)]))
      exact LQ 1000 (Nat.le_refl _) rfl
    · refine v_iload_4 hC dX7_freeOf_16 ?_
      refine v_aload_0 hC dX7_freeOf_18 ?_
      refine v_cv0r hC lX7_44 ⟨by decide, 7, _, rfl, rfl, fun _ _ _ => ⟨_, rfl⟩⟩ (k_X7_wells) ⟨Nat.le_of_ble_eq_true rfl, Nat.le_of_ble_eq_true rfl, rfl, rfl⟩ (Nat.le_of_ble_eq_true rfl) dX7_freeOf_19 ?_
      refine v_icge (tgt := 134) hC dX7_freeOf_22 (by decide) (fun h22 => absurd h22 (by rw [offFk w fr μ _ 1 (by decide), hwm0.n]; exact nI_ge hd (by omega))) (fun h22 => ?_)
      refine v_iload_2 hC dX7_freeOf_25 ?_
      refine v_istore_5 hC (by decide) rfl dX7_freeOf_26 ?_
      refine up_loop (fun e : Nat => V X E 28 [some (.ref (adr E 54)), some (.int (nI w)), some (.int (nI fr)), some (.int (mKind μ w)), some (.int (nI d)), some (.int (nI (fr + e))), none] [] (σ) (it (gTk w fr d) fr e (it0 (hTk w fr) d μ))) (Nat.zero_le (24 - fr)) ?_ (fun e _ he ih2 => ?_)
      · refine v_iload_5 hC dX7_freeOf_28 ?_
        refine v_bipush hC dX7_freeOf_30 bp_24 ?_
        refine v_icge (tgt := 128) hC dX7_freeOf_32 (by decide) (fun h32 => ?_) (fun h32 => absurd (nI_le (by omega) (by omega)) h32)
        refine v_iinc1_4 hC (by decide) rfl dX7_freeOf_128 ?_
        refine v_goto (tgt := 16) hC dX7_freeOf_131 (by decide) ?_
        exact v_forget_5 ih
      · have hwm2 : WM (it (gTk w fr d) fr e (it0 (hTk w fr) d μ)) := ((offFk w fr μ d).tr (offHk w fr d _ e)).wm (by decide) (by decide) hwm0
        have hwm := hwm2
        refine v_iload_5 hC dX7_freeOf_28 ?_
        refine v_bipush hC dX7_freeOf_30 bp_24 ?_
        refine v_icge (tgt := 128) hC dX7_freeOf_32 (by decide) (fun h32 => absurd h32 (nI_ge (by omega) (by omega))) (fun h32 => ?_)
        refine v_aload_0 hC dX7_freeOf_35 ?_
        refine v_get hC fX7_28 (by decide) rfl rfl dX7_freeOf_36 ?_
        refine v_bipush hC dX7_freeOf_39 bp_24 ?_
        refine v_iload_4 hC dX7_freeOf_41 ?_
        refine v_imulN hC dX7_freeOf_43 ?_
        refine v_iload_5 hC dX7_freeOf_44 ?_
        refine v_iaddN hC dX7_freeOf_46 ?_
        refine v_aload_0 hC dX7_freeOf_47 ?_
        refine v_iload_4 hC dX7_freeOf_48 ?_
        refine v_iload_5 hC dX7_freeOf_50 ?_
        refine v_cv2r hC lX7_122 ⟨by decide, 7, _, rfl, rfl, fun _ _ _ => ⟨_, rfl⟩⟩ (k_X7_above hwm (by omega) (by omega)) ⟨Nat.le_of_ble_eq_true rfl, Nat.le_of_ble_eq_true rfl, rfl, rfl⟩ (Nat.le_of_ble_eq_true rfl) dX7_freeOf_52 ?_
        refine w_iast (k := 7) hC N_7 (by first | omega | (simp only [mcl, mRd]; omega)) dX7_freeOf_55 ?_
        refine v_aload_0 hC dX7_freeOf_56 ?_
        refine v_get hC fX7_31 (by decide) rfl rfl dX7_freeOf_57 ?_
        refine v_bipush hC dX7_freeOf_60 bp_24 ?_
        refine v_iload_4 hC dX7_freeOf_62 ?_
        refine v_imulN hC dX7_freeOf_64 ?_
        refine v_iload_5 hC dX7_freeOf_65 ?_
        refine v_iaddN hC dX7_freeOf_67 ?_
        refine v_iconst hC dX7_freeOf_68 ic_0 ?_
        refine w_iast (k := 8) hC N_8 (by first | omega | (simp only [mcl, mRd]; omega)) dX7_freeOf_69 ?_
        refine v_iload_2 hC dX7_freeOf_70 ?_
        refine v_istore_6 hC (by decide) rfl dX7_freeOf_71 ?_
        refine up_loop (fun f : Nat => V X E 73 [some (.ref (adr E 54)), some (.int (nI w)), some (.int (nI fr)), some (.int (mKind μ w)), some (.int (nI d)), some (.int (nI (fr + e))), some (.int (nI (fr + f)))] [] (σ) (it (fTk w d (fr + e)) fr f (wr (wr (it (gTk w fr d) fr e (it0 (hTk w fr) d μ)) 7 (24 * d + (fr + e)) (mAbv (it (gTk w fr d) fr e (it0 (hTk w fr) d μ)) d (fr + e))) 8 (24 * d + (fr + e)) (nI 0)))) (Nat.zero_le (fr + e + 1 - fr)) ?_ (fun f _ hf ih3 => ?_)
        · refine v_iload_6 hC dX7_freeOf_73 ?_
          refine v_iload_5 hC dX7_freeOf_75 ?_
          refine v_icgt (tgt := 122) hC dX7_freeOf_77 (by decide) (fun h77 => ?_) (fun h77 => absurd (nI_lt (by omega) (by omega)) h77)
          refine v_iinc1_5 hC (by decide) rfl dX7_freeOf_122 ?_
          refine v_goto (tgt := 28) hC dX7_freeOf_125 (by decide) ?_
          exact v_forget_6 ih2
        · have hwm : WM (it (fTk w d (fr + e)) fr f (wr (wr (it (gTk w fr d) fr e (it0 (hTk w fr) d μ)) 7 (24 * d + (fr + e)) (mAbv (it (gTk w fr d) fr e (it0 (hTk w fr) d μ)) d (fr + e))) 8 (24 * d + (fr + e)) (nI 0))) := ((((Offs.rf.wr (by decide)).wr (by decide)).tr (offTk w d (fr + e) fr _ f))).wm (by decide) (by decide) hwm2
          refine v_iload_6 hC dX7_freeOf_73 ?_
          refine v_iload_5 hC dX7_freeOf_75 ?_
          refine v_icgt (tgt := 122) hC dX7_freeOf_77 (by decide) (fun h77 => absurd h77 (nI_nlt (by omega) (by omega))) (fun h77 => ?_)
          refine v_aload_0 hC dX7_freeOf_80 ?_
          refine v_get hC fX7_31 (by decide) rfl rfl dX7_freeOf_81 ?_
          refine v_bipush hC dX7_freeOf_84 bp_24 ?_
          refine v_iload_4 hC dX7_freeOf_86 ?_
          refine v_imulN hC dX7_freeOf_88 ?_
          refine v_iload_5 hC dX7_freeOf_89 ?_
          refine v_iaddN hC dX7_freeOf_91 ?_
          refine v_dup2 hC rfl rfl dX7_freeOf_92 ?_
          refine w_iald (k := 8) hC N_8 (by first | omega | (simp only [mcl, mRd]; omega)) dX7_freeOf_93 ?_
          refine v_aload_0 hC dX7_freeOf_94 ?_
          refine v_iload_1 hC dX7_freeOf_95 ?_
          refine v_iload_6 hC dX7_freeOf_96 ?_
          refine v_cv2r hC lX7_105 ⟨by decide, 7, _, rfl, rfl, fun _ _ _ => ⟨_, rfl⟩⟩ (k_X7_sign (by omega) (by omega)) ⟨Nat.le_of_ble_eq_true rfl, Nat.le_of_ble_eq_true rfl, rfl, rfl⟩ (Nat.le_of_ble_eq_true rfl) dX7_freeOf_98 ?_
          refine v_aload_0 hC dX7_freeOf_101 ?_
          refine v_iload_4 hC dX7_freeOf_102 ?_
          refine v_iload_1 hC dX7_freeOf_104 ?_
          refine v_iload_5 hC dX7_freeOf_105 ?_
          refine v_iload_6 hC dX7_freeOf_107 ?_
          refine v_isubN hC dX7_freeOf_109 (by omega) ?_
          refine v_cv3r hC lX7_108 ⟨by decide, 7, _, rfl, rfl, fun _ _ _ => ⟨_, rfl⟩⟩ (k_X7_share hwm (by omega) (by omega) _) ⟨Nat.le_of_ble_eq_true rfl, Nat.le_of_ble_eq_true rfl, rfl, rfl⟩ (Nat.le_of_ble_eq_true rfl) dX7_freeOf_110 ?_
          refine v_imul hC dX7_freeOf_113 ?_
          refine v_iadd hC dX7_freeOf_114 ?_
          refine w_iast (k := 8) hC N_8 (by first | omega | (simp only [mcl, mRd]; omega)) dX7_freeOf_115 ?_
          refine v_iinc1_6 hC (by decide) rfl dX7_freeOf_116 ?_
          refine v_goto (tgt := 73) hC dX7_freeOf_119 (by decide) ?_
          exact ih3
  · refine v_iconst hC dX7_freeOf_11 ic_0 ?_
    exact v_iretM hC hT (by rw [mFree, if_neg h8]) dX7_freeOf_12
theorem k_X7_mayMove {l : Launch} {E : ET} {σ μ : St} (hwm : WM μ) {w f n : Nat} (hw : w < 10) (hf : f < 10) (hn : n ≤ 24) (x y : Int32) : Ct l E MX7_mayMove [.ref (adr E 54), .int (nI w), .int (nI f), .int (nI n), .int x, .int y] (σ) (μ) (some (.int (bI (mMay μ w f n x y)))) (σ) (μ) := by
  have h10 := hwm.n10
  refine Ct.of (L := [some (.ref (adr E 54)), some (.int (nI w)), some (.int (nI f)), some (.int (nI n)), some (.int x), some (.int y), none, none]) (by decide) rfl (Nat.le_of_ble_eq_true rfl) rfl (fun X hC hT => ?_)
  refine v_iconst hC dX7_mayMove_0 ic_0 ?_
  refine v_istore_6 hC (by decide) rfl dX7_mayMove_1 ?_
  refine up_loop (fun d : Nat => (∀ p, p < d → ∀ g, g < n → x * mSh μ p w (nI g) ≤ y * mSh μ p f (nI g)) → V X E 3 [some (.ref (adr E 54)), some (.int (nI w)), some (.int (nI f)), some (.int (nI n)), some (.int x), some (.int y), some (.int (nI d)), none] [] (σ) (μ)) (Nat.zero_le (mN μ)) (fun hx => ?_) (fun d _ hd ih hx => ?_) (fun i hi => absurd hi (Nat.not_lt_zero i))
  · refine v_iload_6 hC dX7_mayMove_3 ?_
    refine v_aload_0 hC dX7_mayMove_5 ?_
    refine v_cv0r hC lX7_44 ⟨by decide, 7, _, rfl, rfl, fun _ _ _ => ⟨_, rfl⟩⟩ (k_X7_wells) ⟨Nat.le_of_ble_eq_true rfl, Nat.le_of_ble_eq_true rfl, rfl, rfl⟩ (Nat.le_of_ble_eq_true rfl) dX7_mayMove_6 ?_
    refine v_icge (tgt := 62) hC dX7_mayMove_9 (by decide) (fun h9 => ?_) (fun h9 => absurd (by rw [hwm.n]; exact Int32.le_refl _) h9)
    refine v_iconst hC dX7_mayMove_62 ic_1 ?_
    exact v_zret hC hT (bI_t hx) dX7_mayMove_63
  · refine v_iload_6 hC dX7_mayMove_3 ?_
    refine v_aload_0 hC dX7_mayMove_5 ?_
    refine v_cv0r hC lX7_44 ⟨by decide, 7, _, rfl, rfl, fun _ _ _ => ⟨_, rfl⟩⟩ (k_X7_wells) ⟨Nat.le_of_ble_eq_true rfl, Nat.le_of_ble_eq_true rfl, rfl, rfl⟩ (Nat.le_of_ble_eq_true rfl) dX7_mayMove_6 ?_
    refine v_icge (tgt := 62) hC dX7_mayMove_9 (by decide) (fun h9 => absurd h9 (by rw [hwm.n]; exact nI_ge hd (by omega))) (fun h9 => ?_)
    refine v_iconst hC dX7_mayMove_12 ic_0 ?_
    refine v_istore_7 hC (by decide) rfl dX7_mayMove_13 ?_
    refine up_loop (fun e : Nat => (∀ g, g < e → x * mSh μ d w (nI g) ≤ y * mSh μ d f (nI g)) → V X E 15 [some (.ref (adr E 54)), some (.int (nI w)), some (.int (nI f)), some (.int (nI n)), some (.int x), some (.int y), some (.int (nI d)), some (.int (nI e))] [] (σ) (μ)) (Nat.zero_le (n)) (fun hy => ?_) (fun e _ he ih2 hy => ?_) (fun i hi => absurd hi (Nat.not_lt_zero i))
    · refine v_iload_7 hC dX7_mayMove_15 ?_
      refine v_iload_3 hC dX7_mayMove_17 ?_
      refine v_icge (tgt := 56) hC dX7_mayMove_18 (by decide) (fun h18 => ?_) (fun h18 => absurd (Int32.le_refl _) h18)
      refine v_iinc1_6 hC (by decide) rfl dX7_mayMove_56 ?_
      refine v_goto (tgt := 3) hC dX7_mayMove_59 (by decide) ?_
      exact v_forget_7 (ih (all_s hx hy))
    · refine v_iload_7 hC dX7_mayMove_15 ?_
      refine v_iload_3 hC dX7_mayMove_17 ?_
      refine v_icge (tgt := 56) hC dX7_mayMove_18 (by decide) (fun h18 => absurd h18 (nI_ge he (by omega))) (fun h18 => ?_)
      refine v_iload_4 hC dX7_mayMove_21 ?_
      refine v_aload_0 hC dX7_mayMove_23 ?_
      refine v_iload_6 hC dX7_mayMove_24 ?_
      refine v_iload_1 hC dX7_mayMove_26 ?_
      refine v_iload_7 hC dX7_mayMove_27 ?_
      refine v_cv3r hC lX7_108 ⟨by decide, 7, _, rfl, rfl, fun _ _ _ => ⟨_, rfl⟩⟩ (k_X7_share hwm (by omega) (by omega) _) ⟨Nat.le_of_ble_eq_true rfl, Nat.le_of_ble_eq_true rfl, rfl, rfl⟩ (Nat.le_of_ble_eq_true rfl) dX7_mayMove_29 ?_
      refine v_imul hC dX7_mayMove_32 ?_
      refine v_iload_5 hC dX7_mayMove_33 ?_
      refine v_aload_0 hC dX7_mayMove_35 ?_
      refine v_iload_6 hC dX7_mayMove_36 ?_
      refine v_iload_2 hC dX7_mayMove_38 ?_
      refine v_iload_7 hC dX7_mayMove_39 ?_
      refine v_cv3r hC lX7_108 ⟨by decide, 7, _, rfl, rfl, fun _ _ _ => ⟨_, rfl⟩⟩ (k_X7_share hwm (by omega) (by omega) _) ⟨Nat.le_of_ble_eq_true rfl, Nat.le_of_ble_eq_true rfl, rfl, rfl⟩ (Nat.le_of_ble_eq_true rfl) dX7_mayMove_41 ?_
      refine v_imul hC dX7_mayMove_44 ?_
      refine v_icle (tgt := 50) hC dX7_mayMove_45 (by decide) (fun h45 => ?_) (fun h45 => ?_)
      · refine v_iinc1_7 hC (by decide) rfl dX7_mayMove_50 ?_
        refine v_goto (tgt := 15) hC dX7_mayMove_53 (by decide) ?_
        exact ih2 (all_s hy h45)
      · refine v_iconst hC dX7_mayMove_48 ic_0 ?_
        exact v_zret hC hT (bI_f (fun z => h45 (z d hd e he))) dX7_mayMove_49
theorem k_X7_squaresNow {l : Launch} {E : ET} {σ μ : St} (hwm : WM μ) : Ct l E MX7_squaresNow [.ref (adr E 54)] (σ) (μ) (some (.long (mSq μ))) (σ) (μ) := by
  have h10 := hwm.n10
  refine Ct.of (L := [some (.ref (adr E 54)), none, none, none, none, none, none, none]) (by decide) rfl (Nat.le_of_ble_eq_true rfl) rfl (fun X hC hT => ?_)
  refine v_lconst hC dX7_squaresNow_0 rfl ?_
  refine v_lstore_1 hC (by decide) rfl dX7_squaresNow_1 ?_
  refine v_iconst hC dX7_squaresNow_2 ic_0 ?_
  refine v_istore_3 hC (by decide) rfl dX7_squaresNow_3 ?_
  refine up_loop (fun d : Nat => V X E 4 [some (.ref (adr E 54)), some (.long (it0 (gmSq μ) d 0)), none, some (.int (nI d)), none, none, none, none] [] (σ) (μ)) (Nat.zero_le (mN μ)) ?_ (fun d _ hd ih => ?_)
  · refine v_iload_3 hC dX7_squaresNow_4 ?_
    refine v_aload_0 hC dX7_squaresNow_5 ?_
    refine v_cv0r hC lX7_44 ⟨by decide, 7, _, rfl, rfl, fun _ _ _ => ⟨_, rfl⟩⟩ (k_X7_wells) ⟨Nat.le_of_ble_eq_true rfl, Nat.le_of_ble_eq_true rfl, rfl, rfl⟩ (Nat.le_of_ble_eq_true rfl) dX7_squaresNow_6 ?_
    refine v_icge (tgt := 84) hC dX7_squaresNow_9 (by decide) (fun h9 => ?_) (fun h9 => absurd (by rw [hwm.n]; exact Int32.le_refl _) h9)
    refine v_lload_1 hC dX7_squaresNow_84 ?_
    exact v_lret hC hT rfl dX7_squaresNow_85
  · refine v_iload_3 hC dX7_squaresNow_4 ?_
    refine v_aload_0 hC dX7_squaresNow_5 ?_
    refine v_cv0r hC lX7_44 ⟨by decide, 7, _, rfl, rfl, fun _ _ _ => ⟨_, rfl⟩⟩ (k_X7_wells) ⟨Nat.le_of_ble_eq_true rfl, Nat.le_of_ble_eq_true rfl, rfl, rfl⟩ (Nat.le_of_ble_eq_true rfl) dX7_squaresNow_6 ?_
    refine v_icge (tgt := 84) hC dX7_squaresNow_9 (by decide) (fun h9 => absurd h9 (by rw [hwm.n]; exact nI_ge hd (by omega))) (fun h9 => ?_)
    refine v_iconst hC dX7_squaresNow_12 ic_0 ?_
    refine v_istore_4 hC (by decide) rfl dX7_squaresNow_13 ?_
    refine up_loop (fun e : Nat => V X E 15 [some (.ref (adr E 54)), some (.long (it0 (fmSq μ d) e (it0 (gmSq μ) d 0))), none, some (.int (nI d)), some (.int (nI e)), none, none, none] [] (σ) (μ)) (Nat.zero_le (24)) ?_ (fun e _ he ih2 => ?_)
    · refine v_iload_4 hC dX7_squaresNow_15 ?_
      refine v_bipush hC dX7_squaresNow_17 bp_24 ?_
      refine v_icge (tgt := 78) hC dX7_squaresNow_19 (by decide) (fun h19 => ?_) (fun h19 => absurd (nI_le (by omega) (by omega)) h19)
      refine v_iinc1_3 hC (by decide) rfl dX7_squaresNow_78 ?_
      refine v_goto (tgt := 4) hC dX7_squaresNow_81 (by decide) ?_
      exact v_forget_4 ih
    · refine v_iload_4 hC dX7_squaresNow_15 ?_
      refine v_bipush hC dX7_squaresNow_17 bp_24 ?_
      refine v_icge (tgt := 78) hC dX7_squaresNow_19 (by decide) (fun h19 => absurd h19 (nI_ge (by omega) (by omega))) (fun h19 => ?_)
      refine v_aload_0 hC dX7_squaresNow_22 ?_
      refine v_iload_3 hC dX7_squaresNow_23 ?_
      refine v_iload_4 hC dX7_squaresNow_24 ?_
      refine v_cv2r hC lX7_141 ⟨by decide, 7, _, rfl, rfl, fun _ _ _ => ⟨_, rfl⟩⟩ (k_X7_reading) ⟨Nat.le_of_ble_eq_true rfl, Nat.le_of_ble_eq_true rfl, rfl, rfl⟩ (Nat.le_of_ble_eq_true rfl) dX7_squaresNow_26 ?_
      refine v_istore_5 hC (by decide) rfl dX7_squaresNow_29 ?_
      refine v_aload_0 hC dX7_squaresNow_31 ?_
      refine v_get hC fX7_7 (by decide) rfl rfl dX7_squaresNow_32 ?_
      refine v_iload_5 hC dX7_squaresNow_35 ?_
      refine w_iald (k := 1) hC N_1 (by first | omega | (simp only [mcl, mRd]; omega)) dX7_squaresNow_37 ?_
      refine v_ifne (tgt := 44) hC dX7_squaresNow_38 (by decide) (fun h38 => ?_) (fun h38 => ?_)
      · refine v_aload_0 hC dX7_squaresNow_44 ?_
        refine v_get hC fX7_7 (by decide) rfl rfl dX7_squaresNow_45 ?_
        refine v_iload_5 hC dX7_squaresNow_48 ?_
        refine v_iconst hC dX7_squaresNow_50 ic_1 ?_
        refine v_iaddN hC dX7_squaresNow_51 ?_
        refine w_iald (k := 1) hC N_1 (by first | omega | (simp only [mcl, mRd]; omega)) dX7_squaresNow_52 ?_
        refine v_aload_0 hC dX7_squaresNow_53 ?_
        refine v_iload_3 hC dX7_squaresNow_54 ?_
        refine v_iload_4 hC dX7_squaresNow_55 ?_
        refine v_cv2r hC lX7_118 ⟨by decide, 7, _, rfl, rfl, fun _ _ _ => ⟨_, rfl⟩⟩ (k_X7_headOf hwm (by omega) (by omega)) ⟨Nat.le_of_ble_eq_true rfl, Nat.le_of_ble_eq_true rfl, rfl, rfl⟩ (Nat.le_of_ble_eq_true rfl) dX7_squaresNow_57 ?_
        refine v_isub hC dX7_squaresNow_60 ?_
        refine v_i2l hC dX7_squaresNow_61 ?_
        refine v_lstore_6 hC (by decide) rfl dX7_squaresNow_62 ?_
        refine v_lload_1 hC dX7_squaresNow_64 ?_
        refine v_lload_6 hC dX7_squaresNow_65 ?_
        refine v_lload_6 hC dX7_squaresNow_67 ?_
        refine v_lmul hC dX7_squaresNow_69 ?_
        refine v_ladd hC dX7_squaresNow_70 ?_
        refine v_lstore_1 hC (by decide) rfl dX7_squaresNow_71 ?_
        refine v_iinc1_4 hC (by decide) rfl dX7_squaresNow_72 ?_
        refine v_goto (tgt := 15) hC dX7_squaresNow_75 (by decide) ?_
        exact v_forget_5 (v_forget_6 (v_leqJ_1 (if_neg h38).symm ih2))
      · refine v_goto (tgt := 72) hC dX7_squaresNow_41 (by decide) ?_
        refine v_iinc1_4 hC (by decide) rfl dX7_squaresNow_72 ?_
        refine v_goto (tgt := 15) hC dX7_squaresNow_75 (by decide) ?_
        exact v_forget_5 (v_leqJ_1 (if_pos h38).symm ih2)
theorem k_X7_times {l : Launch} {E : ET} {σ μ : St} {i g : Nat} (hi : i < 2) (hg : g < 12) (f : Int32) : Ct l E MX7_times [.ref (adr E 54), .int (nI i), .int (nI g), .int f] (σ) (μ) (none) (σ) (mTm μ i g f) := by
  refine Ct.of (L := [some (.ref (adr E 54)), some (.int (nI i)), some (.int (nI g)), some (.int f), none, none]) (by decide) rfl (Nat.le_of_ble_eq_true rfl) rfl (fun X hC hT => ?_)
  refine v_iconst hC dX7_times_0 ic_0 ?_
  refine v_istore_4 hC (by decide) rfl dX7_times_1 ?_
  refine up_loop (fun d : Nat => V X E 3 [some (.ref (adr E 54)), some (.int (nI i)), some (.int (nI g)), some (.int f), some (.int (nI d)), none] [] (σ) (it0 (fmT i g f) d μ)) (Nat.zero_le (10)) ?_ (fun d _ hd ih => ?_)
  · refine v_iload_4 hC dX7_times_3 ?_
    refine v_bipush hC dX7_times_5 bp_10 ?_
    refine v_icge (tgt := 58) hC dX7_times_7 (by decide) (fun h7 => ?_) (fun h7 => absurd (Int32.le_refl _) h7)
    exact v_vret hC hT rfl dX7_times_58
  · refine v_iload_4 hC dX7_times_3 ?_
    refine v_bipush hC dX7_times_5 bp_10 ?_
    refine v_icge (tgt := 58) hC dX7_times_7 (by decide) (fun h7 => absurd h7 (nI_ge hd (by decide))) (fun h7 => ?_)
    refine v_aload_0 hC dX7_times_10 ?_
    refine v_get hC fX7_37 (by decide) rfl rfl dX7_times_11 ?_
    refine v_iload_4 hC dX7_times_14 ?_
    refine w_iald (k := 10) hC N_10 (by first | omega | (simp only [mcl, mRd]; omega)) dX7_times_16 ?_
    refine v_iload_3 hC dX7_times_17 ?_
    refine v_imul hC dX7_times_18 ?_
    refine v_bipush hC dX7_times_19 bp_100 ?_
    refine v_idiv hC dX7_times_21 (by decide) ?_
    refine v_istore_5 hC (by decide) rfl dX7_times_22 ?_
    refine v_aload_0 hC dX7_times_24 ?_
    refine v_get hC fX7_7 (by decide) rfl rfl dX7_times_25 ?_
    refine v_iload_1 hC dX7_times_28 ?_
    refine v_iload_4 hC dX7_times_29 ?_
    refine v_iload_2 hC dX7_times_31 ?_
    refine v_cs3r hC lX7_81 (k_X7_cell) ⟨Nat.le_of_ble_eq_true rfl, Nat.le_of_ble_eq_true rfl, rfl, rfl⟩ (Nat.le_of_ble_eq_true rfl) dX7_times_32 ?_
    refine v_iload_5 hC dX7_times_35 ?_
    refine v_sipush hC dX7_times_37 sp_1000 ?_
    refine v_icle (tgt := 49) hC dX7_times_40 (by decide) (fun h40 => ?_) (fun h40 => ?_)
    · refine v_iload_5 hC dX7_times_49 ?_
      refine v_top (show _ = cap1 _ from (if_pos h40).symm) ?_
      refine w_iast (k := 1) hC N_1 (by first | omega | (simp only [mcl, mRd]; omega)) dX7_times_51 ?_
      refine v_iinc1_4 hC (by decide) rfl dX7_times_52 ?_
      refine v_goto (tgt := 3) hC dX7_times_55 (by decide) ?_
      exact v_forget_5 ih
    · refine v_sipush hC dX7_times_43 sp_1000 ?_
      refine v_goto (tgt := 51) hC dX7_times_46 (by decide) ?_
      refine v_top (show _ = cap1 _ from (if_neg h40).symm) ?_
      refine w_iast (k := 1) hC N_1 (by first | omega | (simp only [mcl, mRd]; omega)) dX7_times_51 ?_
      refine v_iinc1_4 hC (by decide) rfl dX7_times_52 ?_
      refine v_goto (tgt := 3) hC dX7_times_55 (by decide) ?_
      exact v_forget_5 ih
