theorem k_X3_row {l : Launch} {E : ET} {σ μ : St} {i j : Nat} : Ct l E MX3_row [.int (nI i), .int (nI j)] (σ) (μ) (some (.int (nI ((i * 10 + j) * 12)))) (σ) (μ) := by
  refine Ct.of (L := [some (.int (nI i)), some (.int (nI j))]) (by decide) rfl (Nat.le_of_ble_eq_true rfl) rfl (fun X hC hT => ?_)
  refine v_iload_0 hC dX3_row_0 ?_
  refine v_bipush hC dX3_row_1 bp_10 ?_
  refine v_imulN hC dX3_row_3 ?_
  refine v_iload_1 hC dX3_row_4 ?_
  refine v_iaddN hC dX3_row_5 ?_
  refine v_bipush hC dX3_row_6 bp_12 ?_
  refine v_imulN hC dX3_row_8 ?_
  exact v_iret hC hT rfl dX3_row_9
theorem k_X5_add {l : Launch} {E : ET} {σ μ : St} {n : Nat} (hn : σ 2 0 = nI n) (hn10 : n < 10) (k x y r : Int32) : Ct l E MX5_add [.ref (adr E 2), .int k, .int x, .int y, .int r] (σ) (μ) (some (.int (nI n))) (cAdd σ n k x y r) (μ) := by
  refine Ct.of (L := [some (.ref (adr E 2)), some (.int k), some (.int x), some (.int y), some (.int r), none]) (by decide) rfl (Nat.le_of_ble_eq_true rfl) rfl (fun X hC hT => ?_)
  refine v_aload_0 hC dX5_add_0 ?_
  refine v_get hC fX5_9 (by decide) rfl rfl dX5_add_1 ?_
  refine v_top (hn) ?_
  refine v_istore_5 hC (by decide) rfl dX5_add_4 ?_
  refine v_aload_0 hC dX5_add_6 ?_
  refine v_get hC fX5_15 (by decide) rfl rfl dX5_add_7 ?_
  refine v_iload_5 hC dX5_add_10 ?_
  refine v_iload_1 hC dX5_add_12 ?_
  refine v_iast hC C_3 (by omega) dX5_add_13 ?_
  refine v_aload_0 hC dX5_add_14 ?_
  refine v_get hC fX5_19 (by decide) rfl rfl dX5_add_15 ?_
  refine v_iload_5 hC dX5_add_18 ?_
  refine v_iload_2 hC dX5_add_20 ?_
  refine v_iast hC C_4 (by omega) dX5_add_21 ?_
  refine v_aload_0 hC dX5_add_22 ?_
  refine v_get hC fX5_22 (by decide) rfl rfl dX5_add_23 ?_
  refine v_iload_5 hC dX5_add_26 ?_
  refine v_iload_3 hC dX5_add_28 ?_
  refine v_iast hC C_5 (by omega) dX5_add_29 ?_
  refine v_aload_0 hC dX5_add_30 ?_
  refine v_get hC fX5_25 (by decide) rfl rfl dX5_add_31 ?_
  refine v_iload_5 hC dX5_add_34 ?_
  refine v_iload_4 hC dX5_add_36 ?_
  refine v_iast hC C_6 (by omega) dX5_add_38 ?_
  refine v_aload_0 hC dX5_add_39 ?_
  refine v_get hC fX5_28 (by decide) rfl rfl dX5_add_40 ?_
  refine v_iload_5 hC dX5_add_43 ?_
  refine v_ldc hC kX5_31 dX5_add_45 ?_
  refine v_iast hC C_7 (by omega) dX5_add_47 ?_
  refine v_aload_0 hC dX5_add_48 ?_
  refine v_dup hC rfl dX5_add_49 ?_
  refine v_get hC fX5_9 (by decide) rfl rfl dX5_add_50 ?_
  refine v_iconst hC dX5_add_53 ic_1 ?_
  refine v_iadd hC dX5_add_54 ?_
  refine v_put hC pX5_9 (by decide) rfl (Nat.le_of_ble_eq_true rfl) rfl dX5_add_55 ?_
  refine v_iload_5 hC dX5_add_58 ?_
  exact v_iret hC hT rfl dX5_add_60
theorem k_X5_isOneOf {l : Launch} {E : ET} {σ μ : St} {w : Nat} (hw : w < 10) (k : Int32) : Ct l E MX5_isOneOf [.ref (adr E 2), .int (nI w), .int k] (σ) (μ) (some (.int (bI (σ 3 w = k ∨ k = 0 ∨ (k = nI 3 ∧ σ 3 w = nI 4))))) (σ) (μ) := by
  refine Ct.of (L := [some (.ref (adr E 2)), some (.int (nI w)), some (.int k)]) (by decide) rfl (Nat.le_of_ble_eq_true rfl) rfl (fun X hC hT => ?_)
  refine v_aload_0 hC dX5_isOneOf_0 ?_
  refine v_get hC fX5_15 (by decide) rfl rfl dX5_isOneOf_1 ?_
  refine v_iload_1 hC dX5_isOneOf_4 ?_
  refine v_iald hC C_3 (by omega) dX5_isOneOf_5 ?_
  refine v_iload_2 hC dX5_isOneOf_6 ?_
  refine v_iceq (tgt := 29) hC dX5_isOneOf_7 (by decide) (fun h7 => ?_) (fun h7 => ?_)
  · refine v_iconst hC dX5_isOneOf_29 ic_1 ?_
    refine v_goto (tgt := 34) hC dX5_isOneOf_30 (by decide) ?_
    exact v_zret hC hT (bI_t (Or.inl h7)) dX5_isOneOf_34
  · refine v_iload_2 hC dX5_isOneOf_10 ?_
    refine v_ifeq (tgt := 29) hC dX5_isOneOf_11 (by decide) (fun h11 => ?_) (fun h11 => ?_)
    · refine v_iconst hC dX5_isOneOf_29 ic_1 ?_
      refine v_goto (tgt := 34) hC dX5_isOneOf_30 (by decide) ?_
      exact v_zret hC hT (bI_t (Or.inr (Or.inl h11))) dX5_isOneOf_34
    · refine v_iload_2 hC dX5_isOneOf_14 ?_
      refine v_iconst hC dX5_isOneOf_15 ic_3 ?_
      refine v_icne (tgt := 33) hC dX5_isOneOf_16 (by decide) (fun h16 => ?_) (fun h16 => ?_)
      · refine v_iconst hC dX5_isOneOf_33 ic_0 ?_
        exact v_zret hC hT (bI_f (fun q => q.elim h7 (fun q => q.elim h11 (fun q => h16 q.1)))) dX5_isOneOf_34
      · refine v_aload_0 hC dX5_isOneOf_19 ?_
        refine v_get hC fX5_15 (by decide) rfl rfl dX5_isOneOf_20 ?_
        refine v_iload_1 hC dX5_isOneOf_23 ?_
        refine v_iald hC C_3 (by omega) dX5_isOneOf_24 ?_
        refine v_iconst hC dX5_isOneOf_25 ic_4 ?_
        refine v_icne (tgt := 33) hC dX5_isOneOf_26 (by decide) (fun h26 => ?_) (fun h26 => ?_)
        · refine v_iconst hC dX5_isOneOf_33 ic_0 ?_
          exact v_zret hC hT (bI_f (fun q => q.elim h7 (fun q => q.elim h11 (fun q => h26 q.2)))) dX5_isOneOf_34
        · refine v_iconst hC dX5_isOneOf_29 ic_1 ?_
          refine v_goto (tgt := 34) hC dX5_isOneOf_30 (by decide) ?_
          exact v_zret hC hT (bI_t (Or.inr (Or.inr ⟨h16, h26⟩))) dX5_isOneOf_34
theorem k_X5_isDrawing {l : Launch} {E : ET} {σ μ : St} (hwc : WC σ) {w : Nat} (hw : w < 10) : Ct l E MX5_isDrawing [.ref (adr E 2), .int (nI w)] (σ) (μ) (some (.int (bI (0 < ctf (kd σ w))))) (σ) (μ) := by
  refine Ct.of (L := [some (.ref (adr E 2)), some (.int (nI w))]) (by decide) rfl (Nat.le_of_ble_eq_true rfl) rfl (fun X hC hT => ?_)
  refine v_gets hC fsX5_32 dX5_isDrawing_0 ?_
  refine v_aload_0 hC dX5_isDrawing_3 ?_
  refine v_get hC fX5_15 (by decide) rfl rfl dX5_isDrawing_4 ?_
  refine v_iload_1 hC dX5_isDrawing_7 ?_
  refine v_iald hC C_3 (by omega) dX5_isDrawing_8 ?_
  refine v_top (hwc.k hw) ?_
  refine v_tald hC (Nat.lt_succ_of_le (hwc.k5 hw)) dX5_isDrawing_9 ?_
  refine v_ifle (tgt := 17) hC dX5_isDrawing_10 (by decide) (fun h10 => ?_) (fun h10 => ?_)
  · refine v_iconst hC dX5_isDrawing_17 ic_0 ?_
    exact v_zret hC hT (bI_f (Int32.not_lt.mpr h10)) dX5_isDrawing_18
  · refine v_iconst hC dX5_isDrawing_13 ic_1 ?_
    refine v_goto (tgt := 18) hC dX5_isDrawing_14 (by decide) ?_
    exact v_zret hC hT (bI_t (Int32.not_le.mp h10)) dX5_isDrawing_18
theorem k_X5_isOwnMonth {l : Launch} {E : ET} {σ μ : St} {w m : Nat} (hw : w < 10) (hm : m < 24) : Ct l E MX5_isOwnMonth [.ref (adr E 2), .int (nI w), .int (nI m)] (σ) (μ) (some (.int (bI (own σ w m)))) (σ) (μ) := by
  refine Ct.of (L := [some (.ref (adr E 2)), some (.int (nI w)), some (.int (nI m))]) (by decide) rfl (Nat.le_of_ble_eq_true rfl) rfl (fun X hC hT => ?_)
  refine v_aload_0 hC dX5_isOwnMonth_0 ?_
  refine v_get hC fX5_15 (by decide) rfl rfl dX5_isOwnMonth_1 ?_
  refine v_iload_1 hC dX5_isOwnMonth_4 ?_
  refine v_iald hC C_3 (by omega) dX5_isOwnMonth_5 ?_
  refine v_iconst hC dX5_isOwnMonth_6 ic_2 ?_
  refine v_icne (tgt := 19) hC dX5_isOwnMonth_7 (by decide) (fun h7 => ?_) (fun h7 => ?_)
  · refine v_iconst hC dX5_isOwnMonth_19 ic_1 ?_
    refine v_goto (tgt := 24) hC dX5_isOwnMonth_20 (by decide) ?_
    exact v_zret hC hT (bI_t (Or.inl h7)) dX5_isOwnMonth_24
  · refine v_iload_1 hC dX5_isOwnMonth_10 ?_
    refine v_iconst hC dX5_isOwnMonth_11 ic_1 ?_
    refine v_iand hC dX5_isOwnMonth_12 ?_
    refine v_iload_2 hC dX5_isOwnMonth_13 ?_
    refine v_iconst hC dX5_isOwnMonth_14 ic_1 ?_
    refine v_iand hC dX5_isOwnMonth_15 ?_
    refine v_icne (tgt := 23) hC dX5_isOwnMonth_16 (by decide) (fun h16 => ?_) (fun h16 => ?_)
    · refine v_iconst hC dX5_isOwnMonth_23 ic_0 ?_
      exact v_zret hC hT (bI_f (fun q => q.elim (fun q => q h7) (fun q => h16 ((odd_eq (by omega) (by omega)).mpr q)))) dX5_isOwnMonth_24
    · refine v_iconst hC dX5_isOwnMonth_19 ic_1 ?_
      refine v_goto (tgt := 24) hC dX5_isOwnMonth_20 (by decide) ?_
      exact v_zret hC hT (bI_t (Or.inr ((odd_eq (by omega) (by omega)).mp h16))) dX5_isOwnMonth_24
theorem k_X5_apart {l : Launch} {E : ET} {σ μ : St} (hwc : WC σ) {i j : Nat} (ha : i < 10) (hb : j < 10) : Ct l E MX5_apart [.ref (adr E 2), .int (nI i), .int (nI j)] (σ) (μ) (some (.int (nI (apN σ i j)))) (σ) (μ) := by
  refine Ct.of (L := [some (.ref (adr E 2)), some (.int (nI i)), some (.int (nI j)), none]) (by decide) rfl (Nat.le_of_ble_eq_true rfl) rfl (fun X hC hT => ?_)
  refine v_aload_0 hC dX5_apart_0 ?_
  refine v_get hC fX5_19 (by decide) rfl rfl dX5_apart_1 ?_
  refine v_iload_1 hC dX5_apart_4 ?_
  refine v_iald hC C_4 (by omega) dX5_apart_5 ?_
  refine v_aload_0 hC dX5_apart_6 ?_
  refine v_get hC fX5_19 (by decide) rfl rfl dX5_apart_7 ?_
  refine v_iload_2 hC dX5_apart_10 ?_
  refine v_iald hC C_4 (by omega) dX5_apart_11 ?_
  refine v_isub hC dX5_apart_12 ?_
  refine v_abs hC lX5_35 st_abs ini_Math co_abs (by decide) (Nat.le_of_ble_eq_true rfl) dX5_apart_13 ?_
  refine v_aload_0 hC dX5_apart_16 ?_
  refine v_get hC fX5_22 (by decide) rfl rfl dX5_apart_17 ?_
  refine v_iload_1 hC dX5_apart_20 ?_
  refine v_iald hC C_5 (by omega) dX5_apart_21 ?_
  refine v_aload_0 hC dX5_apart_22 ?_
  refine v_get hC fX5_22 (by decide) rfl rfl dX5_apart_23 ?_
  refine v_iload_2 hC dX5_apart_26 ?_
  refine v_iald hC C_5 (by omega) dX5_apart_27 ?_
  refine v_isub hC dX5_apart_28 ?_
  refine v_abs hC lX5_35 st_abs ini_Math co_abs (by decide) (Nat.le_of_ble_eq_true rfl) dX5_apart_29 ?_
  refine v_max hC lX5_41 st_max ini_Math co_max (by decide) (Nat.le_of_ble_eq_true rfl) dX5_apart_32 ?_
  refine v_istore_3 hC (by decide) rfl dX5_apart_35 ?_
  refine v_iload_3 hC dX5_apart_36 ?_
  refine v_bipush hC dX5_apart_37 bp_9 ?_
  refine v_min hC lX5_45 st_min ini_Math co_min (by decide) (Nat.le_of_ble_eq_true rfl) dX5_apart_39 ?_
  exact v_iret hC hT (by rw [← cAp_N hwc ha hb]; rfl) dX5_apart_42
theorem k_X5_layer {l : Launch} {E : ET} {σ μ : St} {i j : Nat} (ha : i < 10) (hb : j < 10) : Ct l E MX5_layer [.ref (adr E 2), .int (nI i), .int (nI j)] (σ) (μ) (some (.int (nI (lyN σ i j)))) (σ) (μ) := by
  refine Ct.of (L := [some (.ref (adr E 2)), some (.int (nI i)), some (.int (nI j))]) (by decide) rfl (Nat.le_of_ble_eq_true rfl) rfl (fun X hC hT => ?_)
  refine v_aload_0 hC dX5_layer_0 ?_
  refine v_get hC fX5_15 (by decide) rfl rfl dX5_layer_1 ?_
  refine v_iload_1 hC dX5_layer_4 ?_
  refine v_iald hC C_3 (by omega) dX5_layer_5 ?_
  refine v_iconst hC dX5_layer_6 ic_1 ?_
  refine v_icne (tgt := 14) hC dX5_layer_7 (by decide) (fun h7 => ?_) (fun h7 => ?_)
  · refine v_iconst hC dX5_layer_14 ic_0 ?_
    refine v_aload_0 hC dX5_layer_15 ?_
    refine v_get hC fX5_15 (by decide) rfl rfl dX5_layer_16 ?_
    refine v_iload_2 hC dX5_layer_19 ?_
    refine v_iald hC C_3 (by omega) dX5_layer_20 ?_
    refine v_iconst hC dX5_layer_21 ic_1 ?_
    refine v_icne (tgt := 29) hC dX5_layer_22 (by decide) (fun h22 => ?_) (fun h22 => ?_)
    · refine v_iconst hC dX5_layer_29 ic_0 ?_
      refine v_iceq (tgt := 37) hC dX5_layer_30 (by decide) (fun h30 => ?_) (fun h30 => absurd rfl h30)
      refine v_iconst hC dX5_layer_37 ic_0 ?_
      exact v_iret hC hT (by rw [lyN, if_pos (iff_of_false h7 h22)]) dX5_layer_38
    · refine v_iconst hC dX5_layer_25 ic_1 ?_
      refine v_goto (tgt := 30) hC dX5_layer_26 (by decide) ?_
      refine v_iceq (tgt := 37) hC dX5_layer_30 (by decide) (fun h30 => absurd h30 (by decide)) (fun h30 => ?_)
      refine v_iconst hC dX5_layer_33 ic_1 ?_
      refine v_goto (tgt := 38) hC dX5_layer_34 (by decide) ?_
      exact v_iret hC hT (by rw [lyN, if_neg (fun q => h7 (q.mpr h22))]) dX5_layer_38
  · refine v_iconst hC dX5_layer_10 ic_1 ?_
    refine v_goto (tgt := 15) hC dX5_layer_11 (by decide) ?_
    refine v_aload_0 hC dX5_layer_15 ?_
    refine v_get hC fX5_15 (by decide) rfl rfl dX5_layer_16 ?_
    refine v_iload_2 hC dX5_layer_19 ?_
    refine v_iald hC C_3 (by omega) dX5_layer_20 ?_
    refine v_iconst hC dX5_layer_21 ic_1 ?_
    refine v_icne (tgt := 29) hC dX5_layer_22 (by decide) (fun h22 => ?_) (fun h22 => ?_)
    · refine v_iconst hC dX5_layer_29 ic_0 ?_
      refine v_iceq (tgt := 37) hC dX5_layer_30 (by decide) (fun h30 => absurd h30 (by decide)) (fun h30 => ?_)
      refine v_iconst hC dX5_layer_33 ic_1 ?_
      refine v_goto (tgt := 38) hC dX5_layer_34 (by decide) ?_
      exact v_iret hC hT (by rw [lyN, if_neg (fun q => h22 (q.mp h7))]) dX5_layer_38
    · refine v_iconst hC dX5_layer_25 ic_1 ?_
      refine v_goto (tgt := 30) hC dX5_layer_26 (by decide) ?_
      refine v_iceq (tgt := 37) hC dX5_layer_30 (by decide) (fun h30 => ?_) (fun h30 => absurd rfl h30)
      refine v_iconst hC dX5_layer_37 ic_0 ?_
      exact v_iret hC hT (by rw [lyN, if_pos (iff_of_true h7 h22)]) dX5_layer_38
theorem k_X3_keepsOrder {l : Launch} {E : ET} {σ μ : St} {i d g : Nat} (hl : i < 2) (hd : d < 10) (hg : g < 12) (v : Int32) : Ct l E MX3_keepsOrder [.ref (adr E 8), .int (nI i), .int (nI d), .int (nI g), .int v] (σ) (μ) (some (.int (bI (kO σ i d g v)))) (σ) (μ) := by
  refine Ct.of (L := [some (.ref (adr E 8)), some (.int (nI i)), some (.int (nI d)), some (.int (nI g)), some (.int v)]) (by decide) rfl (Nat.le_of_ble_eq_true rfl) rfl (fun X hC hT => ?_)
  refine v_iload_2 hC dX3_keepsOrder_0 ?_
  refine v_ifle (tgt := 25) hC dX3_keepsOrder_1 (by decide) (fun h1 => ?_) (fun h1 => ?_)
  · refine v_iload_2 hC dX3_keepsOrder_25 ?_
    refine v_bipush hC dX3_keepsOrder_26 bp_9 ?_
    refine v_iceq (tgt := 50) hC dX3_keepsOrder_28 (by decide) (fun h28 => ?_) (fun h28 => ?_)
    · refine v_iconst hC dX3_keepsOrder_50 ic_1 ?_
      refine v_goto (tgt := 55) hC dX3_keepsOrder_51 (by decide) ?_
      exact v_zret hC hT (bI_t ⟨(Or.inl (nI_le0 (by omega) h1)), Or.inl ((nI_eq (by omega) (by omega)).mp h28)⟩) dX3_keepsOrder_55
    · refine v_iload_4 hC dX3_keepsOrder_31 ?_
      refine v_aload_0 hC dX3_keepsOrder_33 ?_
      refine v_get hC fX3_9 (by decide) rfl rfl dX3_keepsOrder_34 ?_
      refine v_iload_1 hC dX3_keepsOrder_37 ?_
      refine v_iload_2 hC dX3_keepsOrder_38 ?_
      refine v_iconst hC dX3_keepsOrder_39 ic_1 ?_
      refine v_iaddN hC dX3_keepsOrder_40 ?_
      refine v_cs2r hC lX3_21 (k_X3_row) ⟨Nat.le_of_ble_eq_true rfl, Nat.le_of_ble_eq_true rfl, rfl, rfl⟩ (Nat.le_of_ble_eq_true rfl) dX3_keepsOrder_41 ?_
      refine v_iload_3 hC dX3_keepsOrder_44 ?_
      refine v_iaddN hC dX3_keepsOrder_45 ?_
      refine v_iald hC C_9 (by have : d ≠ 9 := fun q => h28 (by rw [q]); omega) dX3_keepsOrder_46 ?_
      refine v_iclt (tgt := 54) hC dX3_keepsOrder_47 (by decide) (fun h47 => ?_) (fun h47 => ?_)
      · refine v_iconst hC dX3_keepsOrder_54 ic_0 ?_
        exact v_zret hC hT (bI_f (fun q => q.2.elim (fun q => h28 (by rw [q])) (fun q => absurd h47 (Int32.not_lt.mpr q)))) dX3_keepsOrder_55
      · refine v_iconst hC dX3_keepsOrder_50 ic_1 ?_
        refine v_goto (tgt := 55) hC dX3_keepsOrder_51 (by decide) ?_
        exact v_zret hC hT (bI_t ⟨(Or.inl (nI_le0 (by omega) h1)), Or.inr (Int32.not_lt.mp h47)⟩) dX3_keepsOrder_55
  · refine v_iload_4 hC dX3_keepsOrder_4 ?_
    refine v_aload_0 hC dX3_keepsOrder_6 ?_
    refine v_get hC fX3_9 (by decide) rfl rfl dX3_keepsOrder_7 ?_
    refine v_iload_1 hC dX3_keepsOrder_10 ?_
    refine v_iload_2 hC dX3_keepsOrder_11 ?_
    refine v_iconst hC dX3_keepsOrder_12 ic_1 ?_
    refine v_isubN hC dX3_keepsOrder_13 (Nat.pos_of_ne_zero (fun q => h1 (by rw [q]; decide))) ?_
    refine v_cs2r hC lX3_21 (k_X3_row) ⟨Nat.le_of_ble_eq_true rfl, Nat.le_of_ble_eq_true rfl, rfl, rfl⟩ (Nat.le_of_ble_eq_true rfl) dX3_keepsOrder_14 ?_
    refine v_iload_3 hC dX3_keepsOrder_17 ?_
    refine v_iaddN hC dX3_keepsOrder_18 ?_
    refine v_iald hC C_9 (by omega) dX3_keepsOrder_19 ?_
    refine v_icle (tgt := 25) hC dX3_keepsOrder_20 (by decide) (fun h20 => ?_) (fun h20 => ?_)
    · refine v_iload_2 hC dX3_keepsOrder_25 ?_
      refine v_bipush hC dX3_keepsOrder_26 bp_9 ?_
      refine v_iceq (tgt := 50) hC dX3_keepsOrder_28 (by decide) (fun h28 => ?_) (fun h28 => ?_)
      · refine v_iconst hC dX3_keepsOrder_50 ic_1 ?_
        refine v_goto (tgt := 55) hC dX3_keepsOrder_51 (by decide) ?_
        exact v_zret hC hT (bI_t ⟨(Or.inr h20), Or.inl ((nI_eq (by omega) (by omega)).mp h28)⟩) dX3_keepsOrder_55
      · refine v_iload_4 hC dX3_keepsOrder_31 ?_
        refine v_aload_0 hC dX3_keepsOrder_33 ?_
        refine v_get hC fX3_9 (by decide) rfl rfl dX3_keepsOrder_34 ?_
        refine v_iload_1 hC dX3_keepsOrder_37 ?_
        refine v_iload_2 hC dX3_keepsOrder_38 ?_
        refine v_iconst hC dX3_keepsOrder_39 ic_1 ?_
        refine v_iaddN hC dX3_keepsOrder_40 ?_
        refine v_cs2r hC lX3_21 (k_X3_row) ⟨Nat.le_of_ble_eq_true rfl, Nat.le_of_ble_eq_true rfl, rfl, rfl⟩ (Nat.le_of_ble_eq_true rfl) dX3_keepsOrder_41 ?_
        refine v_iload_3 hC dX3_keepsOrder_44 ?_
        refine v_iaddN hC dX3_keepsOrder_45 ?_
        refine v_iald hC C_9 (by have : d ≠ 9 := fun q => h28 (by rw [q]); omega) dX3_keepsOrder_46 ?_
        refine v_iclt (tgt := 54) hC dX3_keepsOrder_47 (by decide) (fun h47 => ?_) (fun h47 => ?_)
        · refine v_iconst hC dX3_keepsOrder_54 ic_0 ?_
          exact v_zret hC hT (bI_f (fun q => q.2.elim (fun q => h28 (by rw [q])) (fun q => absurd h47 (Int32.not_lt.mpr q)))) dX3_keepsOrder_55
        · refine v_iconst hC dX3_keepsOrder_50 ic_1 ?_
          refine v_goto (tgt := 55) hC dX3_keepsOrder_51 (by decide) ?_
          exact v_zret hC hT (bI_t ⟨(Or.inr h20), Or.inr (Int32.not_lt.mp h47)⟩) dX3_keepsOrder_55
    · refine v_iconst hC dX3_keepsOrder_23 ic_0 ?_
      exact v_zret hC hT (bI_f (fun q => q.1.elim (fun q => h1 (by rw [q]; decide)) h20)) dX3_keepsOrder_24
theorem k_X3_startTrial {l : Launch} {E : ET} {σ μ : St} {i g : Nat} (hl : i < 2) (hg : g < 12) : Ct l E MX3_startTrial [.ref (adr E 8), .int (nI i), .int (nI g)] (σ) (μ) (none) (cSta σ i g) (μ) := by
  refine Ct.of (L := [some (.ref (adr E 8)), some (.int (nI i)), some (.int (nI g)), none]) (by decide) rfl (Nat.le_of_ble_eq_true rfl) rfl (fun X hC hT => ?_)
  refine v_iconst hC dX3_startTrial_0 ic_0 ?_
  refine v_istore_3 hC (by decide) rfl dX3_startTrial_1 ?_
  refine up_loop (fun d : Nat => V X E 2 [some (.ref (adr E 8)), some (.int (nI i)), some (.int (nI g)), some (.int (nI d))] [] (it0 (fSta i g) d σ) (μ)) (Nat.zero_le (10)) ?_ (fun d _ hd ih => ?_)
  · refine v_iload_3 hC dX3_startTrial_2 ?_
    refine v_bipush hC dX3_startTrial_3 bp_10 ?_
    refine v_icge (tgt := 32) hC dX3_startTrial_5 (by decide) (fun h5 => ?_) (fun h5 => absurd (Int32.le_refl _) h5)
    exact v_vret hC hT rfl dX3_startTrial_32
  · refine v_iload_3 hC dX3_startTrial_2 ?_
    refine v_bipush hC dX3_startTrial_3 bp_10 ?_
    refine v_icge (tgt := 32) hC dX3_startTrial_5 (by decide) (fun h5 => absurd h5 (nI_ge hd (by decide))) (fun h5 => ?_)
    refine v_aload_0 hC dX3_startTrial_8 ?_
    refine v_get hC fX3_18 (by decide) rfl rfl dX3_startTrial_9 ?_
    refine v_iload_3 hC dX3_startTrial_12 ?_
    refine v_aload_0 hC dX3_startTrial_13 ?_
    refine v_get hC fX3_9 (by decide) rfl rfl dX3_startTrial_14 ?_
    refine v_iload_1 hC dX3_startTrial_17 ?_
    refine v_iload_3 hC dX3_startTrial_18 ?_
    refine v_cs2r hC lX3_21 (k_X3_row) ⟨Nat.le_of_ble_eq_true rfl, Nat.le_of_ble_eq_true rfl, rfl, rfl⟩ (Nat.le_of_ble_eq_true rfl) dX3_startTrial_19 ?_
    refine v_iload_2 hC dX3_startTrial_22 ?_
    refine v_iaddN hC dX3_startTrial_23 ?_
    refine v_iald hC C_9 (by omega) dX3_startTrial_24 ?_
    refine v_iast hC C_11 (by omega) dX3_startTrial_25 ?_
    refine v_iinc1_3 hC (by decide) rfl dX3_startTrial_26 ?_
    refine v_goto (tgt := 2) hC dX3_startTrial_29 (by decide) ?_
    exact ih
theorem k_X3_tryFactor {l : Launch} {E : ET} {σ μ : St} {i g : Nat} (hl : i < 2) (hg : g < 12) (f : Int32) : Ct l E MX3_tryFactor [.ref (adr E 8), .int (nI i), .int (nI g), .int f] (σ) (μ) (none) (cTry σ i g f) (μ) := by
  refine Ct.of (L := [some (.ref (adr E 8)), some (.int (nI i)), some (.int (nI g)), some (.int f), none]) (by decide) rfl (Nat.le_of_ble_eq_true rfl) rfl (fun X hC hT => ?_)
  refine v_iconst hC dX3_tryFactor_0 ic_0 ?_
  refine v_istore_4 hC (by decide) rfl dX3_tryFactor_1 ?_
  refine up_loop (fun d : Nat => V X E 3 [some (.ref (adr E 8)), some (.int (nI i)), some (.int (nI g)), some (.int f), some (.int (nI d))] [] (it0 (fTry i g f) d σ) (μ)) (Nat.zero_le (10)) ?_ (fun d _ hd ih => ?_)
  · refine v_iload_4 hC dX3_tryFactor_3 ?_
    refine v_bipush hC dX3_tryFactor_5 bp_10 ?_
    refine v_icge (tgt := 47) hC dX3_tryFactor_7 (by decide) (fun h7 => ?_) (fun h7 => absurd (Int32.le_refl _) h7)
    exact v_vret hC hT rfl dX3_tryFactor_47
  · refine v_iload_4 hC dX3_tryFactor_3 ?_
    refine v_bipush hC dX3_tryFactor_5 bp_10 ?_
    refine v_icge (tgt := 47) hC dX3_tryFactor_7 (by decide) (fun h7 => absurd h7 (nI_ge hd (by decide))) (fun h7 => ?_)
    refine v_aload_0 hC dX3_tryFactor_10 ?_
    refine v_get hC fX3_9 (by decide) rfl rfl dX3_tryFactor_11 ?_
    refine v_iload_1 hC dX3_tryFactor_14 ?_
    refine v_iload_4 hC dX3_tryFactor_15 ?_
    refine v_cs2r hC lX3_21 (k_X3_row) ⟨Nat.le_of_ble_eq_true rfl, Nat.le_of_ble_eq_true rfl, rfl, rfl⟩ (Nat.le_of_ble_eq_true rfl) dX3_tryFactor_17 ?_
    refine v_iload_2 hC dX3_tryFactor_20 ?_
    refine v_iaddN hC dX3_tryFactor_21 ?_
    refine v_aload_0 hC dX3_tryFactor_22 ?_
    refine v_get hC fX3_18 (by decide) rfl rfl dX3_tryFactor_23 ?_
    refine v_iload_4 hC dX3_tryFactor_26 ?_
    refine v_iald hC C_11 (by omega) dX3_tryFactor_28 ?_
    refine v_iload_3 hC dX3_tryFactor_29 ?_
    refine v_imul hC dX3_tryFactor_30 ?_
    refine v_bipush hC dX3_tryFactor_31 bp_100 ?_
    refine v_idiv hC dX3_tryFactor_33 (by decide) ?_
    refine v_sipush hC dX3_tryFactor_34 sp_1000 ?_
    refine v_min hC lX3_25 st_min ini_Math co_min (by decide) (Nat.le_of_ble_eq_true rfl) dX3_tryFactor_37 ?_
    refine v_iast hC C_9 (by omega) dX3_tryFactor_40 ?_
    refine v_iinc1_4 hC (by decide) rfl dX3_tryFactor_41 ?_
    refine v_goto (tgt := 3) hC dX3_tryFactor_44 (by decide) ?_
    exact ih
theorem k_X0_add {l : Launch} {E : ET} {σ μ : St} {n : Nat} (hn : σ 12 0 = nI n) (hn10 : n < 10) (k x y : Int32) : Ct l E MX0_add [.ref (adr E 12), .int k, .int x, .int y] (σ) (μ) (some (.int (nI n))) (cLic σ n k x y) (μ) := by
  refine Ct.of (L := [some (.ref (adr E 12)), some (.int k), some (.int x), some (.int y), none]) (by decide) rfl (Nat.le_of_ble_eq_true rfl) rfl (fun X hC hT => ?_)
  refine v_aload_0 hC dX0_add_0 ?_
  refine v_get hC fX0_9 (by decide) rfl rfl dX0_add_1 ?_
  refine v_top (hn) ?_
  refine v_istore_4 hC (by decide) rfl dX0_add_4 ?_
  refine v_aload_0 hC dX0_add_6 ?_
  refine v_get hC fX0_15 (by decide) rfl rfl dX0_add_7 ?_
  refine v_iload_4 hC dX0_add_10 ?_
  refine v_iload_1 hC dX0_add_12 ?_
  refine v_iast hC C_13 (by omega) dX0_add_13 ?_
  refine v_aload_0 hC dX0_add_14 ?_
  refine v_get hC fX0_19 (by decide) rfl rfl dX0_add_15 ?_
  refine v_iload_4 hC dX0_add_18 ?_
  refine v_iload_2 hC dX0_add_20 ?_
  refine v_iast hC C_14 (by omega) dX0_add_21 ?_
  refine v_aload_0 hC dX0_add_22 ?_
  refine v_get hC fX0_22 (by decide) rfl rfl dX0_add_23 ?_
  refine v_iload_4 hC dX0_add_26 ?_
  refine v_iload_3 hC dX0_add_28 ?_
  refine v_iast hC C_15 (by omega) dX0_add_29 ?_
  refine v_aload_0 hC dX0_add_30 ?_
  refine v_get hC fX0_25 (by decide) rfl rfl dX0_add_31 ?_
  refine v_iload_4 hC dX0_add_34 ?_
  refine v_iconst (v := -1) hC dX0_add_36 (by decide +kernel) ?_
  refine v_iast hC C_16 (by omega) dX0_add_37 ?_
  refine v_aload_0 hC dX0_add_38 ?_
  refine v_dup hC rfl dX0_add_39 ?_
  refine v_get hC fX0_9 (by decide) rfl rfl dX0_add_40 ?_
  refine v_iconst hC dX0_add_43 ic_1 ?_
  refine v_iadd hC dX0_add_44 ?_
  refine v_put hC pX0_9 (by decide) rfl (Nat.le_of_ble_eq_true rfl) rfl dX0_add_45 ?_
  refine v_iload_4 hC dX0_add_48 ?_
  exact v_iret hC hT rfl dX0_add_50
theorem fNext_10 (σ : St) {n : Nat} (hn : n ≤ 10) : (it0 (fNext σ) n (-1)).toNatClampNeg < 10 := it0_inv (fun x : Int32 => x.toNatClampNeg < 10) n (by decide) (fun i x hi hx => by
  unfold fNext
  split
  · rw [nI_clamp (by omega)]; omega
  · exact hx)
theorem k_X0_nextUnserved {l : Launch} {E : ET} {σ μ : St} (hwc : WC σ) : Ct l E MX0_nextUnserved [.ref (adr E 12)] (σ) (μ) (some (.int (cNext σ))) (σ) (μ) := by
  have h10 := hwc.l10
  refine Ct.of (L := [some (.ref (adr E 12)), none, none]) (by decide) rfl (Nat.le_of_ble_eq_true rfl) rfl (fun X hC hT => ?_)
  refine v_iconst (v := -1) hC dX0_nextUnserved_0 (by decide +kernel) ?_
  refine v_istore_1 hC (by decide) rfl dX0_nextUnserved_1 ?_
  refine v_iconst hC dX0_nextUnserved_2 ic_0 ?_
  refine v_istore_2 hC (by decide) rfl dX0_nextUnserved_3 ?_
  refine up_loop (fun d : Nat => V X E 4 [some (.ref (adr E 12)), some (.int (it0 (fNext σ) d (-1))), some (.int (nI d))] [] (σ) (μ)) (Nat.zero_le (nLi σ)) ?_ (fun d _ hd ih => ?_)
  · refine v_iload_2 hC dX0_nextUnserved_4 ?_
    refine v_aload_0 hC dX0_nextUnserved_5 ?_
    refine v_get hC fX0_9 (by decide) rfl rfl dX0_nextUnserved_6 ?_
    refine v_icge (tgt := 49) hC dX0_nextUnserved_9 (by decide) (fun h9 => ?_) (fun h9 => absurd (by rw [hwc.l]; exact Int32.le_refl _) h9)
    refine v_iload_1 hC dX0_nextUnserved_49 ?_
    exact v_iret hC hT rfl dX0_nextUnserved_50
  · refine v_iload_2 hC dX0_nextUnserved_4 ?_
    refine v_aload_0 hC dX0_nextUnserved_5 ?_
    refine v_get hC fX0_9 (by decide) rfl rfl dX0_nextUnserved_6 ?_
    refine v_icge (tgt := 49) hC dX0_nextUnserved_9 (by decide) (fun h9 => absurd h9 (by rw [hwc.l]; exact nI_ge hd (by omega))) (fun h9 => ?_)
    refine v_aload_0 hC dX0_nextUnserved_12 ?_
    refine v_get hC fX0_25 (by decide) rfl rfl dX0_nextUnserved_13 ?_
    refine v_iload_2 hC dX0_nextUnserved_16 ?_
    refine v_iald hC C_16 (by omega) dX0_nextUnserved_17 ?_
    refine v_iconst (v := -1) hC dX0_nextUnserved_18 (by decide +kernel) ?_
    refine v_icne (tgt := 43) hC dX0_nextUnserved_19 (by decide) (fun h19 => ?_) (fun h19 => ?_)
    · refine v_iinc1_2 hC (by decide) rfl dX0_nextUnserved_43 ?_
      refine v_goto (tgt := 4) hC dX0_nextUnserved_46 (by decide) ?_
      exact v_leq_1 (if_neg (fun q => h19 q.1)).symm ih
    · refine v_iload_1 hC dX0_nextUnserved_22 ?_
      refine v_iflt (tgt := 41) hC dX0_nextUnserved_23 (by decide) (fun h23 => ?_) (fun h23 => ?_)
      · refine v_iload_2 hC dX0_nextUnserved_41 ?_
        refine v_istore_1 hC (by decide) rfl dX0_nextUnserved_42 ?_
        refine v_iinc1_2 hC (by decide) rfl dX0_nextUnserved_43 ?_
        refine v_goto (tgt := 4) hC dX0_nextUnserved_46 (by decide) ?_
        exact v_leq_1 (if_pos ⟨h19, Or.inl h23⟩).symm ih
      · refine v_aload_0 hC dX0_nextUnserved_26 ?_
        refine v_get hC fX0_19 (by decide) rfl rfl dX0_nextUnserved_27 ?_
        refine v_iload_2 hC dX0_nextUnserved_30 ?_
        refine v_iald hC C_14 (by omega) dX0_nextUnserved_31 ?_
        refine v_aload_0 hC dX0_nextUnserved_32 ?_
        refine v_get hC fX0_19 (by decide) rfl rfl dX0_nextUnserved_33 ?_
        refine v_iload_1 hC dX0_nextUnserved_36 ?_
        refine v_top (nI_self h23) ?_
        refine v_iald hC C_14 (fNext_10 σ (by omega)) dX0_nextUnserved_37 ?_
        refine v_icge (tgt := 43) hC dX0_nextUnserved_38 (by decide) (fun h38 => ?_) (fun h38 => ?_)
        · refine v_iinc1_2 hC (by decide) rfl dX0_nextUnserved_43 ?_
          refine v_goto (tgt := 4) hC dX0_nextUnserved_46 (by decide) ?_
          exact v_leq_1 (if_neg (fun q => q.2.elim h23 (fun z => absurd z (Int32.not_lt.mpr h38)))).symm ih
        · refine v_iload_2 hC dX0_nextUnserved_41 ?_
          refine v_istore_1 hC (by decide) rfl dX0_nextUnserved_42 ?_
          refine v_iinc1_2 hC (by decide) rfl dX0_nextUnserved_43 ?_
          refine v_goto (tgt := 4) hC dX0_nextUnserved_46 (by decide) ?_
          exact v_leq_1 (if_pos ⟨h19, Or.inr (Int32.not_le.mp h38)⟩).symm ih
theorem k_X1_has {l : Launch} {E : ET} {σ μ : St} {w m : Nat} (hw : w < 10) (hm : m < 24) : Ct l E MX1_has [.ref (adr E 17), .int (nI w), .int (nI m)] (σ) (μ) (some (.int (bI (¬ σ 18 (w * 24 + m) = 0)))) (σ) (μ) := by
  refine Ct.of (L := [some (.ref (adr E 17)), some (.int (nI w)), some (.int (nI m))]) (by decide) rfl (Nat.le_of_ble_eq_true rfl) rfl (fun X hC hT => ?_)
  refine v_aload_0 hC dX1_has_0 ?_
  refine v_get hC fX1_15 (by decide) rfl rfl dX1_has_1 ?_
  refine v_iload_1 hC dX1_has_4 ?_
  refine v_bipush hC dX1_has_5 bp_24 ?_
  refine v_imulN hC dX1_has_7 ?_
  refine v_iload_2 hC dX1_has_8 ?_
  refine v_iaddN hC dX1_has_9 ?_
  refine v_iald hC C_18 (by omega) dX1_has_10 ?_
  refine v_ifeq (tgt := 18) hC dX1_has_11 (by decide) (fun h11 => ?_) (fun h11 => ?_)
  · refine v_iconst hC dX1_has_18 ic_0 ?_
    exact v_zret hC hT (bI_f (fun q => q h11)) dX1_has_19
  · refine v_iconst hC dX1_has_14 ic_1 ?_
    refine v_goto (tgt := 19) hC dX1_has_15 (by decide) ?_
    exact v_zret hC hT (bI_t h11) dX1_has_19
theorem k_X1_at {l : Launch} {E : ET} {σ μ : St} {w m : Nat} (hw : w < 10) (hm : m < 24) : Ct l E MX1_at [.ref (adr E 17), .int (nI w), .int (nI m)] (σ) (μ) (some (.int (σ 19 (w * 24 + m)))) (σ) (μ) := by
  refine Ct.of (L := [some (.ref (adr E 17)), some (.int (nI w)), some (.int (nI m))]) (by decide) rfl (Nat.le_of_ble_eq_true rfl) rfl (fun X hC hT => ?_)
  refine v_aload_0 hC dX1_at_0 ?_
  refine v_get hC fX1_19 (by decide) rfl rfl dX1_at_1 ?_
  refine v_iload_1 hC dX1_at_4 ?_
  refine v_bipush hC dX1_at_5 bp_24 ?_
  refine v_imulN hC dX1_at_7 ?_
  refine v_iload_2 hC dX1_at_8 ?_
  refine v_iaddN hC dX1_at_9 ?_
  refine v_iald hC C_19 (by omega) dX1_at_10 ?_
  exact v_iret hC hT rfl dX1_at_11
theorem k_X1_write {l : Launch} {E : ET} {σ μ : St} {w m : Nat} (hw : w < 10) (hm : m < 24) (v : Int32) : Ct l E MX1_write [.ref (adr E 17), .int (nI w), .int (nI m), .int v] (σ) (μ) (none) (cWri σ (w * 24 + m) v) (μ) := by
  refine Ct.of (L := [some (.ref (adr E 17)), some (.int (nI w)), some (.int (nI m)), some (.int v)]) (by decide) rfl (Nat.le_of_ble_eq_true rfl) rfl (fun X hC hT => ?_)
  refine v_aload_0 hC dX1_write_0 ?_
  refine v_iload_1 hC dX1_write_1 ?_
  refine v_iload_2 hC dX1_write_2 ?_
  refine v_cv2r hC lX1_22 ⟨by decide, 1, _, rfl, rfl, fun _ _ _ => ⟨_, rfl⟩⟩ (k_X1_has (by omega) (by omega)) ⟨Nat.le_of_ble_eq_true rfl, Nat.le_of_ble_eq_true rfl, rfl, rfl⟩ (Nat.le_of_ble_eq_true rfl) dX1_write_3 ?_
  refine v_ifneb (tgt := 31) hC dX1_write_6 (by decide) (fun h6 => ?_) (fun h6 => ?_)
  · refine v_aload_0 hC dX1_write_31 ?_
    refine v_get hC fX1_19 (by decide) rfl rfl dX1_write_32 ?_
    refine v_iload_1 hC dX1_write_35 ?_
    refine v_bipush hC dX1_write_36 bp_24 ?_
    refine v_imulN hC dX1_write_38 ?_
    refine v_iload_2 hC dX1_write_39 ?_
    refine v_iaddN hC dX1_write_40 ?_
    refine v_iload_3 hC dX1_write_41 ?_
    refine v_iast hC C_19 (by omega) dX1_write_42 ?_
    exact v_vret hC hT (by rw [cWri, if_neg h6]) dX1_write_43
  · refine v_aload_0 hC dX1_write_9 ?_
    refine v_get hC fX1_15 (by decide) rfl rfl dX1_write_10 ?_
    refine v_iload_1 hC dX1_write_13 ?_
    refine v_bipush hC dX1_write_14 bp_24 ?_
    refine v_imulN hC dX1_write_16 ?_
    refine v_iload_2 hC dX1_write_17 ?_
    refine v_iaddN hC dX1_write_18 ?_
    refine v_iconst hC dX1_write_19 ic_1 ?_
    refine v_iast hC C_18 (by omega) dX1_write_20 ?_
    refine v_aload_0 hC dX1_write_21 ?_
    refine v_dup hC rfl dX1_write_22 ?_
    refine v_get hC fX1_9 (by decide) rfl rfl dX1_write_23 ?_
    refine v_iconst hC dX1_write_26 ic_1 ?_
    refine v_iadd hC dX1_write_27 ?_
    refine v_put hC pX1_9 (by decide) rfl (Nat.le_of_ble_eq_true rfl) rfl dX1_write_28 ?_
    refine v_aload_0 hC dX1_write_31 ?_
    refine v_get hC fX1_19 (by decide) rfl rfl dX1_write_32 ?_
    refine v_iload_1 hC dX1_write_35 ?_
    refine v_bipush hC dX1_write_36 bp_24 ?_
    refine v_imulN hC dX1_write_38 ?_
    refine v_iload_2 hC dX1_write_39 ?_
    refine v_iaddN hC dX1_write_40 ?_
    refine v_iload_3 hC dX1_write_41 ?_
    refine v_iast hC C_19 (by omega) dX1_write_42 ?_
    exact v_vret hC hT (by rw [cWri, if_pos (by simpa using h6)]; rfl) dX1_write_43
theorem k_X6_clear {l : Launch} {E : ET} {σ μ : St} {k n : Nat} (hk : isC k n) : Ct l E MX6_clear [.ref (adr E k)] (σ) (μ) (some (.int (cClr σ k n).1)) ((cClr σ k n).2) (μ) := by
  have hn2 := hk.2.1
  refine Ct.of (L := [some (.ref (adr E k)), none, none]) (by decide) rfl (Nat.le_of_ble_eq_true rfl) rfl (fun X hC hT => ?_)
  refine v_iconst hC dX6_clear_0 ic_0 ?_
  refine v_istore_1 hC (by decide) rfl dX6_clear_1 ?_
  refine v_iconst hC dX6_clear_2 ic_0 ?_
  refine v_istore_2 hC (by decide) rfl dX6_clear_3 ?_
  refine up_loop (fun d : Nat => V X E 4 [some (.ref (adr E k)), some (.int (it0 (clr k) d (nI 0, σ)).1), some (.int (nI d))] [] ((it0 (clr k) d (nI 0, σ)).2) (μ)) (Nat.zero_le (n)) ?_ (fun d _ hd ih => ?_)
  · refine v_iload_2 hC dX6_clear_4 ?_
    refine v_aload_0 hC dX6_clear_5 ?_
    refine v_alen hC hk dX6_clear_6 ?_
    refine v_icge (tgt := 29) hC dX6_clear_7 (by decide) (fun h7 => ?_) (fun h7 => absurd (Int32.le_refl _) h7)
    refine v_iload_1 hC dX6_clear_29 ?_
    exact v_iret hC hT rfl dX6_clear_30
  · refine v_iload_2 hC dX6_clear_4 ?_
    refine v_aload_0 hC dX6_clear_5 ?_
    refine v_alen hC hk dX6_clear_6 ?_
    refine v_icge (tgt := 29) hC dX6_clear_7 (by decide) (fun h7 => absurd h7 (nI_ge hd (by omega))) (fun h7 => ?_)
    refine v_aload_0 hC dX6_clear_10 ?_
    refine v_iload_2 hC dX6_clear_11 ?_
    refine v_iald hC hk (by omega) dX6_clear_12 ?_
    refine v_ifeq (tgt := 23) hC dX6_clear_13 (by decide) (fun h13 => ?_) (fun h13 => ?_)
    · refine v_iinc1_2 hC (by decide) rfl dX6_clear_23 ?_
      refine v_goto (tgt := 4) hC dX6_clear_26 (by decide) ?_
      rw [show it0 (clr k) (d + 1) (nI 0, σ) = _ from if_pos h13] at ih
      exact ih
    · refine v_aload_0 hC dX6_clear_16 ?_
      refine v_iload_2 hC dX6_clear_17 ?_
      refine v_iconst hC dX6_clear_18 ic_0 ?_
      refine v_iast hC hk (by omega) dX6_clear_19 ?_
      refine v_iinc_1 hC (by decide) rfl dX6_clear_20 (congrArg (fun z => _ + z) ic_1) ?_
      refine v_iinc1_2 hC (by decide) rfl dX6_clear_23 ?_
      refine v_goto (tgt := 4) hC dX6_clear_26 (by decide) ?_
      rw [show it0 (clr k) (d + 1) (nI 0, σ) = _ from if_neg h13] at ih
      exact ih
theorem k_X6_copyRow {l : Launch} {E : ET} {σ μ : St} {k k2 n : Nat} (hk : isC k n) (hk2 : isC k2 n) : Ct l E MX6_copyRow [.ref (adr E k), .ref (adr E k2)] (σ) (μ) (none) (cpy σ k k2 n) (μ) := by
  refine Ct.of (L := [some (.ref (adr E k)), some (.ref (adr E k2))]) (by decide) rfl (Nat.le_of_ble_eq_true rfl) rfl (fun X hC hT => ?_)
  refine v_aload_0 hC dX6_copyRow_0 ?_
  refine v_iconst hC dX6_copyRow_1 ic_0 ?_
  refine v_aload_1 hC dX6_copyRow_2 ?_
  refine v_iconst hC dX6_copyRow_3 ic_0 ?_
  refine v_aload_0 hC dX6_copyRow_4 ?_
  refine v_alen hC hk dX6_copyRow_5 ?_
  refine v_aload_1 hC dX6_copyRow_6 ?_
  refine v_alen hC hk2 dX6_copyRow_7 ?_
  refine v_min hC lX6_161 st_min ini_Math co_min (by decide) (Nat.le_of_ble_eq_true rfl) dX6_copyRow_8 ?_
  refine v_top (mn_self _) ?_
  refine v_acopy hC hk hk2 (by omega) (by omega) lX6_152 na_acopy st_acopy ini_System (by decide) (Nat.le_of_ble_eq_true rfl) dX6_copyRow_11 ?_
  exact v_vret hC hT rfl dX6_copyRow_14
theorem k_X5_take_23 {l : Launch} {E : ET} {σ μ : St}  : Ct l E MX5_take [.ref (adr E 24), .ref (adr E 2)] (σ) (μ) (none) (takeW σ 2 24) (μ) := by
  refine Ct.of (L := [some (.ref (adr E 24)), some (.ref (adr E 2))]) (by decide) rfl (Nat.le_of_ble_eq_true rfl) rfl (fun X hC hT => ?_)
  refine v_aload_0 hC dX5_take_0 ?_
  refine v_aload_1 hC dX5_take_1 ?_
  refine v_get hC fX5_9 (by decide) rfl rfl dX5_take_2 ?_
  refine v_put hC pX5_9 (by decide) rfl (Nat.le_of_ble_eq_true rfl) rfl dX5_take_5 ?_
  refine v_aload_1 hC dX5_take_8 ?_
  refine v_get hC fX5_15 (by decide) rfl rfl dX5_take_9 ?_
  refine v_aload_0 hC dX5_take_12 ?_
  refine v_get hC fX5_15 (by decide) rfl rfl dX5_take_13 ?_
  refine v_cs2 hC lX5_48 (k_X6_copyRow C_3 C_25) ⟨Nat.le_of_ble_eq_true rfl, Nat.le_of_ble_eq_true rfl, rfl, rfl⟩ (Nat.le_of_ble_eq_true rfl) dX5_take_16 ?_
  refine v_aload_1 hC dX5_take_19 ?_
  refine v_get hC fX5_19 (by decide) rfl rfl dX5_take_20 ?_
  refine v_aload_0 hC dX5_take_23 ?_
  refine v_get hC fX5_19 (by decide) rfl rfl dX5_take_24 ?_
  refine v_cs2 hC lX5_48 (k_X6_copyRow C_4 C_26) ⟨Nat.le_of_ble_eq_true rfl, Nat.le_of_ble_eq_true rfl, rfl, rfl⟩ (Nat.le_of_ble_eq_true rfl) dX5_take_27 ?_
  refine v_aload_1 hC dX5_take_30 ?_
  refine v_get hC fX5_22 (by decide) rfl rfl dX5_take_31 ?_
  refine v_aload_0 hC dX5_take_34 ?_
  refine v_get hC fX5_22 (by decide) rfl rfl dX5_take_35 ?_
  refine v_cs2 hC lX5_48 (k_X6_copyRow C_5 C_27) ⟨Nat.le_of_ble_eq_true rfl, Nat.le_of_ble_eq_true rfl, rfl, rfl⟩ (Nat.le_of_ble_eq_true rfl) dX5_take_38 ?_
  refine v_aload_1 hC dX5_take_41 ?_
  refine v_get hC fX5_25 (by decide) rfl rfl dX5_take_42 ?_
  refine v_aload_0 hC dX5_take_45 ?_
  refine v_get hC fX5_25 (by decide) rfl rfl dX5_take_46 ?_
  refine v_cs2 hC lX5_48 (k_X6_copyRow C_6 C_28) ⟨Nat.le_of_ble_eq_true rfl, Nat.le_of_ble_eq_true rfl, rfl, rfl⟩ (Nat.le_of_ble_eq_true rfl) dX5_take_49 ?_
  refine v_aload_1 hC dX5_take_52 ?_
  refine v_get hC fX5_28 (by decide) rfl rfl dX5_take_53 ?_
  refine v_aload_0 hC dX5_take_56 ?_
  refine v_get hC fX5_28 (by decide) rfl rfl dX5_take_57 ?_
  refine v_cs2 hC lX5_48 (k_X6_copyRow C_7 C_29) ⟨Nat.le_of_ble_eq_true rfl, Nat.le_of_ble_eq_true rfl, rfl, rfl⟩ (Nat.le_of_ble_eq_true rfl) dX5_take_60 ?_
  exact v_vret hC hT rfl dX5_take_63
theorem k_X5_take_1 {l : Launch} {E : ET} {σ μ : St}  : Ct l E MX5_take [.ref (adr E 2), .ref (adr E 24)] (σ) (μ) (none) (takeW σ 24 2) (μ) := by
  refine Ct.of (L := [some (.ref (adr E 2)), some (.ref (adr E 24))]) (by decide) rfl (Nat.le_of_ble_eq_true rfl) rfl (fun X hC hT => ?_)
  refine v_aload_0 hC dX5_take_0 ?_
  refine v_aload_1 hC dX5_take_1 ?_
  refine v_get hC fX5_9 (by decide) rfl rfl dX5_take_2 ?_
  refine v_put hC pX5_9 (by decide) rfl (Nat.le_of_ble_eq_true rfl) rfl dX5_take_5 ?_
  refine v_aload_1 hC dX5_take_8 ?_
  refine v_get hC fX5_15 (by decide) rfl rfl dX5_take_9 ?_
  refine v_aload_0 hC dX5_take_12 ?_
  refine v_get hC fX5_15 (by decide) rfl rfl dX5_take_13 ?_
  refine v_cs2 hC lX5_48 (k_X6_copyRow C_25 C_3) ⟨Nat.le_of_ble_eq_true rfl, Nat.le_of_ble_eq_true rfl, rfl, rfl⟩ (Nat.le_of_ble_eq_true rfl) dX5_take_16 ?_
  refine v_aload_1 hC dX5_take_19 ?_
  refine v_get hC fX5_19 (by decide) rfl rfl dX5_take_20 ?_
  refine v_aload_0 hC dX5_take_23 ?_
  refine v_get hC fX5_19 (by decide) rfl rfl dX5_take_24 ?_
  refine v_cs2 hC lX5_48 (k_X6_copyRow C_26 C_4) ⟨Nat.le_of_ble_eq_true rfl, Nat.le_of_ble_eq_true rfl, rfl, rfl⟩ (Nat.le_of_ble_eq_true rfl) dX5_take_27 ?_
  refine v_aload_1 hC dX5_take_30 ?_
  refine v_get hC fX5_22 (by decide) rfl rfl dX5_take_31 ?_
  refine v_aload_0 hC dX5_take_34 ?_
  refine v_get hC fX5_22 (by decide) rfl rfl dX5_take_35 ?_
  refine v_cs2 hC lX5_48 (k_X6_copyRow C_27 C_5) ⟨Nat.le_of_ble_eq_true rfl, Nat.le_of_ble_eq_true rfl, rfl, rfl⟩ (Nat.le_of_ble_eq_true rfl) dX5_take_38 ?_
  refine v_aload_1 hC dX5_take_41 ?_
  refine v_get hC fX5_25 (by decide) rfl rfl dX5_take_42 ?_
  refine v_aload_0 hC dX5_take_45 ?_
  refine v_get hC fX5_25 (by decide) rfl rfl dX5_take_46 ?_
  refine v_cs2 hC lX5_48 (k_X6_copyRow C_28 C_6) ⟨Nat.le_of_ble_eq_true rfl, Nat.le_of_ble_eq_true rfl, rfl, rfl⟩ (Nat.le_of_ble_eq_true rfl) dX5_take_49 ?_
  refine v_aload_1 hC dX5_take_52 ?_
  refine v_get hC fX5_28 (by decide) rfl rfl dX5_take_53 ?_
  refine v_aload_0 hC dX5_take_56 ?_
  refine v_get hC fX5_28 (by decide) rfl rfl dX5_take_57 ?_
  refine v_cs2 hC lX5_48 (k_X6_copyRow C_29 C_7) ⟨Nat.le_of_ble_eq_true rfl, Nat.le_of_ble_eq_true rfl, rfl, rfl⟩ (Nat.le_of_ble_eq_true rfl) dX5_take_60 ?_
  exact v_vret hC hT rfl dX5_take_63
theorem k_X3_take_23 {l : Launch} {E : ET} {σ μ : St}  : Ct l E MX3_take [.ref (adr E 30), .ref (adr E 8)] (σ) (μ) (none) (takeT σ 8 30) (μ) := by
  refine Ct.of (L := [some (.ref (adr E 30)), some (.ref (adr E 8))]) (by decide) rfl (Nat.le_of_ble_eq_true rfl) rfl (fun X hC hT => ?_)
  refine v_aload_1 hC dX3_take_0 ?_
  refine v_get hC fX3_9 (by decide) rfl rfl dX3_take_1 ?_
  refine v_aload_0 hC dX3_take_4 ?_
  refine v_get hC fX3_9 (by decide) rfl rfl dX3_take_5 ?_
  refine v_cs2 hC lX3_30 (k_X6_copyRow C_9 C_31) ⟨Nat.le_of_ble_eq_true rfl, Nat.le_of_ble_eq_true rfl, rfl, rfl⟩ (Nat.le_of_ble_eq_true rfl) dX3_take_8 ?_
  refine v_aload_1 hC dX3_take_11 ?_
  refine v_get hC fX3_15 (by decide) rfl rfl dX3_take_12 ?_
  refine v_aload_0 hC dX3_take_15 ?_
  refine v_get hC fX3_15 (by decide) rfl rfl dX3_take_16 ?_
  refine v_cs2 hC lX3_30 (k_X6_copyRow C_10 C_32) ⟨Nat.le_of_ble_eq_true rfl, Nat.le_of_ble_eq_true rfl, rfl, rfl⟩ (Nat.le_of_ble_eq_true rfl) dX3_take_19 ?_
  exact v_vret hC hT rfl dX3_take_22
theorem k_X3_take_1 {l : Launch} {E : ET} {σ μ : St}  : Ct l E MX3_take [.ref (adr E 8), .ref (adr E 30)] (σ) (μ) (none) (takeT σ 30 8) (μ) := by
  refine Ct.of (L := [some (.ref (adr E 8)), some (.ref (adr E 30))]) (by decide) rfl (Nat.le_of_ble_eq_true rfl) rfl (fun X hC hT => ?_)
  refine v_aload_1 hC dX3_take_0 ?_
  refine v_get hC fX3_9 (by decide) rfl rfl dX3_take_1 ?_
  refine v_aload_0 hC dX3_take_4 ?_
  refine v_get hC fX3_9 (by decide) rfl rfl dX3_take_5 ?_
  refine v_cs2 hC lX3_30 (k_X6_copyRow C_31 C_9) ⟨Nat.le_of_ble_eq_true rfl, Nat.le_of_ble_eq_true rfl, rfl, rfl⟩ (Nat.le_of_ble_eq_true rfl) dX3_take_8 ?_
  refine v_aload_1 hC dX3_take_11 ?_
  refine v_get hC fX3_15 (by decide) rfl rfl dX3_take_12 ?_
  refine v_aload_0 hC dX3_take_15 ?_
  refine v_get hC fX3_15 (by decide) rfl rfl dX3_take_16 ?_
  refine v_cs2 hC lX3_30 (k_X6_copyRow C_32 C_10) ⟨Nat.le_of_ble_eq_true rfl, Nat.le_of_ble_eq_true rfl, rfl, rfl⟩ (Nat.le_of_ble_eq_true rfl) dX3_take_19 ?_
  exact v_vret hC hT rfl dX3_take_22
theorem k_X0_take_23 {l : Launch} {E : ET} {σ μ : St}  : Ct l E MX0_take [.ref (adr E 34), .ref (adr E 12)] (σ) (μ) (none) (takeL σ 12 34) (μ) := by
  refine Ct.of (L := [some (.ref (adr E 34)), some (.ref (adr E 12))]) (by decide) rfl (Nat.le_of_ble_eq_true rfl) rfl (fun X hC hT => ?_)
  refine v_aload_0 hC dX0_take_0 ?_
  refine v_aload_1 hC dX0_take_1 ?_
  refine v_get hC fX0_9 (by decide) rfl rfl dX0_take_2 ?_
  refine v_put hC pX0_9 (by decide) rfl (Nat.le_of_ble_eq_true rfl) rfl dX0_take_5 ?_
  refine v_aload_1 hC dX0_take_8 ?_
  refine v_get hC fX0_15 (by decide) rfl rfl dX0_take_9 ?_
  refine v_aload_0 hC dX0_take_12 ?_
  refine v_get hC fX0_15 (by decide) rfl rfl dX0_take_13 ?_
  refine v_cs2 hC lX0_28 (k_X6_copyRow C_13 C_35) ⟨Nat.le_of_ble_eq_true rfl, Nat.le_of_ble_eq_true rfl, rfl, rfl⟩ (Nat.le_of_ble_eq_true rfl) dX0_take_16 ?_
  refine v_aload_1 hC dX0_take_19 ?_
  refine v_get hC fX0_19 (by decide) rfl rfl dX0_take_20 ?_
  refine v_aload_0 hC dX0_take_23 ?_
  refine v_get hC fX0_19 (by decide) rfl rfl dX0_take_24 ?_
  refine v_cs2 hC lX0_28 (k_X6_copyRow C_14 C_36) ⟨Nat.le_of_ble_eq_true rfl, Nat.le_of_ble_eq_true rfl, rfl, rfl⟩ (Nat.le_of_ble_eq_true rfl) dX0_take_27 ?_
  refine v_aload_1 hC dX0_take_30 ?_
  refine v_get hC fX0_22 (by decide) rfl rfl dX0_take_31 ?_
  refine v_aload_0 hC dX0_take_34 ?_
  refine v_get hC fX0_22 (by decide) rfl rfl dX0_take_35 ?_
  refine v_cs2 hC lX0_28 (k_X6_copyRow C_15 C_37) ⟨Nat.le_of_ble_eq_true rfl, Nat.le_of_ble_eq_true rfl, rfl, rfl⟩ (Nat.le_of_ble_eq_true rfl) dX0_take_38 ?_
  refine v_aload_1 hC dX0_take_41 ?_
  refine v_get hC fX0_25 (by decide) rfl rfl dX0_take_42 ?_
  refine v_aload_0 hC dX0_take_45 ?_
  refine v_get hC fX0_25 (by decide) rfl rfl dX0_take_46 ?_
  refine v_cs2 hC lX0_28 (k_X6_copyRow C_16 C_38) ⟨Nat.le_of_ble_eq_true rfl, Nat.le_of_ble_eq_true rfl, rfl, rfl⟩ (Nat.le_of_ble_eq_true rfl) dX0_take_49 ?_
  exact v_vret hC hT rfl dX0_take_52
theorem k_X0_take_1 {l : Launch} {E : ET} {σ μ : St}  : Ct l E MX0_take [.ref (adr E 12), .ref (adr E 34)] (σ) (μ) (none) (takeL σ 34 12) (μ) := by
  refine Ct.of (L := [some (.ref (adr E 12)), some (.ref (adr E 34))]) (by decide) rfl (Nat.le_of_ble_eq_true rfl) rfl (fun X hC hT => ?_)
  refine v_aload_0 hC dX0_take_0 ?_
  refine v_aload_1 hC dX0_take_1 ?_
  refine v_get hC fX0_9 (by decide) rfl rfl dX0_take_2 ?_
  refine v_put hC pX0_9 (by decide) rfl (Nat.le_of_ble_eq_true rfl) rfl dX0_take_5 ?_
  refine v_aload_1 hC dX0_take_8 ?_
  refine v_get hC fX0_15 (by decide) rfl rfl dX0_take_9 ?_
  refine v_aload_0 hC dX0_take_12 ?_
  refine v_get hC fX0_15 (by decide) rfl rfl dX0_take_13 ?_
  refine v_cs2 hC lX0_28 (k_X6_copyRow C_35 C_13) ⟨Nat.le_of_ble_eq_true rfl, Nat.le_of_ble_eq_true rfl, rfl, rfl⟩ (Nat.le_of_ble_eq_true rfl) dX0_take_16 ?_
  refine v_aload_1 hC dX0_take_19 ?_
  refine v_get hC fX0_19 (by decide) rfl rfl dX0_take_20 ?_
  refine v_aload_0 hC dX0_take_23 ?_
  refine v_get hC fX0_19 (by decide) rfl rfl dX0_take_24 ?_
  refine v_cs2 hC lX0_28 (k_X6_copyRow C_36 C_14) ⟨Nat.le_of_ble_eq_true rfl, Nat.le_of_ble_eq_true rfl, rfl, rfl⟩ (Nat.le_of_ble_eq_true rfl) dX0_take_27 ?_
  refine v_aload_1 hC dX0_take_30 ?_
  refine v_get hC fX0_22 (by decide) rfl rfl dX0_take_31 ?_
  refine v_aload_0 hC dX0_take_34 ?_
  refine v_get hC fX0_22 (by decide) rfl rfl dX0_take_35 ?_
  refine v_cs2 hC lX0_28 (k_X6_copyRow C_37 C_15) ⟨Nat.le_of_ble_eq_true rfl, Nat.le_of_ble_eq_true rfl, rfl, rfl⟩ (Nat.le_of_ble_eq_true rfl) dX0_take_38 ?_
  refine v_aload_1 hC dX0_take_41 ?_
  refine v_get hC fX0_25 (by decide) rfl rfl dX0_take_42 ?_
  refine v_aload_0 hC dX0_take_45 ?_
  refine v_get hC fX0_25 (by decide) rfl rfl dX0_take_46 ?_
  refine v_cs2 hC lX0_28 (k_X6_copyRow C_38 C_16) ⟨Nat.le_of_ble_eq_true rfl, Nat.le_of_ble_eq_true rfl, rfl, rfl⟩ (Nat.le_of_ble_eq_true rfl) dX0_take_49 ?_
  exact v_vret hC hT rfl dX0_take_52
theorem k_X1_take_23 {l : Launch} {E : ET} {σ μ : St}  : Ct l E MX1_take [.ref (adr E 39), .ref (adr E 17)] (σ) (μ) (none) (takeR σ 17 39) (μ) := by
  refine Ct.of (L := [some (.ref (adr E 39)), some (.ref (adr E 17))]) (by decide) rfl (Nat.le_of_ble_eq_true rfl) rfl (fun X hC hT => ?_)
  refine v_aload_0 hC dX1_take_0 ?_
  refine v_aload_1 hC dX1_take_1 ?_
  refine v_get hC fX1_9 (by decide) rfl rfl dX1_take_2 ?_
  refine v_put hC pX1_9 (by decide) rfl (Nat.le_of_ble_eq_true rfl) rfl dX1_take_5 ?_
  refine v_aload_1 hC dX1_take_8 ?_
  refine v_get hC fX1_15 (by decide) rfl rfl dX1_take_9 ?_
  refine v_aload_0 hC dX1_take_12 ?_
  refine v_get hC fX1_15 (by decide) rfl rfl dX1_take_13 ?_
  refine v_cs2 hC lX1_26 (k_X6_copyRow C_18 C_40) ⟨Nat.le_of_ble_eq_true rfl, Nat.le_of_ble_eq_true rfl, rfl, rfl⟩ (Nat.le_of_ble_eq_true rfl) dX1_take_16 ?_
  refine v_aload_1 hC dX1_take_19 ?_
  refine v_get hC fX1_19 (by decide) rfl rfl dX1_take_20 ?_
  refine v_aload_0 hC dX1_take_23 ?_
  refine v_get hC fX1_19 (by decide) rfl rfl dX1_take_24 ?_
  refine v_cs2 hC lX1_26 (k_X6_copyRow C_19 C_41) ⟨Nat.le_of_ble_eq_true rfl, Nat.le_of_ble_eq_true rfl, rfl, rfl⟩ (Nat.le_of_ble_eq_true rfl) dX1_take_27 ?_
  exact v_vret hC hT rfl dX1_take_30
theorem k_X1_take_1 {l : Launch} {E : ET} {σ μ : St}  : Ct l E MX1_take [.ref (adr E 17), .ref (adr E 39)] (σ) (μ) (none) (takeR σ 39 17) (μ) := by
  refine Ct.of (L := [some (.ref (adr E 17)), some (.ref (adr E 39))]) (by decide) rfl (Nat.le_of_ble_eq_true rfl) rfl (fun X hC hT => ?_)
  refine v_aload_0 hC dX1_take_0 ?_
  refine v_aload_1 hC dX1_take_1 ?_
  refine v_get hC fX1_9 (by decide) rfl rfl dX1_take_2 ?_
  refine v_put hC pX1_9 (by decide) rfl (Nat.le_of_ble_eq_true rfl) rfl dX1_take_5 ?_
  refine v_aload_1 hC dX1_take_8 ?_
  refine v_get hC fX1_15 (by decide) rfl rfl dX1_take_9 ?_
  refine v_aload_0 hC dX1_take_12 ?_
  refine v_get hC fX1_15 (by decide) rfl rfl dX1_take_13 ?_
  refine v_cs2 hC lX1_26 (k_X6_copyRow C_40 C_18) ⟨Nat.le_of_ble_eq_true rfl, Nat.le_of_ble_eq_true rfl, rfl, rfl⟩ (Nat.le_of_ble_eq_true rfl) dX1_take_16 ?_
  refine v_aload_1 hC dX1_take_19 ?_
  refine v_get hC fX1_19 (by decide) rfl rfl dX1_take_20 ?_
  refine v_aload_0 hC dX1_take_23 ?_
  refine v_get hC fX1_19 (by decide) rfl rfl dX1_take_24 ?_
  refine v_cs2 hC lX1_26 (k_X6_copyRow C_41 C_19) ⟨Nat.le_of_ble_eq_true rfl, Nat.le_of_ble_eq_true rfl, rfl, rfl⟩ (Nat.le_of_ble_eq_true rfl) dX1_take_27 ?_
  exact v_vret hC hT rfl dX1_take_30
