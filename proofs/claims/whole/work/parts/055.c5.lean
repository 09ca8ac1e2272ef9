theorem wlt {σ : St} (hwc : WC σ) (h : σ 2 0 < nI 10) : nW σ < 10 := by rw [hwc.n] at h; have := hwc.n10; exact (nI_ltI (by omega) (by omega)).mp h
theorem llt {σ : St} (hwc : WC σ) (h : σ 12 0 < nI 10) : nLi σ < 10 := by rw [hwc.l] at h; have := hwc.l10; exact (nI_ltI (by omega) (by omega)).mp h
theorem k_X6_well {l : Launch} {E : ET} {σ μ : St} (hwc : WC σ) (hws : WS σ) (k x y r : Int32) : Ct l E MX6_well [.ref (adr E 0), .int k, .int x, .int y, .int r] (σ) (μ) (some (.int (cfWell σ k x y r).1)) ((cfWell σ k x y r).2) (μ) := by
  have h10 := hwc.n10
  have l10 := hwc.l10
  refine Ct.of (L := [some (.ref (adr E 0)), some (.int k), some (.int x), some (.int y), some (.int r)]) (by decide) rfl (Nat.le_of_ble_eq_true rfl) rfl (fun X hC hT => ?_)
  refine v_iload_1 hC dX6_well_0 ?_
  refine v_cs1r hC lX6_34 (k_X6_isKind _) ⟨Nat.le_of_ble_eq_true rfl, Nat.le_of_ble_eq_true rfl, rfl, rfl⟩ (Nat.le_of_ble_eq_true rfl) dX6_well_1 ?_
  refine v_ifeqb (tgt := 29) hC dX6_well_4 (by decide) (fun h4 => ?_) (fun h4 => ?_)
  · refine v_aload_0 hC dX6_well_29 ?_
    refine v_ldc hC kX6_44 dX6_well_30 ?_
    refine v_cv1r hC lX6_45 ⟨by decide, 6, _, rfl, rfl, fun _ _ _ => ⟨_, rfl⟩⟩ (k_X6_finding _) ⟨Nat.le_of_ble_eq_true rfl, Nat.le_of_ble_eq_true rfl, rfl, rfl⟩ (Nat.le_of_ble_eq_true rfl) dX6_well_32 ?_
    exact v_iret hC hT (by rw [cfWell, if_neg (fun q => h4 q.1)]) dX6_well_35
  · refine v_iload_2 hC dX6_well_7 ?_
    refine v_cs1r hC lX6_38 (k_X6_isPlace _) ⟨Nat.le_of_ble_eq_true rfl, Nat.le_of_ble_eq_true rfl, rfl, rfl⟩ (Nat.le_of_ble_eq_true rfl) dX6_well_8 ?_
    refine v_ifeqb (tgt := 29) hC dX6_well_11 (by decide) (fun h11 => ?_) (fun h11 => ?_)
    · refine v_aload_0 hC dX6_well_29 ?_
      refine v_ldc hC kX6_44 dX6_well_30 ?_
      refine v_cv1r hC lX6_45 ⟨by decide, 6, _, rfl, rfl, fun _ _ _ => ⟨_, rfl⟩⟩ (k_X6_finding _) ⟨Nat.le_of_ble_eq_true rfl, Nat.le_of_ble_eq_true rfl, rfl, rfl⟩ (Nat.le_of_ble_eq_true rfl) dX6_well_32 ?_
      exact v_iret hC hT (by rw [cfWell, if_neg (fun q => h11 q.2.1)]) dX6_well_35
    · refine v_iload_3 hC dX6_well_14 ?_
      refine v_cs1r hC lX6_38 (k_X6_isPlace _) ⟨Nat.le_of_ble_eq_true rfl, Nat.le_of_ble_eq_true rfl, rfl, rfl⟩ (Nat.le_of_ble_eq_true rfl) dX6_well_15 ?_
      refine v_ifeqb (tgt := 29) hC dX6_well_18 (by decide) (fun h18 => ?_) (fun h18 => ?_)
      · refine v_aload_0 hC dX6_well_29 ?_
        refine v_ldc hC kX6_44 dX6_well_30 ?_
        refine v_cv1r hC lX6_45 ⟨by decide, 6, _, rfl, rfl, fun _ _ _ => ⟨_, rfl⟩⟩ (k_X6_finding _) ⟨Nat.le_of_ble_eq_true rfl, Nat.le_of_ble_eq_true rfl, rfl, rfl⟩ (Nat.le_of_ble_eq_true rfl) dX6_well_32 ?_
        exact v_iret hC hT (by rw [cfWell, if_neg (fun q => h18 q.2.2.1)]) dX6_well_35
      · refine v_iload_4 hC dX6_well_21 ?_
        refine v_cs1r hC lX6_41 (k_X6_isHeadBound _) ⟨Nat.le_of_ble_eq_true rfl, Nat.le_of_ble_eq_true rfl, rfl, rfl⟩ (Nat.le_of_ble_eq_true rfl) dX6_well_23 ?_
        refine v_ifneb (tgt := 36) hC dX6_well_26 (by decide) (fun h26 => ?_) (fun h26 => ?_)
        · refine v_aload_0 hC dX6_well_36 ?_
          refine v_get hC fX6_10 (by decide) rfl rfl dX6_well_37 ?_
          refine v_get hC fX6_49 (by decide) rfl rfl dX6_well_40 ?_
          refine v_get hC fX6_53 (by decide) rfl rfl dX6_well_43 ?_
          refine v_bipush hC dX6_well_46 bp_10 ?_
          refine v_iclt (tgt := 58) hC dX6_well_48 (by decide) (fun h48 => ?_) (fun h48 => ?_)
          · refine v_aload_0 hC dX6_well_58 ?_
            refine v_get hC fX6_10 (by decide) rfl rfl dX6_well_59 ?_
            refine v_get hC fX6_49 (by decide) rfl rfl dX6_well_62 ?_
            refine v_iload_1 hC dX6_well_65 ?_
            refine v_iload_2 hC dX6_well_66 ?_
            refine v_iload_3 hC dX6_well_67 ?_
            refine v_iload_4 hC dX6_well_68 ?_
            refine v_cv4r hC lX6_59 ⟨by decide, 5, _, rfl, rfl, fun _ _ _ => ⟨_, rfl⟩⟩ (k_X5_add hwc.n (wlt hwc h48) _ _ _ _) ⟨Nat.le_of_ble_eq_true rfl, Nat.le_of_ble_eq_true rfl, rfl, rfl⟩ (Nat.le_of_ble_eq_true rfl) dX6_well_70 ?_
            exact v_iret hC hT (by rw [cfWell, if_pos ⟨h4, h11, h18, h26⟩, if_pos h48]) dX6_well_73
          · refine v_aload_0 hC dX6_well_51 ?_
            refine v_ldc hC kX6_58 dX6_well_52 ?_
            refine v_cv1r hC lX6_45 ⟨by decide, 6, _, rfl, rfl, fun _ _ _ => ⟨_, rfl⟩⟩ (k_X6_finding _) ⟨Nat.le_of_ble_eq_true rfl, Nat.le_of_ble_eq_true rfl, rfl, rfl⟩ (Nat.le_of_ble_eq_true rfl) dX6_well_54 ?_
            exact v_iret hC hT (by rw [cfWell, if_pos ⟨h4, h11, h18, h26⟩, if_neg h48]) dX6_well_57
        · refine v_aload_0 hC dX6_well_29 ?_
          refine v_ldc hC kX6_44 dX6_well_30 ?_
          refine v_cv1r hC lX6_45 ⟨by decide, 6, _, rfl, rfl, fun _ _ _ => ⟨_, rfl⟩⟩ (k_X6_finding _) ⟨Nat.le_of_ble_eq_true rfl, Nat.le_of_ble_eq_true rfl, rfl, rfl⟩ (Nat.le_of_ble_eq_true rfl) dX6_well_32 ?_
          exact v_iret hC hT (by rw [cfWell, if_neg (fun q => h26 q.2.2.2)]) dX6_well_35
theorem k_X6_limit {l : Launch} {E : ET} {σ μ : St} (hwc : WC σ) (hws : WS σ) (w v : Int32) : Ct l E MX6_limit [.ref (adr E 0), .int w, .int v] (σ) (μ) (some (.int (cfLimit σ w v).1)) ((cfLimit σ w v).2) (μ) := by
  have h10 := hwc.n10
  have l10 := hwc.l10
  refine Ct.of (L := [some (.ref (adr E 0)), some (.int w), some (.int v), none]) (by decide) rfl (Nat.le_of_ble_eq_true rfl) rfl (fun X hC hT => ?_)
  refine v_aload_0 hC dX6_limit_0 ?_
  refine v_iload_1 hC dX6_limit_1 ?_
  refine v_cv1r hC lX6_63 ⟨by decide, 6, _, rfl, rfl, fun _ _ _ => ⟨_, rfl⟩⟩ (k_X6_isWell _) ⟨Nat.le_of_ble_eq_true rfl, Nat.le_of_ble_eq_true rfl, rfl, rfl⟩ (Nat.le_of_ble_eq_true rfl) dX6_limit_2 ?_
  refine v_ifeqb (tgt := 15) hC dX6_limit_5 (by decide) (fun h5 => ?_) (fun h5 => ?_)
  · refine v_aload_0 hC dX6_limit_15 ?_
    refine v_ldc hC kX6_44 dX6_limit_16 ?_
    refine v_cv1r hC lX6_45 ⟨by decide, 6, _, rfl, rfl, fun _ _ _ => ⟨_, rfl⟩⟩ (k_X6_finding _) ⟨Nat.le_of_ble_eq_true rfl, Nat.le_of_ble_eq_true rfl, rfl, rfl⟩ (Nat.le_of_ble_eq_true rfl) dX6_limit_18 ?_
    exact v_iret hC hT (by rw [cfLimit, if_neg (fun q => h5 q.1)]) dX6_limit_21
  · refine v_iload_2 hC dX6_limit_8 ?_
    refine v_cs1r hC lX6_41 (k_X6_isHeadBound _) ⟨Nat.le_of_ble_eq_true rfl, Nat.le_of_ble_eq_true rfl, rfl, rfl⟩ (Nat.le_of_ble_eq_true rfl) dX6_limit_9 ?_
    refine v_ifneb (tgt := 22) hC dX6_limit_12 (by decide) (fun h12 => ?_) (fun h12 => ?_)
    · obtain ⟨w, hw, rfl⟩ := isW_nat hwc h5
      refine v_aload_0 hC dX6_limit_22 ?_
      refine v_get hC fX6_10 (by decide) rfl rfl dX6_limit_23 ?_
      refine v_get hC fX6_49 (by decide) rfl rfl dX6_limit_26 ?_
      refine v_get hC fX6_66 (by decide) rfl rfl dX6_limit_29 ?_
      refine v_iload_1 hC dX6_limit_32 ?_
      refine v_iald hC C_7 (by omega) dX6_limit_33 ?_
      refine v_istore_3 hC (by decide) rfl dX6_limit_34 ?_
      refine v_aload_0 hC dX6_limit_35 ?_
      refine v_get hC fX6_10 (by decide) rfl rfl dX6_limit_36 ?_
      refine v_get hC fX6_49 (by decide) rfl rfl dX6_limit_39 ?_
      refine v_get hC fX6_66 (by decide) rfl rfl dX6_limit_42 ?_
      refine v_iload_1 hC dX6_limit_45 ?_
      refine v_iload_2 hC dX6_limit_46 ?_
      refine v_iast hC C_7 (by omega) dX6_limit_47 ?_
      refine v_iload_3 hC dX6_limit_48 ?_
      exact v_iret hC hT (by rw [cfLimit, if_pos ⟨h5, h12⟩, tnI (j := w) (by omega)]) dX6_limit_49
    · refine v_aload_0 hC dX6_limit_15 ?_
      refine v_ldc hC kX6_44 dX6_limit_16 ?_
      refine v_cv1r hC lX6_45 ⟨by decide, 6, _, rfl, rfl, fun _ _ _ => ⟨_, rfl⟩⟩ (k_X6_finding _) ⟨Nat.le_of_ble_eq_true rfl, Nat.le_of_ble_eq_true rfl, rfl, rfl⟩ (Nat.le_of_ble_eq_true rfl) dX6_limit_18 ?_
      exact v_iret hC hT (by rw [cfLimit, if_neg (fun q => h12 q.2)]) dX6_limit_21
theorem k_X6_as {l : Launch} {E : ET} {σ μ : St} (hwc : WC σ) (hws : WS σ) (w k : Int32) : Ct l E MX6_as [.ref (adr E 0), .int w, .int k] (σ) (μ) (some (.int (cfAs σ w k).1)) ((cfAs σ w k).2) (μ) := by
  have h10 := hwc.n10
  have l10 := hwc.l10
  refine Ct.of (L := [some (.ref (adr E 0)), some (.int w), some (.int k)]) (by decide) rfl (Nat.le_of_ble_eq_true rfl) rfl (fun X hC hT => ?_)
  refine v_aload_0 hC dX6_as_0 ?_
  refine v_iload_1 hC dX6_as_1 ?_
  refine v_cv1r hC lX6_63 ⟨by decide, 6, _, rfl, rfl, fun _ _ _ => ⟨_, rfl⟩⟩ (k_X6_isWell _) ⟨Nat.le_of_ble_eq_true rfl, Nat.le_of_ble_eq_true rfl, rfl, rfl⟩ (Nat.le_of_ble_eq_true rfl) dX6_as_2 ?_
  refine v_ifeqb (tgt := 15) hC dX6_as_5 (by decide) (fun h5 => ?_) (fun h5 => ?_)
  · refine v_aload_0 hC dX6_as_15 ?_
    refine v_ldc hC kX6_44 dX6_as_16 ?_
    refine v_cv1r hC lX6_45 ⟨by decide, 6, _, rfl, rfl, fun _ _ _ => ⟨_, rfl⟩⟩ (k_X6_finding _) ⟨Nat.le_of_ble_eq_true rfl, Nat.le_of_ble_eq_true rfl, rfl, rfl⟩ (Nat.le_of_ble_eq_true rfl) dX6_as_18 ?_
    exact v_iret hC hT (by rw [cfAs, if_neg (fun q => h5 q.1)]) dX6_as_21
  · refine v_iload_2 hC dX6_as_8 ?_
    refine v_cs1r hC lX6_34 (k_X6_isKind _) ⟨Nat.le_of_ble_eq_true rfl, Nat.le_of_ble_eq_true rfl, rfl, rfl⟩ (Nat.le_of_ble_eq_true rfl) dX6_as_9 ?_
    refine v_ifneb (tgt := 22) hC dX6_as_12 (by decide) (fun h12 => ?_) (fun h12 => ?_)
    · obtain ⟨w, hw, rfl⟩ := isW_nat hwc h5
      refine v_aload_0 hC dX6_as_22 ?_
      refine v_get hC fX6_10 (by decide) rfl rfl dX6_as_23 ?_
      refine v_get hC fX6_49 (by decide) rfl rfl dX6_as_26 ?_
      refine v_iload_1 hC dX6_as_29 ?_
      refine v_iload_2 hC dX6_as_30 ?_
      refine v_cv2r hC lX6_70 ⟨by decide, 5, _, rfl, rfl, fun _ _ _ => ⟨_, rfl⟩⟩ (k_X5_isOneOf (by omega) _) ⟨Nat.le_of_ble_eq_true rfl, Nat.le_of_ble_eq_true rfl, rfl, rfl⟩ (Nat.le_of_ble_eq_true rfl) dX6_as_31 ?_
      refine v_ifeqb (tgt := 41) hC dX6_as_34 (by decide) (fun h34 => ?_) (fun h34 => ?_)
      · refine v_aload_0 hC dX6_as_41 ?_
        refine v_ldc hC kX6_74 dX6_as_42 ?_
        refine v_cv1r hC lX6_45 ⟨by decide, 6, _, rfl, rfl, fun _ _ _ => ⟨_, rfl⟩⟩ (k_X6_finding _) ⟨Nat.le_of_ble_eq_true rfl, Nat.le_of_ble_eq_true rfl, rfl, rfl⟩ (Nat.le_of_ble_eq_true rfl) dX6_as_44 ?_
        exact v_iret hC hT (by rw [cfAs, if_pos ⟨h5, h12⟩, tnI (j := w) (by omega), if_neg h34]) dX6_as_47
      · refine v_iload_1 hC dX6_as_37 ?_
        refine v_goto (tgt := 47) hC dX6_as_38 (by decide) ?_
        exact v_iret hC hT (by rw [cfAs, if_pos ⟨h5, h12⟩, tnI (j := w) (by omega), if_pos h34]) dX6_as_47
    · refine v_aload_0 hC dX6_as_15 ?_
      refine v_ldc hC kX6_44 dX6_as_16 ?_
      refine v_cv1r hC lX6_45 ⟨by decide, 6, _, rfl, rfl, fun _ _ _ => ⟨_, rfl⟩⟩ (k_X6_finding _) ⟨Nat.le_of_ble_eq_true rfl, Nat.le_of_ble_eq_true rfl, rfl, rfl⟩ (Nat.le_of_ble_eq_true rfl) dX6_as_18 ?_
      exact v_iret hC hT (by rw [cfAs, if_neg (fun q => h12 q.2)]) dX6_as_21
theorem k_X6_of {l : Launch} {E : ET} {σ μ : St} (hwc : WC σ) (hws : WS σ) (w q : Int32) : Ct l E MX6_of [.ref (adr E 0), .int w, .int q] (σ) (μ) (some (.int (cfOf σ w q).1)) ((cfOf σ w q).2) (μ) := by
  have h10 := hwc.n10
  have l10 := hwc.l10
  refine Ct.of (L := [some (.ref (adr E 0)), some (.int w), some (.int q)]) (by decide) rfl (Nat.le_of_ble_eq_true rfl) rfl (fun X hC hT => ?_)
  refine v_aload_0 hC dX6_of_0 ?_
  refine v_iload_1 hC dX6_of_1 ?_
  refine v_cv1r hC lX6_63 ⟨by decide, 6, _, rfl, rfl, fun _ _ _ => ⟨_, rfl⟩⟩ (k_X6_isWell _) ⟨Nat.le_of_ble_eq_true rfl, Nat.le_of_ble_eq_true rfl, rfl, rfl⟩ (Nat.le_of_ble_eq_true rfl) dX6_of_2 ?_
  refine v_ifneb (tgt := 15) hC dX6_of_5 (by decide) (fun h5 => ?_) (fun h5 => ?_)
  · obtain ⟨w, hw, rfl⟩ := isW_nat hwc h5
    refine v_iload_2 hC dX6_of_15 ?_
    by_cases g0 : q = nI 0
    · subst g0
      refine v_tabIn (tgt := 56) hC dX6_of_16 (by decide) (by decide) rfl (by decide) ?_
      refine v_aload_0 hC dX6_of_56 ?_
      refine v_get hC fX6_10 (by decide) rfl rfl dX6_of_57 ?_
      refine v_get hC fX6_49 (by decide) rfl rfl dX6_of_60 ?_
      refine v_get hC fX6_75 (by decide) rfl rfl dX6_of_63 ?_
      refine v_iload_1 hC dX6_of_66 ?_
      refine v_iald hC C_3 (by omega) dX6_of_67 ?_
      exact v_iret hC hT (by rw [cfOf, if_pos h5, if_pos rfl, tnI (j := w) (by omega)]) dX6_of_68
    by_cases g1 : q = nI 1
    · subst g1
      refine v_tabIn (tgt := 69) hC dX6_of_16 (by decide) (by decide) rfl (by decide) ?_
      refine v_aload_0 hC dX6_of_69 ?_
      refine v_get hC fX6_10 (by decide) rfl rfl dX6_of_70 ?_
      refine v_get hC fX6_49 (by decide) rfl rfl dX6_of_73 ?_
      refine v_get hC fX6_78 (by decide) rfl rfl dX6_of_76 ?_
      refine v_iload_1 hC dX6_of_79 ?_
      refine v_iald hC C_4 (by omega) dX6_of_80 ?_
      exact v_iret hC hT (by rw [cfOf, if_pos h5, if_neg (by decide), if_pos rfl, tnI (j := w) (by omega)]) dX6_of_81
    by_cases g2 : q = nI 2
    · subst g2
      refine v_tabIn (tgt := 82) hC dX6_of_16 (by decide) (by decide) rfl (by decide) ?_
      refine v_aload_0 hC dX6_of_82 ?_
      refine v_get hC fX6_10 (by decide) rfl rfl dX6_of_83 ?_
      refine v_get hC fX6_49 (by decide) rfl rfl dX6_of_86 ?_
      refine v_get hC fX6_81 (by decide) rfl rfl dX6_of_89 ?_
      refine v_iload_1 hC dX6_of_92 ?_
      refine v_iald hC C_5 (by omega) dX6_of_93 ?_
      exact v_iret hC hT (by rw [cfOf, if_pos h5, if_neg (by decide), if_neg (by decide), if_pos rfl, tnI (j := w) (by omega)]) dX6_of_94
    by_cases g3 : q = nI 3
    · subst g3
      refine v_tabIn (tgt := 95) hC dX6_of_16 (by decide) (by decide) rfl (by decide) ?_
      refine v_aload_0 hC dX6_of_95 ?_
      refine v_get hC fX6_10 (by decide) rfl rfl dX6_of_96 ?_
      refine v_get hC fX6_49 (by decide) rfl rfl dX6_of_99 ?_
      refine v_get hC fX6_84 (by decide) rfl rfl dX6_of_102 ?_
      refine v_iload_1 hC dX6_of_105 ?_
      refine v_iald hC C_6 (by omega) dX6_of_106 ?_
      exact v_iret hC hT (by rw [cfOf, if_pos h5, if_neg (by decide), if_neg (by decide), if_neg (by decide), if_pos rfl, tnI (j := w) (by omega)]) dX6_of_107
    by_cases g4 : q = nI 4
    · subst g4
      refine v_tabIn (tgt := 108) hC dX6_of_16 (by decide) (by decide) rfl (by decide) ?_
      refine v_aload_0 hC dX6_of_108 ?_
      refine v_get hC fX6_10 (by decide) rfl rfl dX6_of_109 ?_
      refine v_get hC fX6_49 (by decide) rfl rfl dX6_of_112 ?_
      refine v_get hC fX6_66 (by decide) rfl rfl dX6_of_115 ?_
      refine v_iload_1 hC dX6_of_118 ?_
      refine v_iald hC C_7 (by omega) dX6_of_119 ?_
      exact v_iret hC hT (by rw [cfOf, if_pos h5, if_neg (by decide), if_neg (by decide), if_neg (by decide), if_neg (by decide), if_pos rfl, tnI (j := w) (by omega)]) dX6_of_120
    by_cases g5 : q = nI 5
    · subst g5
      refine v_tabIn (tgt := 121) hC dX6_of_16 (by decide) (by decide) rfl (by decide) ?_
      refine v_aload_0 hC dX6_of_121 ?_
      refine v_get hC fX6_10 (by decide) rfl rfl dX6_of_122 ?_
      refine v_iload_1 hC dX6_of_125 ?_
      refine v_cv1r hC lX6_87 ⟨by decide, 4, _, rfl, rfl, fun _ _ _ => ⟨_, rfl⟩⟩ (k_X4_sumOfDraws (by omega)) ⟨Nat.le_of_ble_eq_true rfl, Nat.le_of_ble_eq_true rfl, rfl, rfl⟩ (Nat.le_of_ble_eq_true rfl) dX6_of_126 ?_
      exact v_iret hC hT (by rw [cfOf, if_pos h5, if_neg (by decide), if_neg (by decide), if_neg (by decide), if_neg (by decide), if_neg (by decide), if_pos rfl, tnI (j := w) (by omega)]) dX6_of_129
    refine v_tabOut (tgt := 130) hC dX6_of_16 (sw_out 5 (by decide) (fun j hj e => ?_)) (by decide) ?_
    · rcases (show j = 0 ∨ j = 1 ∨ j = 2 ∨ j = 3 ∨ j = 4 ∨ j = 5 by omega) with rfl | rfl | rfl | rfl | rfl | rfl
      · exact g0 e
      · exact g1 e
      · exact g2 e
      · exact g3 e
      · exact g4 e
      · exact g5 e
    refine v_aload_0 hC dX6_of_130 ?_
    refine v_ldc hC kX6_44 dX6_of_131 ?_
    refine v_cv1r hC lX6_45 ⟨by decide, 6, _, rfl, rfl, fun _ _ _ => ⟨_, rfl⟩⟩ (k_X6_finding _) ⟨Nat.le_of_ble_eq_true rfl, Nat.le_of_ble_eq_true rfl, rfl, rfl⟩ (Nat.le_of_ble_eq_true rfl) dX6_of_133 ?_
    exact v_iret hC hT (by rw [cfOf, if_pos h5, if_neg g0, if_neg g1, if_neg g2, if_neg g3, if_neg g4, if_neg g5]) dX6_of_136
  · refine v_aload_0 hC dX6_of_8 ?_
    refine v_ldc hC kX6_44 dX6_of_9 ?_
    refine v_cv1r hC lX6_45 ⟨by decide, 6, _, rfl, rfl, fun _ _ _ => ⟨_, rfl⟩⟩ (k_X6_finding _) ⟨Nat.le_of_ble_eq_true rfl, Nat.le_of_ble_eq_true rfl, rfl, rfl⟩ (Nat.le_of_ble_eq_true rfl) dX6_of_11 ?_
    exact v_iret hC hT (by rw [cfOf, if_neg h5]) dX6_of_14
theorem k_X6_distance {l : Launch} {E : ET} {σ μ : St} (hwc : WC σ) (hws : WS σ) (x y : Int32) : Ct l E MX6_distance [.ref (adr E 0), .int x, .int y] (σ) (μ) (some (.int (cfDist σ x y).1)) ((cfDist σ x y).2) (μ) := by
  have h10 := hwc.n10
  have l10 := hwc.l10
  refine Ct.of (L := [some (.ref (adr E 0)), some (.int x), some (.int y)]) (by decide) rfl (Nat.le_of_ble_eq_true rfl) rfl (fun X hC hT => ?_)
  refine v_aload_0 hC dX6_distance_0 ?_
  refine v_iload_1 hC dX6_distance_1 ?_
  refine v_cv1r hC lX6_63 ⟨by decide, 6, _, rfl, rfl, fun _ _ _ => ⟨_, rfl⟩⟩ (k_X6_isWell _) ⟨Nat.le_of_ble_eq_true rfl, Nat.le_of_ble_eq_true rfl, rfl, rfl⟩ (Nat.le_of_ble_eq_true rfl) dX6_distance_2 ?_
  refine v_ifeqb (tgt := 16) hC dX6_distance_5 (by decide) (fun h5 => ?_) (fun h5 => ?_)
  · refine v_aload_0 hC dX6_distance_16 ?_
    refine v_ldc hC kX6_44 dX6_distance_17 ?_
    refine v_cv1r hC lX6_45 ⟨by decide, 6, _, rfl, rfl, fun _ _ _ => ⟨_, rfl⟩⟩ (k_X6_finding _) ⟨Nat.le_of_ble_eq_true rfl, Nat.le_of_ble_eq_true rfl, rfl, rfl⟩ (Nat.le_of_ble_eq_true rfl) dX6_distance_19 ?_
    exact v_iret hC hT (by rw [cfDist, if_neg (fun q => h5 q.1)]) dX6_distance_22
  · refine v_aload_0 hC dX6_distance_8 ?_
    refine v_iload_2 hC dX6_distance_9 ?_
    refine v_cv1r hC lX6_63 ⟨by decide, 6, _, rfl, rfl, fun _ _ _ => ⟨_, rfl⟩⟩ (k_X6_isWell _) ⟨Nat.le_of_ble_eq_true rfl, Nat.le_of_ble_eq_true rfl, rfl, rfl⟩ (Nat.le_of_ble_eq_true rfl) dX6_distance_10 ?_
    refine v_ifneb (tgt := 23) hC dX6_distance_13 (by decide) (fun h13 => ?_) (fun h13 => ?_)
    · obtain ⟨x, hx, rfl⟩ := isW_nat hwc h5
      obtain ⟨y, hy, rfl⟩ := isW_nat hwc h13
      refine v_aload_0 hC dX6_distance_23 ?_
      refine v_get hC fX6_10 (by decide) rfl rfl dX6_distance_24 ?_
      refine v_get hC fX6_49 (by decide) rfl rfl dX6_distance_27 ?_
      refine v_iload_1 hC dX6_distance_30 ?_
      refine v_iload_2 hC dX6_distance_31 ?_
      refine v_cv2r hC lX6_90 ⟨by decide, 5, _, rfl, rfl, fun _ _ _ => ⟨_, rfl⟩⟩ (k_X5_apart hwc (by omega) (by omega)) ⟨Nat.le_of_ble_eq_true rfl, Nat.le_of_ble_eq_true rfl, rfl, rfl⟩ (Nat.le_of_ble_eq_true rfl) dX6_distance_32 ?_
      exact v_iret hC hT (by rw [cfDist, if_pos ⟨h5, h13⟩, tnI (j := x) (by omega), tnI (j := y) (by omega)]) dX6_distance_35
    · refine v_aload_0 hC dX6_distance_16 ?_
      refine v_ldc hC kX6_44 dX6_distance_17 ?_
      refine v_cv1r hC lX6_45 ⟨by decide, 6, _, rfl, rfl, fun _ _ _ => ⟨_, rfl⟩⟩ (k_X6_finding _) ⟨Nat.le_of_ble_eq_true rfl, Nat.le_of_ble_eq_true rfl, rfl, rfl⟩ (Nat.le_of_ble_eq_true rfl) dX6_distance_19 ?_
      exact v_iret hC hT (by rw [cfDist, if_neg (fun q => h13 q.2)]) dX6_distance_22
theorem k_X6_table {l : Launch} {E : ET} {σ μ : St} (hwc : WC σ) (hws : WS σ) (i d g v : Int32) : Ct l E MX6_table [.ref (adr E 0), .int i, .int d, .int g, .int v] (σ) (μ) (some (.int (cfTable σ i d g v).1)) ((cfTable σ i d g v).2) (μ) := by
  have h10 := hwc.n10
  have l10 := hwc.l10
  refine Ct.of (L := [some (.ref (adr E 0)), some (.int i), some (.int d), some (.int g), some (.int v), none, none]) (by decide) rfl (Nat.le_of_ble_eq_true rfl) rfl (fun X hC hT => ?_)
  refine v_iload_1 hC dX6_table_0 ?_
  refine v_cs1r hC lX6_94 (k_X6_isLayer _) ⟨Nat.le_of_ble_eq_true rfl, Nat.le_of_ble_eq_true rfl, rfl, rfl⟩ (Nat.le_of_ble_eq_true rfl) dX6_table_1 ?_
  refine v_ifeqb (tgt := 32) hC dX6_table_4 (by decide) (fun h4 => ?_) (fun h4 => ?_)
  · refine v_aload_0 hC dX6_table_32 ?_
    refine v_ldc hC kX6_44 dX6_table_33 ?_
    refine v_cv1r hC lX6_45 ⟨by decide, 6, _, rfl, rfl, fun _ _ _ => ⟨_, rfl⟩⟩ (k_X6_finding _) ⟨Nat.le_of_ble_eq_true rfl, Nat.le_of_ble_eq_true rfl, rfl, rfl⟩ (Nat.le_of_ble_eq_true rfl) dX6_table_35 ?_
    exact v_iret hC hT (by rw [cfTable, if_neg (fun q => h4 q.1)]) dX6_table_38
  · refine v_iload_3 hC dX6_table_7 ?_
    refine v_cs1r hC lX6_97 (k_X6_isAge _) ⟨Nat.le_of_ble_eq_true rfl, Nat.le_of_ble_eq_true rfl, rfl, rfl⟩ (Nat.le_of_ble_eq_true rfl) dX6_table_8 ?_
    refine v_ifeqb (tgt := 32) hC dX6_table_11 (by decide) (fun h11 => ?_) (fun h11 => ?_)
    · refine v_aload_0 hC dX6_table_32 ?_
      refine v_ldc hC kX6_44 dX6_table_33 ?_
      refine v_cv1r hC lX6_45 ⟨by decide, 6, _, rfl, rfl, fun _ _ _ => ⟨_, rfl⟩⟩ (k_X6_finding _) ⟨Nat.le_of_ble_eq_true rfl, Nat.le_of_ble_eq_true rfl, rfl, rfl⟩ (Nat.le_of_ble_eq_true rfl) dX6_table_35 ?_
      exact v_iret hC hT (by rw [cfTable, if_neg (fun q => h11 q.2.1)]) dX6_table_38
    · refine v_iload_4 hC dX6_table_14 ?_
      refine v_cs1r hC lX6_100 (k_X6_isAmount _) ⟨Nat.le_of_ble_eq_true rfl, Nat.le_of_ble_eq_true rfl, rfl, rfl⟩ (Nat.le_of_ble_eq_true rfl) dX6_table_16 ?_
      refine v_ifeqb (tgt := 32) hC dX6_table_19 (by decide) (fun h19 => ?_) (fun h19 => ?_)
      · refine v_aload_0 hC dX6_table_32 ?_
        refine v_ldc hC kX6_44 dX6_table_33 ?_
        refine v_cv1r hC lX6_45 ⟨by decide, 6, _, rfl, rfl, fun _ _ _ => ⟨_, rfl⟩⟩ (k_X6_finding _) ⟨Nat.le_of_ble_eq_true rfl, Nat.le_of_ble_eq_true rfl, rfl, rfl⟩ (Nat.le_of_ble_eq_true rfl) dX6_table_35 ?_
        exact v_iret hC hT (by rw [cfTable, if_neg (fun q => h19 q.2.2.1)]) dX6_table_38
      · refine v_iload_2 hC dX6_table_22 ?_
        refine v_iconst hC dX6_table_23 ic_0 ?_
        refine v_bipush hC dX6_table_24 bp_9 ?_
        refine v_cs3r hC lX6_103 (k_X6_within _ _ _) ⟨Nat.le_of_ble_eq_true rfl, Nat.le_of_ble_eq_true rfl, rfl, rfl⟩ (Nat.le_of_ble_eq_true rfl) dX6_table_26 ?_
        refine v_ifneb (tgt := 39) hC dX6_table_29 (by decide) (fun h29 => ?_) (fun h29 => ?_)
        · obtain ⟨i, hi, rfl⟩ := isR_nat (by decide) h4
          obtain ⟨g, hg, rfl⟩ := isR_nat (by decide) h11
          obtain ⟨d, hd, rfl⟩ := isR_nat (by decide) h29
          refine v_aload_0 hC dX6_table_39 ?_
          refine v_get hC fX6_10 (by decide) rfl rfl dX6_table_40 ?_
          refine v_get hC fX6_107 (by decide) rfl rfl dX6_table_43 ?_
          refine v_iload_1 hC dX6_table_46 ?_
          refine v_iload_2 hC dX6_table_47 ?_
          refine v_iload_3 hC dX6_table_48 ?_
          refine v_iload_4 hC dX6_table_49 ?_
          refine v_cv4r hC lX6_111 ⟨by decide, 3, _, rfl, rfl, fun _ _ _ => ⟨_, rfl⟩⟩ (k_X3_keepsOrder (by omega) (by omega) (by omega) _) ⟨Nat.le_of_ble_eq_true rfl, Nat.le_of_ble_eq_true rfl, rfl, rfl⟩ (Nat.le_of_ble_eq_true rfl) dX6_table_51 ?_
          refine v_ifneb (tgt := 64) hC dX6_table_54 (by decide) (fun h54 => ?_) (fun h54 => ?_)
          · refine v_iload_1 hC dX6_table_64 ?_
            refine v_iload_2 hC dX6_table_65 ?_
            refine v_cs2r hC lX6_118 (k_X3_row) ⟨Nat.le_of_ble_eq_true rfl, Nat.le_of_ble_eq_true rfl, rfl, rfl⟩ (Nat.le_of_ble_eq_true rfl) dX6_table_66 ?_
            refine v_iload_3 hC dX6_table_69 ?_
            refine v_iaddN hC dX6_table_70 ?_
            refine v_istore_5 hC (by decide) rfl dX6_table_71 ?_
            refine v_aload_0 hC dX6_table_73 ?_
            refine v_get hC fX6_10 (by decide) rfl rfl dX6_table_74 ?_
            refine v_get hC fX6_107 (by decide) rfl rfl dX6_table_77 ?_
            refine v_get hC fX6_121 (by decide) rfl rfl dX6_table_80 ?_
            refine v_iload_5 hC dX6_table_83 ?_
            refine v_iald hC C_9 (by omega) dX6_table_85 ?_
            refine v_istore_6 hC (by decide) rfl dX6_table_86 ?_
            refine v_aload_0 hC dX6_table_88 ?_
            refine v_get hC fX6_10 (by decide) rfl rfl dX6_table_89 ?_
            refine v_get hC fX6_107 (by decide) rfl rfl dX6_table_92 ?_
            refine v_get hC fX6_121 (by decide) rfl rfl dX6_table_95 ?_
            refine v_iload_5 hC dX6_table_98 ?_
            refine v_iload_4 hC dX6_table_100 ?_
            refine v_iast hC C_9 (by omega) dX6_table_102 ?_
            refine v_iload_6 hC dX6_table_103 ?_
            exact v_iret hC hT (by rw [cfTable, if_pos ⟨h4, h11, h19, h29⟩, tnI (j := i) (by omega), tnI (j := d) (by omega), tnI (j := g) (by omega), if_pos h54]) dX6_table_105
          · refine v_aload_0 hC dX6_table_57 ?_
            refine v_ldc hC kX6_117 dX6_table_58 ?_
            refine v_cv1r hC lX6_45 ⟨by decide, 6, _, rfl, rfl, fun _ _ _ => ⟨_, rfl⟩⟩ (k_X6_finding _) ⟨Nat.le_of_ble_eq_true rfl, Nat.le_of_ble_eq_true rfl, rfl, rfl⟩ (Nat.le_of_ble_eq_true rfl) dX6_table_60 ?_
            exact v_iret hC hT (by rw [cfTable, if_pos ⟨h4, h11, h19, h29⟩, tnI (j := i) (by omega), tnI (j := d) (by omega), tnI (j := g) (by omega), if_neg h54]) dX6_table_63
        · refine v_aload_0 hC dX6_table_32 ?_
          refine v_ldc hC kX6_44 dX6_table_33 ?_
          refine v_cv1r hC lX6_45 ⟨by decide, 6, _, rfl, rfl, fun _ _ _ => ⟨_, rfl⟩⟩ (k_X6_finding _) ⟨Nat.le_of_ble_eq_true rfl, Nat.le_of_ble_eq_true rfl, rfl, rfl⟩ (Nat.le_of_ble_eq_true rfl) dX6_table_35 ?_
          exact v_iret hC hT (by rw [cfTable, if_neg (fun q => h29 q.2.2.2)]) dX6_table_38
theorem k_X6_rainTable {l : Launch} {E : ET} {σ μ : St} (hwc : WC σ) (hws : WS σ) (g v : Int32) : Ct l E MX6_rainTable [.ref (adr E 0), .int g, .int v] (σ) (μ) (some (.int (cfRainT σ g v).1)) ((cfRainT σ g v).2) (μ) := by
  have h10 := hwc.n10
  have l10 := hwc.l10
  refine Ct.of (L := [some (.ref (adr E 0)), some (.int g), some (.int v), none]) (by decide) rfl (Nat.le_of_ble_eq_true rfl) rfl (fun X hC hT => ?_)
  refine v_iload_1 hC dX6_rainTable_0 ?_
  refine v_cs1r hC lX6_97 (k_X6_isAge _) ⟨Nat.le_of_ble_eq_true rfl, Nat.le_of_ble_eq_true rfl, rfl, rfl⟩ (Nat.le_of_ble_eq_true rfl) dX6_rainTable_1 ?_
  refine v_ifeqb (tgt := 14) hC dX6_rainTable_4 (by decide) (fun h4 => ?_) (fun h4 => ?_)
  · refine v_aload_0 hC dX6_rainTable_14 ?_
    refine v_ldc hC kX6_44 dX6_rainTable_15 ?_
    refine v_cv1r hC lX6_45 ⟨by decide, 6, _, rfl, rfl, fun _ _ _ => ⟨_, rfl⟩⟩ (k_X6_finding _) ⟨Nat.le_of_ble_eq_true rfl, Nat.le_of_ble_eq_true rfl, rfl, rfl⟩ (Nat.le_of_ble_eq_true rfl) dX6_rainTable_17 ?_
    exact v_iret hC hT (by rw [cfRainT, if_neg (fun q => h4 q.1)]) dX6_rainTable_20
  · refine v_iload_2 hC dX6_rainTable_7 ?_
    refine v_cs1r hC lX6_100 (k_X6_isAmount _) ⟨Nat.le_of_ble_eq_true rfl, Nat.le_of_ble_eq_true rfl, rfl, rfl⟩ (Nat.le_of_ble_eq_true rfl) dX6_rainTable_8 ?_
    refine v_ifneb (tgt := 21) hC dX6_rainTable_11 (by decide) (fun h11 => ?_) (fun h11 => ?_)
    · obtain ⟨g, hg, rfl⟩ := isR_nat (by decide) h4
      refine v_aload_0 hC dX6_rainTable_21 ?_
      refine v_get hC fX6_10 (by decide) rfl rfl dX6_rainTable_22 ?_
      refine v_get hC fX6_107 (by decide) rfl rfl dX6_rainTable_25 ?_
      refine v_get hC fX6_124 (by decide) rfl rfl dX6_rainTable_28 ?_
      refine v_iload_1 hC dX6_rainTable_31 ?_
      refine v_iald hC C_10 (by omega) dX6_rainTable_32 ?_
      refine v_istore_3 hC (by decide) rfl dX6_rainTable_33 ?_
      refine v_aload_0 hC dX6_rainTable_34 ?_
      refine v_get hC fX6_10 (by decide) rfl rfl dX6_rainTable_35 ?_
      refine v_get hC fX6_107 (by decide) rfl rfl dX6_rainTable_38 ?_
      refine v_get hC fX6_124 (by decide) rfl rfl dX6_rainTable_41 ?_
      refine v_iload_1 hC dX6_rainTable_44 ?_
      refine v_iload_2 hC dX6_rainTable_45 ?_
      refine v_iast hC C_10 (by omega) dX6_rainTable_46 ?_
      refine v_iload_3 hC dX6_rainTable_47 ?_
      exact v_iret hC hT (by rw [cfRainT, if_pos ⟨h4, h11⟩, tnI (j := g) (by omega)]) dX6_rainTable_48
    · refine v_aload_0 hC dX6_rainTable_14 ?_
      refine v_ldc hC kX6_44 dX6_rainTable_15 ?_
      refine v_cv1r hC lX6_45 ⟨by decide, 6, _, rfl, rfl, fun _ _ _ => ⟨_, rfl⟩⟩ (k_X6_finding _) ⟨Nat.le_of_ble_eq_true rfl, Nat.le_of_ble_eq_true rfl, rfl, rfl⟩ (Nat.le_of_ble_eq_true rfl) dX6_rainTable_17 ?_
      exact v_iret hC hT (by rw [cfRainT, if_neg (fun q => h11 q.2)]) dX6_rainTable_20
theorem k_X6_sheet {l : Launch} {E : ET} {σ μ : St} (hwc : WC σ) (hws : WS σ) (s k n : Int32) : Ct l E MX6_sheet [.ref (adr E 0), .int s, .int k, .int n] (σ) (μ) (some (.int (cfSheet σ s k n).1)) ((cfSheet σ s k n).2) (μ) := by
  have h10 := hwc.n10
  have l10 := hwc.l10
  refine Ct.of (L := [some (.ref (adr E 0)), some (.int s), some (.int k), some (.int n)]) (by decide) rfl (Nat.le_of_ble_eq_true rfl) rfl (fun X hC hT => ?_)
  refine v_iload_1 hC dX6_sheet_0 ?_
  refine v_cs1r hC lX6_127 (k_X6_isSheet _) ⟨Nat.le_of_ble_eq_true rfl, Nat.le_of_ble_eq_true rfl, rfl, rfl⟩ (Nat.le_of_ble_eq_true rfl) dX6_sheet_1 ?_
  refine v_ifeqb (tgt := 16) hC dX6_sheet_4 (by decide) (fun h4 => ?_) (fun h4 => ?_)
  · refine v_aload_0 hC dX6_sheet_16 ?_
    refine v_ldc hC kX6_44 dX6_sheet_17 ?_
    refine v_cv1r hC lX6_45 ⟨by decide, 6, _, rfl, rfl, fun _ _ _ => ⟨_, rfl⟩⟩ (k_X6_finding _) ⟨Nat.le_of_ble_eq_true rfl, Nat.le_of_ble_eq_true rfl, rfl, rfl⟩ (Nat.le_of_ble_eq_true rfl) dX6_sheet_19 ?_
    exact v_iret hC hT (by rw [cfSheet, if_neg (fun q => h4 q.1)]) dX6_sheet_22
  · refine v_iload_2 hC dX6_sheet_7 ?_
    refine v_iconst hC dX6_sheet_8 ic_0 ?_
    refine v_iconst hC dX6_sheet_9 ic_2 ?_
    refine v_cs3r hC lX6_103 (k_X6_within _ _ _) ⟨Nat.le_of_ble_eq_true rfl, Nat.le_of_ble_eq_true rfl, rfl, rfl⟩ (Nat.le_of_ble_eq_true rfl) dX6_sheet_10 ?_
    refine v_ifneb (tgt := 23) hC dX6_sheet_13 (by decide) (fun h13 => ?_) (fun h13 => ?_)
    · refine v_iload_3 hC dX6_sheet_23 ?_
      refine v_ifge (tgt := 34) hC dX6_sheet_24 (by decide) (fun h24 => ?_) (fun h24 => ?_)
      · refine v_iload_3 hC dX6_sheet_34 ?_
        refine v_bipush hC dX6_sheet_35 bp_24 ?_
        refine v_icle (tgt := 47) hC dX6_sheet_37 (by decide) (fun h37 => ?_) (fun h37 => ?_)
        · obtain ⟨s, hs, rfl⟩ := isR_nat (by decide) h4
          refine v_aload_0 hC dX6_sheet_47 ?_
          refine v_get hC fX6_26 (by decide) rfl rfl dX6_sheet_48 ?_
          refine v_iload_1 hC dX6_sheet_51 ?_
          refine v_aald hC (by omega) dX6_sheet_52 ?_
          refine v_iload_2 hC dX6_sheet_53 ?_
          refine v_iload_3 hC dX6_sheet_54 ?_
          refine v_cv2r hC lX6_130 (S_rcv (by omega) rfl) (k_X2_start (by omega) _ _) ⟨Nat.le_of_ble_eq_true rfl, Nat.le_of_ble_eq_true rfl, rfl, rfl⟩ (Nat.le_of_ble_eq_true rfl) dX6_sheet_55 ?_
          exact v_iret hC hT (by rw [cfSheet, if_pos ⟨h4, h13⟩, if_pos h24, if_pos h37, tnI (j := s) (by omega)]) dX6_sheet_58
        · refine v_aload_0 hC dX6_sheet_40 ?_
          refine v_ldc hC kX6_44 dX6_sheet_41 ?_
          refine v_cv1r hC lX6_45 ⟨by decide, 6, _, rfl, rfl, fun _ _ _ => ⟨_, rfl⟩⟩ (k_X6_finding _) ⟨Nat.le_of_ble_eq_true rfl, Nat.le_of_ble_eq_true rfl, rfl, rfl⟩ (Nat.le_of_ble_eq_true rfl) dX6_sheet_43 ?_
          exact v_iret hC hT (by rw [cfSheet, if_pos ⟨h4, h13⟩, if_pos h24, if_neg h37]) dX6_sheet_46
      · refine v_aload_0 hC dX6_sheet_27 ?_
        refine v_ldc hC kX6_117 dX6_sheet_28 ?_
        refine v_cv1r hC lX6_45 ⟨by decide, 6, _, rfl, rfl, fun _ _ _ => ⟨_, rfl⟩⟩ (k_X6_finding _) ⟨Nat.le_of_ble_eq_true rfl, Nat.le_of_ble_eq_true rfl, rfl, rfl⟩ (Nat.le_of_ble_eq_true rfl) dX6_sheet_30 ?_
        exact v_iret hC hT (by rw [cfSheet, if_pos ⟨h4, h13⟩, if_neg h24]) dX6_sheet_33
    · refine v_aload_0 hC dX6_sheet_16 ?_
      refine v_ldc hC kX6_44 dX6_sheet_17 ?_
      refine v_cv1r hC lX6_45 ⟨by decide, 6, _, rfl, rfl, fun _ _ _ => ⟨_, rfl⟩⟩ (k_X6_finding _) ⟨Nat.le_of_ble_eq_true rfl, Nat.le_of_ble_eq_true rfl, rfl, rfl⟩ (Nat.le_of_ble_eq_true rfl) dX6_sheet_19 ?_
      exact v_iret hC hT (by rw [cfSheet, if_neg (fun q => h13 q.2)]) dX6_sheet_22
theorem k_X6_put {l : Launch} {E : ET} {σ μ : St} (hwc : WC σ) (hws : WS σ) (s i v : Int32) : Ct l E MX6_put [.ref (adr E 0), .int s, .int i, .int v] (σ) (μ) (some (.int (cfPut σ s i v).1)) ((cfPut σ s i v).2) (μ) := by
  have h10 := hwc.n10
  have l10 := hwc.l10
  refine Ct.of (L := [some (.ref (adr E 0)), some (.int s), some (.int i), some (.int v)]) (by decide) rfl (Nat.le_of_ble_eq_true rfl) rfl (fun X hC hT => ?_)
  refine v_iload_1 hC dX6_put_0 ?_
  refine v_cs1r hC lX6_127 (k_X6_isSheet _) ⟨Nat.le_of_ble_eq_true rfl, Nat.le_of_ble_eq_true rfl, rfl, rfl⟩ (Nat.le_of_ble_eq_true rfl) dX6_put_1 ?_
  refine v_ifneb (tgt := 14) hC dX6_put_4 (by decide) (fun h4 => ?_) (fun h4 => ?_)
  · obtain ⟨s, hs, rfl⟩ := isR_nat (by decide) h4
    refine v_aload_0 hC dX6_put_14 ?_
    refine v_get hC fX6_26 (by decide) rfl rfl dX6_put_15 ?_
    refine v_iload_1 hC dX6_put_18 ?_
    refine v_aald hC (by omega) dX6_put_19 ?_
    refine v_cv0r hC lX6_133 (S_rcv (by omega) rfl) (k_X2_isMissing (by omega)) ⟨Nat.le_of_ble_eq_true rfl, Nat.le_of_ble_eq_true rfl, rfl, rfl⟩ (Nat.le_of_ble_eq_true rfl) dX6_put_20 ?_
    refine v_ifeqb (tgt := 33) hC dX6_put_23 (by decide) (fun h23 => ?_) (fun h23 => ?_)
    · refine v_iload_2 hC dX6_put_33 ?_
      refine v_iconst hC dX6_put_34 ic_0 ?_
      refine v_aload_0 hC dX6_put_35 ?_
      refine v_get hC fX6_26 (by decide) rfl rfl dX6_put_36 ?_
      refine v_iload_1 hC dX6_put_39 ?_
      refine v_aald hC (by omega) dX6_put_40 ?_
      refine v_get hC fX6_138 (S_lt (by omega)) (S_ent (by omega)) rfl dX6_put_41 ?_
      refine v_iconst hC dX6_put_44 ic_1 ?_
      refine v_isub hC dX6_put_45 ?_
      refine v_cs3r hC lX6_103 (k_X6_within _ _ _) ⟨Nat.le_of_ble_eq_true rfl, Nat.le_of_ble_eq_true rfl, rfl, rfl⟩ (Nat.le_of_ble_eq_true rfl) dX6_put_46 ?_
      refine v_ifneb (tgt := 59) hC dX6_put_49 (by decide) (fun h49 => ?_) (fun h49 => ?_)
      · obtain ⟨i, hi, rfl⟩ := isS_nat hws (by omega) h49
        have hz := (hws s (by omega)).2.2
        refine v_aload_0 hC dX6_put_59 ?_
        refine v_get hC fX6_26 (by decide) rfl rfl dX6_put_60 ?_
        refine v_iload_1 hC dX6_put_63 ?_
        refine v_aald hC (by omega) dX6_put_64 ?_
        refine v_iload_2 hC dX6_put_65 ?_
        refine v_iload_3 hC dX6_put_66 ?_
        refine v_cv2 hC lX6_139 (S_rcv (by omega) rfl) (k_X2_write (by omega) (by omega) _) ⟨Nat.le_of_ble_eq_true rfl, Nat.le_of_ble_eq_true rfl, rfl, rfl⟩ (Nat.le_of_ble_eq_true rfl) dX6_put_67 ?_
        refine v_iconst hC dX6_put_70 ic_0 ?_
        exact v_iret hC hT (by rw [cfPut, if_pos h4, tnI (j := s) (by omega), if_neg h23, if_pos h49, tnI (j := i) (by omega)]) dX6_put_71
      · refine v_aload_0 hC dX6_put_52 ?_
        refine v_ldc hC kX6_44 dX6_put_53 ?_
        refine v_cv1r hC lX6_45 ⟨by decide, 6, _, rfl, rfl, fun _ _ _ => ⟨_, rfl⟩⟩ (k_X6_finding _) ⟨Nat.le_of_ble_eq_true rfl, Nat.le_of_ble_eq_true rfl, rfl, rfl⟩ (Nat.le_of_ble_eq_true rfl) dX6_put_55 ?_
        exact v_iret hC hT (by rw [cfPut, if_pos h4, tnI (j := s) (by omega), if_neg h23, if_neg h49]) dX6_put_58
    · refine v_aload_0 hC dX6_put_26 ?_
      refine v_ldc hC kX6_137 dX6_put_27 ?_
      refine v_cv1r hC lX6_45 ⟨by decide, 6, _, rfl, rfl, fun _ _ _ => ⟨_, rfl⟩⟩ (k_X6_finding _) ⟨Nat.le_of_ble_eq_true rfl, Nat.le_of_ble_eq_true rfl, rfl, rfl⟩ (Nat.le_of_ble_eq_true rfl) dX6_put_29 ?_
      exact v_iret hC hT (by rw [cfPut, if_pos h4, tnI (j := s) (by omega), if_pos h23]) dX6_put_32
  · refine v_aload_0 hC dX6_put_7 ?_
    refine v_ldc hC kX6_44 dX6_put_8 ?_
    refine v_cv1r hC lX6_45 ⟨by decide, 6, _, rfl, rfl, fun _ _ _ => ⟨_, rfl⟩⟩ (k_X6_finding _) ⟨Nat.le_of_ble_eq_true rfl, Nat.le_of_ble_eq_true rfl, rfl, rfl⟩ (Nat.le_of_ble_eq_true rfl) dX6_put_10 ?_
    exact v_iret hC hT (by rw [cfPut, if_neg h4]) dX6_put_13
theorem part_nat {x : Int32} (hx : Nb x 24) {f n : Nat} (hf : f < 2 ^ 31) (hn : n < 2 ^ 31) (h : ¬ nI f < 0 ∧ ¬ nI n < 0 ∧ nI f ≤ x ∧ nI n ≤ x - nI f) : f + n ≤ x.toNatClampNeg ∧ x.toNatClampNeg ≤ 24 := by
  obtain ⟨h1, h2⟩ := hx
  obtain ⟨-, -, h3, h4⟩ := h
  rw [h1] at h3 h4
  have h5 := (nI_leI hf (by omega)).mp h3
  rw [pk_sub h5] at h4
  have h6 := (nI_leI hn (by omega)).mp h4
  exact ⟨by omega, h2⟩
theorem k_X6_copy {l : Launch} {E : ET} {σ μ : St} (hwc : WC σ) (hws : WS σ) (s f t g n : Int32) : Ct l E MX6_copy [.ref (adr E 0), .int s, .int f, .int t, .int g, .int n] (σ) (μ) (some (.int (cfCopy σ s f t g n).1)) ((cfCopy σ s f t g n).2) (μ) := by
  have h10 := hwc.n10
  have l10 := hwc.l10
  refine Ct.of (L := [some (.ref (adr E 0)), some (.int s), some (.int f), some (.int t), some (.int g), some (.int n)]) (by decide) rfl (Nat.le_of_ble_eq_true rfl) rfl (fun X hC hT => ?_)
  refine v_iload_1 hC dX6_copy_0 ?_
  refine v_cs1r hC lX6_127 (k_X6_isSheet _) ⟨Nat.le_of_ble_eq_true rfl, Nat.le_of_ble_eq_true rfl, rfl, rfl⟩ (Nat.le_of_ble_eq_true rfl) dX6_copy_1 ?_
  refine v_ifeqb (tgt := 14) hC dX6_copy_4 (by decide) (fun h4 => ?_) (fun h4 => ?_)
  · refine v_aload_0 hC dX6_copy_14 ?_
    refine v_ldc hC kX6_44 dX6_copy_15 ?_
    refine v_cv1r hC lX6_45 ⟨by decide, 6, _, rfl, rfl, fun _ _ _ => ⟨_, rfl⟩⟩ (k_X6_finding _) ⟨Nat.le_of_ble_eq_true rfl, Nat.le_of_ble_eq_true rfl, rfl, rfl⟩ (Nat.le_of_ble_eq_true rfl) dX6_copy_17 ?_
    exact v_iret hC hT (by rw [cfCopy, if_neg (fun q => h4 q.1)]) dX6_copy_20
  · refine v_iload_3 hC dX6_copy_7 ?_
    refine v_cs1r hC lX6_127 (k_X6_isSheet _) ⟨Nat.le_of_ble_eq_true rfl, Nat.le_of_ble_eq_true rfl, rfl, rfl⟩ (Nat.le_of_ble_eq_true rfl) dX6_copy_8 ?_
    refine v_ifneb (tgt := 21) hC dX6_copy_11 (by decide) (fun h11 => ?_) (fun h11 => ?_)
    · obtain ⟨s, hs, rfl⟩ := isR_nat (by decide) h4
      obtain ⟨t, ht, rfl⟩ := isR_nat (by decide) h11
      refine v_aload_0 hC dX6_copy_21 ?_
      refine v_get hC fX6_26 (by decide) rfl rfl dX6_copy_22 ?_
      refine v_iload_1 hC dX6_copy_25 ?_
      refine v_aald hC (by omega) dX6_copy_26 ?_
      refine v_cv0r hC lX6_133 (S_rcv (by omega) rfl) (k_X2_isMissing (by omega)) ⟨Nat.le_of_ble_eq_true rfl, Nat.le_of_ble_eq_true rfl, rfl, rfl⟩ (Nat.le_of_ble_eq_true rfl) dX6_copy_27 ?_
      refine v_ifneb (tgt := 45) hC dX6_copy_30 (by decide) (fun h30 => ?_) (fun h30 => ?_)
      · refine v_aload_0 hC dX6_copy_45 ?_
        refine v_ldc hC kX6_137 dX6_copy_46 ?_
        refine v_cv1r hC lX6_45 ⟨by decide, 6, _, rfl, rfl, fun _ _ _ => ⟨_, rfl⟩⟩ (k_X6_finding _) ⟨Nat.le_of_ble_eq_true rfl, Nat.le_of_ble_eq_true rfl, rfl, rfl⟩ (Nat.le_of_ble_eq_true rfl) dX6_copy_48 ?_
        exact v_iret hC hT (by rw [cfCopy, if_pos ⟨h4, h11⟩, tnI (j := s) (by omega), tnI (j := t) (by omega), if_pos (Or.inl h30)]) dX6_copy_51
      · refine v_aload_0 hC dX6_copy_33 ?_
        refine v_get hC fX6_26 (by decide) rfl rfl dX6_copy_34 ?_
        refine v_iload_3 hC dX6_copy_37 ?_
        refine v_aald hC (by omega) dX6_copy_38 ?_
        refine v_cv0r hC lX6_133 (S_rcv (by omega) rfl) (k_X2_isMissing (by omega)) ⟨Nat.le_of_ble_eq_true rfl, Nat.le_of_ble_eq_true rfl, rfl, rfl⟩ (Nat.le_of_ble_eq_true rfl) dX6_copy_39 ?_
        refine v_ifeqb (tgt := 52) hC dX6_copy_42 (by decide) (fun h42 => ?_) (fun h42 => ?_)
        · refine v_aload_0 hC dX6_copy_52 ?_
          refine v_get hC fX6_26 (by decide) rfl rfl dX6_copy_53 ?_
          refine v_iload_1 hC dX6_copy_56 ?_
          refine v_aald hC (by omega) dX6_copy_57 ?_
          refine v_get hC fX6_143 (S_lt (by omega)) (S_ent (by omega)) rfl dX6_copy_58 ?_
          refine v_aload_0 hC dX6_copy_61 ?_
          refine v_get hC fX6_26 (by decide) rfl rfl dX6_copy_62 ?_
          refine v_iload_3 hC dX6_copy_65 ?_
          refine v_aald hC (by omega) dX6_copy_66 ?_
          refine v_get hC fX6_143 (S_lt (by omega)) (S_ent (by omega)) rfl dX6_copy_67 ?_
          refine v_iceq (tgt := 80) hC dX6_copy_70 (by decide) (fun h70 => ?_) (fun h70 => ?_)
          · refine v_aload_0 hC dX6_copy_80 ?_
            refine v_get hC fX6_26 (by decide) rfl rfl dX6_copy_81 ?_
            refine v_iload_1 hC dX6_copy_84 ?_
            refine v_aald hC (by omega) dX6_copy_85 ?_
            refine v_iload_2 hC dX6_copy_86 ?_
            refine v_iload_5 hC dX6_copy_87 ?_
            refine v_cv2r hC lX6_146 (S_rcv (by omega) rfl) (k_X2_hasPart (by omega) _ _) ⟨Nat.le_of_ble_eq_true rfl, Nat.le_of_ble_eq_true rfl, rfl, rfl⟩ (Nat.le_of_ble_eq_true rfl) dX6_copy_89 ?_
            refine v_ifeqb (tgt := 111) hC dX6_copy_92 (by decide) (fun h92 => ?_) (fun h92 => ?_)
            · refine v_aload_0 hC dX6_copy_111 ?_
              refine v_ldc hC kX6_44 dX6_copy_112 ?_
              refine v_cv1r hC lX6_45 ⟨by decide, 6, _, rfl, rfl, fun _ _ _ => ⟨_, rfl⟩⟩ (k_X6_finding _) ⟨Nat.le_of_ble_eq_true rfl, Nat.le_of_ble_eq_true rfl, rfl, rfl⟩ (Nat.le_of_ble_eq_true rfl) dX6_copy_114 ?_
              exact v_iret hC hT (by rw [cfCopy, if_pos ⟨h4, h11⟩, tnI (j := s) (by omega), tnI (j := t) (by omega), if_neg (fun q => q.elim h30 h42), if_pos h70, if_neg (fun q => h92 q.1)]) dX6_copy_117
            · refine v_aload_0 hC dX6_copy_95 ?_
              refine v_get hC fX6_26 (by decide) rfl rfl dX6_copy_96 ?_
              refine v_iload_3 hC dX6_copy_99 ?_
              refine v_aald hC (by omega) dX6_copy_100 ?_
              refine v_iload_4 hC dX6_copy_101 ?_
              refine v_iload_5 hC dX6_copy_103 ?_
              refine v_cv2r hC lX6_146 (S_rcv (by omega) rfl) (k_X2_hasPart (by omega) _ _) ⟨Nat.le_of_ble_eq_true rfl, Nat.le_of_ble_eq_true rfl, rfl, rfl⟩ (Nat.le_of_ble_eq_true rfl) dX6_copy_105 ?_
              refine v_ifneb (tgt := 118) hC dX6_copy_108 (by decide) (fun h108 => ?_) (fun h108 => ?_)
              · have hz1 := (hws s (by omega)).2
                have hz2 := (hws t (by omega)).2
                obtain ⟨f, hf, rfl⟩ := nI_of h92.1
                obtain ⟨g, hg, rfl⟩ := nI_of h108.1
                obtain ⟨n, hn, rfl⟩ := nI_of h92.2.1
                have hp1 := part_nat hz1 hf hn h92
                have hp2 := part_nat hz2 hg hn h108
                refine v_aload_0 hC dX6_copy_118 ?_
                refine v_get hC fX6_26 (by decide) rfl rfl dX6_copy_119 ?_
                refine v_iload_1 hC dX6_copy_122 ?_
                refine v_aald hC (by omega) dX6_copy_123 ?_
                refine v_get hC fX6_149 (S_lt (by omega)) (S_ent (by omega)) rfl dX6_copy_124 ?_
                refine v_iload_2 hC dX6_copy_127 ?_
                refine v_aload_0 hC dX6_copy_128 ?_
                refine v_get hC fX6_26 (by decide) rfl rfl dX6_copy_129 ?_
                refine v_iload_3 hC dX6_copy_132 ?_
                refine v_aald hC (by omega) dX6_copy_133 ?_
                refine v_get hC fX6_149 (S_lt (by omega)) (S_ent (by omega)) rfl dX6_copy_134 ?_
                refine v_iload_4 hC dX6_copy_137 ?_
                refine v_iload_5 hC dX6_copy_139 ?_
                refine v_acopy hC (C_sh (by omega)) (C_sh (by omega)) (by omega) (by omega) lX6_152 na_acopy st_acopy ini_System (by decide) (Nat.le_of_ble_eq_true rfl) dX6_copy_141 ?_
                refine v_iload_5 hC dX6_copy_144 ?_
                exact v_iret hC hT (by rw [cfCopy, if_pos ⟨h4, h11⟩, tnI (j := s) (by omega), tnI (j := t) (by omega), if_neg (fun q => q.elim h30 h42), if_pos h70, if_pos ⟨h92, h108⟩, tnI (j := f) (by omega), tnI (j := g) (by omega), tnI (j := n) (by omega)]) dX6_copy_146
              · refine v_aload_0 hC dX6_copy_111 ?_
                refine v_ldc hC kX6_44 dX6_copy_112 ?_
                refine v_cv1r hC lX6_45 ⟨by decide, 6, _, rfl, rfl, fun _ _ _ => ⟨_, rfl⟩⟩ (k_X6_finding _) ⟨Nat.le_of_ble_eq_true rfl, Nat.le_of_ble_eq_true rfl, rfl, rfl⟩ (Nat.le_of_ble_eq_true rfl) dX6_copy_114 ?_
                exact v_iret hC hT (by rw [cfCopy, if_pos ⟨h4, h11⟩, tnI (j := s) (by omega), tnI (j := t) (by omega), if_neg (fun q => q.elim h30 h42), if_pos h70, if_neg (fun q => h108 q.2)]) dX6_copy_117
          · refine v_aload_0 hC dX6_copy_73 ?_
            refine v_ldc hC kX6_74 dX6_copy_74 ?_
            refine v_cv1r hC lX6_45 ⟨by decide, 6, _, rfl, rfl, fun _ _ _ => ⟨_, rfl⟩⟩ (k_X6_finding _) ⟨Nat.le_of_ble_eq_true rfl, Nat.le_of_ble_eq_true rfl, rfl, rfl⟩ (Nat.le_of_ble_eq_true rfl) dX6_copy_76 ?_
            exact v_iret hC hT (by rw [cfCopy, if_pos ⟨h4, h11⟩, tnI (j := s) (by omega), tnI (j := t) (by omega), if_neg (fun q => q.elim h30 h42), if_neg h70]) dX6_copy_79
        · refine v_aload_0 hC dX6_copy_45 ?_
          refine v_ldc hC kX6_137 dX6_copy_46 ?_
          refine v_cv1r hC lX6_45 ⟨by decide, 6, _, rfl, rfl, fun _ _ _ => ⟨_, rfl⟩⟩ (k_X6_finding _) ⟨Nat.le_of_ble_eq_true rfl, Nat.le_of_ble_eq_true rfl, rfl, rfl⟩ (Nat.le_of_ble_eq_true rfl) dX6_copy_48 ?_
          exact v_iret hC hT (by rw [cfCopy, if_pos ⟨h4, h11⟩, tnI (j := s) (by omega), tnI (j := t) (by omega), if_pos (Or.inr h42)]) dX6_copy_51
    · refine v_aload_0 hC dX6_copy_14 ?_
      refine v_ldc hC kX6_44 dX6_copy_15 ?_
      refine v_cv1r hC lX6_45 ⟨by decide, 6, _, rfl, rfl, fun _ _ _ => ⟨_, rfl⟩⟩ (k_X6_finding _) ⟨Nat.le_of_ble_eq_true rfl, Nat.le_of_ble_eq_true rfl, rfl, rfl⟩ (Nat.le_of_ble_eq_true rfl) dX6_copy_17 ?_
      exact v_iret hC hT (by rw [cfCopy, if_neg (fun q => h11 q.2)]) dX6_copy_20
theorem k_X6_draws {l : Launch} {E : ET} {σ μ : St} (hwc : WC σ) (hws : WS σ) (w m s : Int32) : Ct l E MX6_draws [.ref (adr E 0), .int w, .int m, .int s] (σ) (μ) (some (.int (cfDraws σ w m s).1)) ((cfDraws σ w m s).2) (μ) := by
  have h10 := hwc.n10
  have l10 := hwc.l10
  refine Ct.of (L := [some (.ref (adr E 0)), some (.int w), some (.int m), some (.int s), none, none, none]) (by decide) rfl (Nat.le_of_ble_eq_true rfl) rfl (fun X hC hT => ?_)
  refine v_aload_0 hC dX6_draws_0 ?_
  refine v_iload_1 hC dX6_draws_1 ?_
  refine v_cv1r hC lX6_63 ⟨by decide, 6, _, rfl, rfl, fun _ _ _ => ⟨_, rfl⟩⟩ (k_X6_isWell _) ⟨Nat.le_of_ble_eq_true rfl, Nat.le_of_ble_eq_true rfl, rfl, rfl⟩ (Nat.le_of_ble_eq_true rfl) dX6_draws_2 ?_
  refine v_ifeqb (tgt := 22) hC dX6_draws_5 (by decide) (fun h5 => ?_) (fun h5 => ?_)
  · refine v_aload_0 hC dX6_draws_22 ?_
    refine v_ldc hC kX6_44 dX6_draws_23 ?_
    refine v_cv1r hC lX6_45 ⟨by decide, 6, _, rfl, rfl, fun _ _ _ => ⟨_, rfl⟩⟩ (k_X6_finding _) ⟨Nat.le_of_ble_eq_true rfl, Nat.le_of_ble_eq_true rfl, rfl, rfl⟩ (Nat.le_of_ble_eq_true rfl) dX6_draws_25 ?_
    exact v_iret hC hT (by rw [cfDraws, if_neg (fun q => h5 q.1)]) dX6_draws_28
  · refine v_iload_2 hC dX6_draws_8 ?_
    refine v_cs1r hC lX6_158 (k_X6_isMonth _) ⟨Nat.le_of_ble_eq_true rfl, Nat.le_of_ble_eq_true rfl, rfl, rfl⟩ (Nat.le_of_ble_eq_true rfl) dX6_draws_9 ?_
    refine v_ifeqb (tgt := 22) hC dX6_draws_12 (by decide) (fun h12 => ?_) (fun h12 => ?_)
    · refine v_aload_0 hC dX6_draws_22 ?_
      refine v_ldc hC kX6_44 dX6_draws_23 ?_
      refine v_cv1r hC lX6_45 ⟨by decide, 6, _, rfl, rfl, fun _ _ _ => ⟨_, rfl⟩⟩ (k_X6_finding _) ⟨Nat.le_of_ble_eq_true rfl, Nat.le_of_ble_eq_true rfl, rfl, rfl⟩ (Nat.le_of_ble_eq_true rfl) dX6_draws_25 ?_
      exact v_iret hC hT (by rw [cfDraws, if_neg (fun q => h12 q.2.1)]) dX6_draws_28
    · refine v_iload_3 hC dX6_draws_15 ?_
      refine v_cs1r hC lX6_127 (k_X6_isSheet _) ⟨Nat.le_of_ble_eq_true rfl, Nat.le_of_ble_eq_true rfl, rfl, rfl⟩ (Nat.le_of_ble_eq_true rfl) dX6_draws_16 ?_
      refine v_ifneb (tgt := 29) hC dX6_draws_19 (by decide) (fun h19 => ?_) (fun h19 => ?_)
      · obtain ⟨w, hw, rfl⟩ := isW_nat hwc h5
        obtain ⟨m, hm, rfl⟩ := isR_nat (by decide) h12
        obtain ⟨s, hs, rfl⟩ := isR_nat (by decide) h19
        have hz := (hws s (by omega)).2.2
        have hdr : drN σ m s ≤ 24 - m := Nat.min_le_right _ _
        have hdr2 : drN σ m s ≤ 24 := by omega
        refine v_aload_0 hC dX6_draws_29 ?_
        refine v_get hC fX6_10 (by decide) rfl rfl dX6_draws_30 ?_
        refine v_get hC fX6_49 (by decide) rfl rfl dX6_draws_33 ?_
        refine v_get hC fX6_75 (by decide) rfl rfl dX6_draws_36 ?_
        refine v_iload_1 hC dX6_draws_39 ?_
        refine v_iald hC C_3 (by omega) dX6_draws_40 ?_
        refine v_iconst hC dX6_draws_41 ic_5 ?_
        refine v_icne (tgt := 52) hC dX6_draws_42 (by decide) (fun h42 => ?_) (fun h42 => ?_)
        · refine v_aload_0 hC dX6_draws_52 ?_
          refine v_get hC fX6_26 (by decide) rfl rfl dX6_draws_53 ?_
          refine v_iload_3 hC dX6_draws_56 ?_
          refine v_aald hC (by omega) dX6_draws_57 ?_
          refine v_astore_4 hC (by decide) rfl dX6_draws_58 ?_
          refine v_aload_4 hC dX6_draws_60 ?_
          refine v_cv0r hC lX6_133 (S_rcv (by omega) rfl) (k_X2_isMissing (by omega)) ⟨Nat.le_of_ble_eq_true rfl, Nat.le_of_ble_eq_true rfl, rfl, rfl⟩ (Nat.le_of_ble_eq_true rfl) dX6_draws_62 ?_
          refine v_ifeqb (tgt := 75) hC dX6_draws_65 (by decide) (fun h65 => ?_) (fun h65 => ?_)
          · refine v_aload_4 hC dX6_draws_75 ?_
            refine v_get hC fX6_138 (S_lt (by omega)) (S_ent (by omega)) rfl dX6_draws_77 ?_
            refine v_bipush hC dX6_draws_80 bp_24 ?_
            refine v_iload_2 hC dX6_draws_82 ?_
            refine v_isubN hC dX6_draws_83 (by omega) ?_
            refine v_min hC lX6_161 st_min ini_Math co_min (by decide) (Nat.le_of_ble_eq_true rfl) dX6_draws_84 ?_
            refine v_top (y := nI (drN σ m s)) (by rw [(hws s (by omega)).2.1, mn_nI (by omega) (by omega)]; rfl) ?_
            refine v_istore_5 hC (by decide) rfl dX6_draws_87 ?_
            refine v_aload_4 hC dX6_draws_89 ?_
            refine v_iload_5 hC dX6_draws_91 ?_
            refine v_cv1r hC lX6_166 (S_rcv (by omega) rfl) (k_X2_startsWithNumbers (by omega) (by omega)) ⟨Nat.le_of_ble_eq_true rfl, Nat.le_of_ble_eq_true rfl, rfl, rfl⟩ (Nat.le_of_ble_eq_true rfl) dX6_draws_93 ?_
            refine v_ifneb (tgt := 106) hC dX6_draws_96 (by decide) (fun h96 => ?_) (fun h96 => ?_)
            · refine v_aload_4 hC dX6_draws_106 ?_
              refine v_iload_5 hC dX6_draws_108 ?_
              refine v_cv1r hC lX6_170 (S_rcv (by omega) rfl) (k_X2_startsWithAmounts (by omega) (by omega)) ⟨Nat.le_of_ble_eq_true rfl, Nat.le_of_ble_eq_true rfl, rfl, rfl⟩ (Nat.le_of_ble_eq_true rfl) dX6_draws_110 ?_
              refine v_ifneb (tgt := 123) hC dX6_draws_113 (by decide) (fun h113 => ?_) (fun h113 => ?_)
              · refine v_iconst hC dX6_draws_123 ic_0 ?_
                refine v_istore_6 hC (by decide) rfl dX6_draws_124 ?_
                refine up_loop (fun d : Nat => V X E 126 [some (.ref (adr E 0)), some (.int (nI w)), some (.int (nI m)), some (.int (nI s)), some (.ref (adr E (46 + s))), some (.int (nI (drN σ m s))), some (.int (nI d))] [] (it0 (fDrw w m s) d σ) (μ)) (Nat.zero_le (drN σ m s)) ?_ (fun d _ hd ih => ?_)
                · refine v_iload_6 hC dX6_draws_126 ?_
                  refine v_iload_5 hC dX6_draws_128 ?_
                  refine v_icge (tgt := 158) hC dX6_draws_130 (by decide) (fun h130 => ?_) (fun h130 => absurd (Int32.le_refl _) h130)
                  refine v_iload_5 hC dX6_draws_158 ?_
                  exact v_iret hC hT (by rw [cfDraws, if_pos ⟨h5, h12, h19⟩, tnI (j := w) (by omega), tnI (j := m) (by omega), tnI (j := s) (by omega), if_neg h42, if_neg h65, if_pos h96, if_pos h113]) dX6_draws_160
                · refine v_iload_6 hC dX6_draws_126 ?_
                  refine v_iload_5 hC dX6_draws_128 ?_
                  refine v_icge (tgt := 158) hC dX6_draws_130 (by decide) (fun h130 => absurd h130 (nI_ge hd (by omega))) (fun h130 => ?_)
                  refine v_aload_0 hC dX6_draws_133 ?_
                  refine v_get hC fX6_10 (by decide) rfl rfl dX6_draws_134 ?_
                  refine v_iload_1 hC dX6_draws_137 ?_
                  refine v_iload_2 hC dX6_draws_138 ?_
                  refine v_iload_6 hC dX6_draws_139 ?_
                  refine v_iaddN hC dX6_draws_141 ?_
                  refine v_aload_4 hC dX6_draws_142 ?_
                  refine v_iload_6 hC dX6_draws_144 ?_
                  refine v_cv1r hC lX6_173 (S_rcv (by omega) rfl) (k_X2_whole (by omega) (by omega)) ⟨Nat.le_of_ble_eq_true rfl, Nat.le_of_ble_eq_true rfl, rfl, rfl⟩ (Nat.le_of_ble_eq_true rfl) dX6_draws_146 ?_
                  refine v_cv3 hC lX6_176 ⟨by decide, 4, _, rfl, rfl, fun _ _ _ => ⟨_, rfl⟩⟩ (k_X4_setDraw (by omega) (by omega)) ⟨Nat.le_of_ble_eq_true rfl, Nat.le_of_ble_eq_true rfl, rfl, rfl⟩ (Nat.le_of_ble_eq_true rfl) dX6_draws_149 ?_
                  refine v_iinc1_6 hC (by decide) rfl dX6_draws_152 ?_
                  refine v_goto (tgt := 126) hC dX6_draws_155 (by decide) ?_
                  exact ih
              · refine v_aload_0 hC dX6_draws_116 ?_
                refine v_ldc hC kX6_44 dX6_draws_117 ?_
                refine v_cv1r hC lX6_45 ⟨by decide, 6, _, rfl, rfl, fun _ _ _ => ⟨_, rfl⟩⟩ (k_X6_finding _) ⟨Nat.le_of_ble_eq_true rfl, Nat.le_of_ble_eq_true rfl, rfl, rfl⟩ (Nat.le_of_ble_eq_true rfl) dX6_draws_119 ?_
                exact v_iret hC hT (by rw [cfDraws, if_pos ⟨h5, h12, h19⟩, tnI (j := w) (by omega), tnI (j := m) (by omega), tnI (j := s) (by omega), if_neg h42, if_neg h65, if_pos h96, if_neg h113]) dX6_draws_122
            · refine v_aload_0 hC dX6_draws_99 ?_
              refine v_ldc hC kX6_169 dX6_draws_100 ?_
              refine v_cv1r hC lX6_45 ⟨by decide, 6, _, rfl, rfl, fun _ _ _ => ⟨_, rfl⟩⟩ (k_X6_finding _) ⟨Nat.le_of_ble_eq_true rfl, Nat.le_of_ble_eq_true rfl, rfl, rfl⟩ (Nat.le_of_ble_eq_true rfl) dX6_draws_102 ?_
              exact v_iret hC hT (by rw [cfDraws, if_pos ⟨h5, h12, h19⟩, tnI (j := w) (by omega), tnI (j := m) (by omega), tnI (j := s) (by omega), if_neg h42, if_neg h65, if_neg h96]) dX6_draws_105
          · refine v_aload_0 hC dX6_draws_68 ?_
            refine v_ldc hC kX6_137 dX6_draws_69 ?_
            refine v_cv1r hC lX6_45 ⟨by decide, 6, _, rfl, rfl, fun _ _ _ => ⟨_, rfl⟩⟩ (k_X6_finding _) ⟨Nat.le_of_ble_eq_true rfl, Nat.le_of_ble_eq_true rfl, rfl, rfl⟩ (Nat.le_of_ble_eq_true rfl) dX6_draws_71 ?_
            exact v_iret hC hT (by rw [cfDraws, if_pos ⟨h5, h12, h19⟩, tnI (j := w) (by omega), tnI (j := m) (by omega), tnI (j := s) (by omega), if_neg h42, if_pos h65]) dX6_draws_74
        · refine v_aload_0 hC dX6_draws_45 ?_
          refine v_ldc hC kX6_74 dX6_draws_46 ?_
          refine v_cv1r hC lX6_45 ⟨by decide, 6, _, rfl, rfl, fun _ _ _ => ⟨_, rfl⟩⟩ (k_X6_finding _) ⟨Nat.le_of_ble_eq_true rfl, Nat.le_of_ble_eq_true rfl, rfl, rfl⟩ (Nat.le_of_ble_eq_true rfl) dX6_draws_48 ?_
          exact v_iret hC hT (by rw [cfDraws, if_pos ⟨h5, h12, h19⟩, tnI (j := w) (by omega), tnI (j := m) (by omega), tnI (j := s) (by omega), if_pos h42]) dX6_draws_51
      · refine v_aload_0 hC dX6_draws_22 ?_
        refine v_ldc hC kX6_44 dX6_draws_23 ?_
        refine v_cv1r hC lX6_45 ⟨by decide, 6, _, rfl, rfl, fun _ _ _ => ⟨_, rfl⟩⟩ (k_X6_finding _) ⟨Nat.le_of_ble_eq_true rfl, Nat.le_of_ble_eq_true rfl, rfl, rfl⟩ (Nat.le_of_ble_eq_true rfl) dX6_draws_25 ?_
        exact v_iret hC hT (by rw [cfDraws, if_neg (fun q => h19 q.2.2)]) dX6_draws_28
theorem k_X6_draw {l : Launch} {E : ET} {σ μ : St} (hwc : WC σ) (hws : WS σ) (w m v : Int32) : Ct l E MX6_draw [.ref (adr E 0), .int w, .int m, .int v] (σ) (μ) (some (.int (cfDraw σ w m v).1)) ((cfDraw σ w m v).2) (μ) := by
  have h10 := hwc.n10
  have l10 := hwc.l10
  refine Ct.of (L := [some (.ref (adr E 0)), some (.int w), some (.int m), some (.int v), none]) (by decide) rfl (Nat.le_of_ble_eq_true rfl) rfl (fun X hC hT => ?_)
  refine v_aload_0 hC dX6_draw_0 ?_
  refine v_iload_1 hC dX6_draw_1 ?_
  refine v_cv1r hC lX6_63 ⟨by decide, 6, _, rfl, rfl, fun _ _ _ => ⟨_, rfl⟩⟩ (k_X6_isWell _) ⟨Nat.le_of_ble_eq_true rfl, Nat.le_of_ble_eq_true rfl, rfl, rfl⟩ (Nat.le_of_ble_eq_true rfl) dX6_draw_2 ?_
  refine v_ifeqb (tgt := 22) hC dX6_draw_5 (by decide) (fun h5 => ?_) (fun h5 => ?_)
  · refine v_aload_0 hC dX6_draw_22 ?_
    refine v_ldc hC kX6_44 dX6_draw_23 ?_
    refine v_cv1r hC lX6_45 ⟨by decide, 6, _, rfl, rfl, fun _ _ _ => ⟨_, rfl⟩⟩ (k_X6_finding _) ⟨Nat.le_of_ble_eq_true rfl, Nat.le_of_ble_eq_true rfl, rfl, rfl⟩ (Nat.le_of_ble_eq_true rfl) dX6_draw_25 ?_
    exact v_iret hC hT (by rw [cfDraw, if_neg (fun q => h5 q.1)]) dX6_draw_28
  · refine v_iload_2 hC dX6_draw_8 ?_
    refine v_cs1r hC lX6_158 (k_X6_isMonth _) ⟨Nat.le_of_ble_eq_true rfl, Nat.le_of_ble_eq_true rfl, rfl, rfl⟩ (Nat.le_of_ble_eq_true rfl) dX6_draw_9 ?_
    refine v_ifeqb (tgt := 22) hC dX6_draw_12 (by decide) (fun h12 => ?_) (fun h12 => ?_)
    · refine v_aload_0 hC dX6_draw_22 ?_
      refine v_ldc hC kX6_44 dX6_draw_23 ?_
      refine v_cv1r hC lX6_45 ⟨by decide, 6, _, rfl, rfl, fun _ _ _ => ⟨_, rfl⟩⟩ (k_X6_finding _) ⟨Nat.le_of_ble_eq_true rfl, Nat.le_of_ble_eq_true rfl, rfl, rfl⟩ (Nat.le_of_ble_eq_true rfl) dX6_draw_25 ?_
      exact v_iret hC hT (by rw [cfDraw, if_neg (fun q => h12 q.2.1)]) dX6_draw_28
    · refine v_iload_3 hC dX6_draw_15 ?_
      refine v_cs1r hC lX6_100 (k_X6_isAmount _) ⟨Nat.le_of_ble_eq_true rfl, Nat.le_of_ble_eq_true rfl, rfl, rfl⟩ (Nat.le_of_ble_eq_true rfl) dX6_draw_16 ?_
      refine v_ifneb (tgt := 29) hC dX6_draw_19 (by decide) (fun h19 => ?_) (fun h19 => ?_)
      · obtain ⟨w, hw, rfl⟩ := isW_nat hwc h5
        obtain ⟨m, hm, rfl⟩ := isR_nat (by decide) h12
        refine v_aload_0 hC dX6_draw_29 ?_
        refine v_get hC fX6_10 (by decide) rfl rfl dX6_draw_30 ?_
        refine v_get hC fX6_49 (by decide) rfl rfl dX6_draw_33 ?_
        refine v_get hC fX6_75 (by decide) rfl rfl dX6_draw_36 ?_
        refine v_iload_1 hC dX6_draw_39 ?_
        refine v_iald hC C_3 (by omega) dX6_draw_40 ?_
        refine v_iconst hC dX6_draw_41 ic_5 ?_
        refine v_icne (tgt := 52) hC dX6_draw_42 (by decide) (fun h42 => ?_) (fun h42 => ?_)
        · refine v_aload_0 hC dX6_draw_52 ?_
          refine v_get hC fX6_10 (by decide) rfl rfl dX6_draw_53 ?_
          refine v_iload_1 hC dX6_draw_56 ?_
          refine v_iload_2 hC dX6_draw_57 ?_
          refine v_cv2r hC lX6_180 ⟨by decide, 4, _, rfl, rfl, fun _ _ _ => ⟨_, rfl⟩⟩ (k_X4_drawOf (by omega) (by omega)) ⟨Nat.le_of_ble_eq_true rfl, Nat.le_of_ble_eq_true rfl, rfl, rfl⟩ (Nat.le_of_ble_eq_true rfl) dX6_draw_58 ?_
          refine v_istore_4 hC (by decide) rfl dX6_draw_61 ?_
          refine v_aload_0 hC dX6_draw_63 ?_
          refine v_get hC fX6_10 (by decide) rfl rfl dX6_draw_64 ?_
          refine v_iload_1 hC dX6_draw_67 ?_
          refine v_iload_2 hC dX6_draw_68 ?_
          refine v_iload_3 hC dX6_draw_69 ?_
          refine v_cv3 hC lX6_176 ⟨by decide, 4, _, rfl, rfl, fun _ _ _ => ⟨_, rfl⟩⟩ (k_X4_setDraw (by omega) (by omega)) ⟨Nat.le_of_ble_eq_true rfl, Nat.le_of_ble_eq_true rfl, rfl, rfl⟩ (Nat.le_of_ble_eq_true rfl) dX6_draw_70 ?_
          refine v_iload_4 hC dX6_draw_73 ?_
          exact v_iret hC hT (by rw [cfDraw, if_pos ⟨h5, h12, h19⟩, tnI (j := w) (by omega), tnI (j := m) (by omega), if_neg h42]) dX6_draw_75
        · refine v_aload_0 hC dX6_draw_45 ?_
          refine v_ldc hC kX6_74 dX6_draw_46 ?_
          refine v_cv1r hC lX6_45 ⟨by decide, 6, _, rfl, rfl, fun _ _ _ => ⟨_, rfl⟩⟩ (k_X6_finding _) ⟨Nat.le_of_ble_eq_true rfl, Nat.le_of_ble_eq_true rfl, rfl, rfl⟩ (Nat.le_of_ble_eq_true rfl) dX6_draw_48 ?_
          exact v_iret hC hT (by rw [cfDraw, if_pos ⟨h5, h12, h19⟩, tnI (j := w) (by omega), tnI (j := m) (by omega), if_pos h42]) dX6_draw_51
      · refine v_aload_0 hC dX6_draw_22 ?_
        refine v_ldc hC kX6_44 dX6_draw_23 ?_
        refine v_cv1r hC lX6_45 ⟨by decide, 6, _, rfl, rfl, fun _ _ _ => ⟨_, rfl⟩⟩ (k_X6_finding _) ⟨Nat.le_of_ble_eq_true rfl, Nat.le_of_ble_eq_true rfl, rfl, rfl⟩ (Nat.le_of_ble_eq_true rfl) dX6_draw_25 ?_
        exact v_iret hC hT (by rw [cfDraw, if_neg (fun q => h19 q.2.2)]) dX6_draw_28
theorem k_X6_counts {l : Launch} {E : ET} {σ μ : St} (hwc : WC σ) (hws : WS σ) (w m : Int32) : Ct l E MX6_counts [.ref (adr E 0), .int w, .int m] (σ) (μ) (some (.int (cfCounts σ w m).1)) ((cfCounts σ w m).2) (μ) := by
  have h10 := hwc.n10
  have l10 := hwc.l10
  refine Ct.of (L := [some (.ref (adr E 0)), some (.int w), some (.int m)]) (by decide) rfl (Nat.le_of_ble_eq_true rfl) rfl (fun X hC hT => ?_)
  refine v_aload_0 hC dX6_counts_0 ?_
  refine v_iload_1 hC dX6_counts_1 ?_
  refine v_cv1r hC lX6_63 ⟨by decide, 6, _, rfl, rfl, fun _ _ _ => ⟨_, rfl⟩⟩ (k_X6_isWell _) ⟨Nat.le_of_ble_eq_true rfl, Nat.le_of_ble_eq_true rfl, rfl, rfl⟩ (Nat.le_of_ble_eq_true rfl) dX6_counts_2 ?_
  refine v_ifeqb (tgt := 15) hC dX6_counts_5 (by decide) (fun h5 => ?_) (fun h5 => ?_)
  · refine v_aload_0 hC dX6_counts_15 ?_
    refine v_ldc hC kX6_44 dX6_counts_16 ?_
    refine v_cv1r hC lX6_45 ⟨by decide, 6, _, rfl, rfl, fun _ _ _ => ⟨_, rfl⟩⟩ (k_X6_finding _) ⟨Nat.le_of_ble_eq_true rfl, Nat.le_of_ble_eq_true rfl, rfl, rfl⟩ (Nat.le_of_ble_eq_true rfl) dX6_counts_18 ?_
    exact v_iret hC hT (by rw [cfCounts, if_neg (fun q => h5 q.1)]) dX6_counts_21
  · refine v_iload_2 hC dX6_counts_8 ?_
    refine v_cs1r hC lX6_158 (k_X6_isMonth _) ⟨Nat.le_of_ble_eq_true rfl, Nat.le_of_ble_eq_true rfl, rfl, rfl⟩ (Nat.le_of_ble_eq_true rfl) dX6_counts_9 ?_
    refine v_ifneb (tgt := 22) hC dX6_counts_12 (by decide) (fun h12 => ?_) (fun h12 => ?_)
    · obtain ⟨w, hw, rfl⟩ := isW_nat hwc h5
      obtain ⟨m, hm, rfl⟩ := isR_nat (by decide) h12
      refine v_aload_0 hC dX6_counts_22 ?_
      refine v_get hC fX6_10 (by decide) rfl rfl dX6_counts_23 ?_
      refine v_iload_1 hC dX6_counts_26 ?_
      refine v_iload_2 hC dX6_counts_27 ?_
      refine v_cv2r hC lX6_183 ⟨by decide, 4, _, rfl, rfl, fun _ _ _ => ⟨_, rfl⟩⟩ (k_X4_counted hwc (by omega) (by omega)) ⟨Nat.le_of_ble_eq_true rfl, Nat.le_of_ble_eq_true rfl, rfl, rfl⟩ (Nat.le_of_ble_eq_true rfl) dX6_counts_28 ?_
      exact v_iret hC hT (by rw [cfCounts, if_pos ⟨h5, h12⟩, tnI (j := w) (by omega), tnI (j := m) (by omega)]) dX6_counts_31
    · refine v_aload_0 hC dX6_counts_15 ?_
      refine v_ldc hC kX6_44 dX6_counts_16 ?_
      refine v_cv1r hC lX6_45 ⟨by decide, 6, _, rfl, rfl, fun _ _ _ => ⟨_, rfl⟩⟩ (k_X6_finding _) ⟨Nat.le_of_ble_eq_true rfl, Nat.le_of_ble_eq_true rfl, rfl, rfl⟩ (Nat.le_of_ble_eq_true rfl) dX6_counts_18 ?_
      exact v_iret hC hT (by rw [cfCounts, if_neg (fun q => h12 q.2)]) dX6_counts_21
theorem k_X6_head {l : Launch} {E : ET} {σ μ : St} (hwc : WC σ) (hws : WS σ) (w m : Int32) : Ct l E MX6_head [.ref (adr E 0), .int w, .int m] (σ) (μ) (some (.int (cfHead σ w m).1)) ((cfHead σ w m).2) (μ) := by
  have h10 := hwc.n10
  have l10 := hwc.l10
  refine Ct.of (L := [some (.ref (adr E 0)), some (.int w), some (.int m)]) (by decide) rfl (Nat.le_of_ble_eq_true rfl) rfl (fun X hC hT => ?_)
  refine v_aload_0 hC dX6_head_0 ?_
  refine v_iload_1 hC dX6_head_1 ?_
  refine v_cv1r hC lX6_63 ⟨by decide, 6, _, rfl, rfl, fun _ _ _ => ⟨_, rfl⟩⟩ (k_X6_isWell _) ⟨Nat.le_of_ble_eq_true rfl, Nat.le_of_ble_eq_true rfl, rfl, rfl⟩ (Nat.le_of_ble_eq_true rfl) dX6_head_2 ?_
  refine v_ifeqb (tgt := 15) hC dX6_head_5 (by decide) (fun h5 => ?_) (fun h5 => ?_)
  · refine v_aload_0 hC dX6_head_15 ?_
    refine v_ldc hC kX6_44 dX6_head_16 ?_
    refine v_cv1r hC lX6_45 ⟨by decide, 6, _, rfl, rfl, fun _ _ _ => ⟨_, rfl⟩⟩ (k_X6_finding _) ⟨Nat.le_of_ble_eq_true rfl, Nat.le_of_ble_eq_true rfl, rfl, rfl⟩ (Nat.le_of_ble_eq_true rfl) dX6_head_18 ?_
    exact v_iret hC hT (by rw [cfHead, if_neg (fun q => h5 q.1)]) dX6_head_21
  · refine v_iload_2 hC dX6_head_8 ?_
    refine v_cs1r hC lX6_158 (k_X6_isMonth _) ⟨Nat.le_of_ble_eq_true rfl, Nat.le_of_ble_eq_true rfl, rfl, rfl⟩ (Nat.le_of_ble_eq_true rfl) dX6_head_9 ?_
    refine v_ifneb (tgt := 22) hC dX6_head_12 (by decide) (fun h12 => ?_) (fun h12 => ?_)
    · obtain ⟨w, hw, rfl⟩ := isW_nat hwc h5
      obtain ⟨m, hm, rfl⟩ := isR_nat (by decide) h12
      refine v_aload_0 hC dX6_head_22 ?_
      refine v_get hC fX6_10 (by decide) rfl rfl dX6_head_23 ?_
      refine v_iload_1 hC dX6_head_26 ?_
      refine v_iload_2 hC dX6_head_27 ?_
      refine v_cv2r hC lX6_196 ⟨by decide, 4, _, rfl, rfl, fun _ _ _ => ⟨_, rfl⟩⟩ (k_X4_headOf hwc (by omega) (by omega)) ⟨Nat.le_of_ble_eq_true rfl, Nat.le_of_ble_eq_true rfl, rfl, rfl⟩ (Nat.le_of_ble_eq_true rfl) dX6_head_28 ?_
      exact v_iret hC hT (by rw [cfHead, if_pos ⟨h5, h12⟩, tnI (j := w) (by omega), tnI (j := m) (by omega)]) dX6_head_31
    · refine v_aload_0 hC dX6_head_15 ?_
      refine v_ldc hC kX6_44 dX6_head_16 ?_
      refine v_cv1r hC lX6_45 ⟨by decide, 6, _, rfl, rfl, fun _ _ _ => ⟨_, rfl⟩⟩ (k_X6_finding _) ⟨Nat.le_of_ble_eq_true rfl, Nat.le_of_ble_eq_true rfl, rfl, rfl⟩ (Nat.le_of_ble_eq_true rfl) dX6_head_18 ?_
      exact v_iret hC hT (by rw [cfHead, if_neg (fun q => h12 q.2)]) dX6_head_21
theorem k_X6_rained {l : Launch} {E : ET} {σ μ : St} (hwc : WC σ) (hws : WS σ) (w m : Int32) : Ct l E MX6_rained [.ref (adr E 0), .int w, .int m] (σ) (μ) (some (.int (cfRained σ w m).1)) ((cfRained σ w m).2) (μ) := by
  have h10 := hwc.n10
  have l10 := hwc.l10
  refine Ct.of (L := [some (.ref (adr E 0)), some (.int w), some (.int m)]) (by decide) rfl (Nat.le_of_ble_eq_true rfl) rfl (fun X hC hT => ?_)
  refine v_aload_0 hC dX6_rained_0 ?_
  refine v_iload_1 hC dX6_rained_1 ?_
  refine v_cv1r hC lX6_63 ⟨by decide, 6, _, rfl, rfl, fun _ _ _ => ⟨_, rfl⟩⟩ (k_X6_isWell _) ⟨Nat.le_of_ble_eq_true rfl, Nat.le_of_ble_eq_true rfl, rfl, rfl⟩ (Nat.le_of_ble_eq_true rfl) dX6_rained_2 ?_
  refine v_ifeqb (tgt := 15) hC dX6_rained_5 (by decide) (fun h5 => ?_) (fun h5 => ?_)
  · refine v_aload_0 hC dX6_rained_15 ?_
    refine v_ldc hC kX6_44 dX6_rained_16 ?_
    refine v_cv1r hC lX6_45 ⟨by decide, 6, _, rfl, rfl, fun _ _ _ => ⟨_, rfl⟩⟩ (k_X6_finding _) ⟨Nat.le_of_ble_eq_true rfl, Nat.le_of_ble_eq_true rfl, rfl, rfl⟩ (Nat.le_of_ble_eq_true rfl) dX6_rained_18 ?_
    exact v_iret hC hT (by rw [cfRained, if_neg (fun q => h5 q.1)]) dX6_rained_21
  · refine v_iload_2 hC dX6_rained_8 ?_
    refine v_cs1r hC lX6_158 (k_X6_isMonth _) ⟨Nat.le_of_ble_eq_true rfl, Nat.le_of_ble_eq_true rfl, rfl, rfl⟩ (Nat.le_of_ble_eq_true rfl) dX6_rained_9 ?_
    refine v_ifneb (tgt := 22) hC dX6_rained_12 (by decide) (fun h12 => ?_) (fun h12 => ?_)
    · obtain ⟨w, hw, rfl⟩ := isW_nat hwc h5
      obtain ⟨m, hm, rfl⟩ := isR_nat (by decide) h12
      refine v_aload_0 hC dX6_rained_22 ?_
      refine v_get hC fX6_10 (by decide) rfl rfl dX6_rained_23 ?_
      refine v_iload_2 hC dX6_rained_26 ?_
      refine v_cv1r hC lX6_202 ⟨by decide, 4, _, rfl, rfl, fun _ _ _ => ⟨_, rfl⟩⟩ (k_X4_raisedByRain (by omega)) ⟨Nat.le_of_ble_eq_true rfl, Nat.le_of_ble_eq_true rfl, rfl, rfl⟩ (Nat.le_of_ble_eq_true rfl) dX6_rained_27 ?_
      exact v_iret hC hT (by rw [cfRained, if_pos ⟨h5, h12⟩, tnI (j := m) (by omega)]) dX6_rained_30
    · refine v_aload_0 hC dX6_rained_15 ?_
      refine v_ldc hC kX6_44 dX6_rained_16 ?_
      refine v_cv1r hC lX6_45 ⟨by decide, 6, _, rfl, rfl, fun _ _ _ => ⟨_, rfl⟩⟩ (k_X6_finding _) ⟨Nat.le_of_ble_eq_true rfl, Nat.le_of_ble_eq_true rfl, rfl, rfl⟩ (Nat.le_of_ble_eq_true rfl) dX6_rained_18 ?_
      exact v_iret hC hT (by rw [cfRained, if_neg (fun q => h12 q.2)]) dX6_rained_21
theorem k_X6_rain {l : Launch} {E : ET} {σ μ : St} (hwc : WC σ) (hws : WS σ) (m v : Int32) : Ct l E MX6_rain [.ref (adr E 0), .int m, .int v] (σ) (μ) (some (.int (cfRain σ m v).1)) ((cfRain σ m v).2) (μ) := by
  have h10 := hwc.n10
  have l10 := hwc.l10
  refine Ct.of (L := [some (.ref (adr E 0)), some (.int m), some (.int v), none]) (by decide) rfl (Nat.le_of_ble_eq_true rfl) rfl (fun X hC hT => ?_)
  refine v_iload_1 hC dX6_rain_0 ?_
  refine v_cs1r hC lX6_158 (k_X6_isMonth _) ⟨Nat.le_of_ble_eq_true rfl, Nat.le_of_ble_eq_true rfl, rfl, rfl⟩ (Nat.le_of_ble_eq_true rfl) dX6_rain_1 ?_
  refine v_ifeqb (tgt := 14) hC dX6_rain_4 (by decide) (fun h4 => ?_) (fun h4 => ?_)
  · refine v_aload_0 hC dX6_rain_14 ?_
    refine v_ldc hC kX6_44 dX6_rain_15 ?_
    refine v_cv1r hC lX6_45 ⟨by decide, 6, _, rfl, rfl, fun _ _ _ => ⟨_, rfl⟩⟩ (k_X6_finding _) ⟨Nat.le_of_ble_eq_true rfl, Nat.le_of_ble_eq_true rfl, rfl, rfl⟩ (Nat.le_of_ble_eq_true rfl) dX6_rain_17 ?_
    exact v_iret hC hT (by rw [cfRain, if_neg (fun q => h4 q.1)]) dX6_rain_20
  · refine v_iload_2 hC dX6_rain_7 ?_
    refine v_cs1r hC lX6_100 (k_X6_isAmount _) ⟨Nat.le_of_ble_eq_true rfl, Nat.le_of_ble_eq_true rfl, rfl, rfl⟩ (Nat.le_of_ble_eq_true rfl) dX6_rain_8 ?_
    refine v_ifneb (tgt := 21) hC dX6_rain_11 (by decide) (fun h11 => ?_) (fun h11 => ?_)
    · obtain ⟨m, hm, rfl⟩ := isR_nat (by decide) h4
      refine v_aload_0 hC dX6_rain_21 ?_
      refine v_get hC fX6_10 (by decide) rfl rfl dX6_rain_22 ?_
      refine v_get hC fX6_186 (by decide) rfl rfl dX6_rain_25 ?_
      refine v_iload_1 hC dX6_rain_28 ?_
      refine v_iald hC C_21 (by omega) dX6_rain_29 ?_
      refine v_istore_3 hC (by decide) rfl dX6_rain_30 ?_
      refine v_aload_0 hC dX6_rain_31 ?_
      refine v_get hC fX6_10 (by decide) rfl rfl dX6_rain_32 ?_
      refine v_get hC fX6_186 (by decide) rfl rfl dX6_rain_35 ?_
      refine v_iload_1 hC dX6_rain_38 ?_
      refine v_iload_2 hC dX6_rain_39 ?_
      refine v_iast hC C_21 (by omega) dX6_rain_40 ?_
      refine v_iload_3 hC dX6_rain_41 ?_
      exact v_iret hC hT (by rw [cfRain, if_pos ⟨h4, h11⟩, tnI (j := m) (by omega)]) dX6_rain_42
    · refine v_aload_0 hC dX6_rain_14 ?_
      refine v_ldc hC kX6_44 dX6_rain_15 ?_
      refine v_cv1r hC lX6_45 ⟨by decide, 6, _, rfl, rfl, fun _ _ _ => ⟨_, rfl⟩⟩ (k_X6_finding _) ⟨Nat.le_of_ble_eq_true rfl, Nat.le_of_ble_eq_true rfl, rfl, rfl⟩ (Nat.le_of_ble_eq_true rfl) dX6_rain_17 ?_
      exact v_iret hC hT (by rw [cfRain, if_neg (fun q => h11 q.2)]) dX6_rain_20
theorem k_X6_dry {l : Launch} {E : ET} {σ μ : St} (hwc : WC σ) (hws : WS σ)  : Ct l E MX6_dry [.ref (adr E 0)] (σ) (μ) (some (.int (cfDry σ).1)) ((cfDry σ).2) (μ) := by
  have h10 := hwc.n10
  have l10 := hwc.l10
  refine Ct.of (L := [some (.ref (adr E 0))]) (by decide) rfl (Nat.le_of_ble_eq_true rfl) rfl (fun X hC hT => ?_)
  refine v_aload_0 hC dX6_dry_0 ?_
  refine v_get hC fX6_10 (by decide) rfl rfl dX6_dry_1 ?_
  refine v_get hC fX6_189 (by decide) rfl rfl dX6_dry_4 ?_
  refine v_cs1r hC lX6_192 (k_X6_clear C_20) ⟨Nat.le_of_ble_eq_true rfl, Nat.le_of_ble_eq_true rfl, rfl, rfl⟩ (Nat.le_of_ble_eq_true rfl) dX6_dry_7 ?_
  refine v_aload_0 hC dX6_dry_10 ?_
  refine v_get hC fX6_10 (by decide) rfl rfl dX6_dry_11 ?_
  refine v_get hC fX6_186 (by decide) rfl rfl dX6_dry_14 ?_
  refine v_cs1r hC lX6_192 (k_X6_clear C_21) ⟨Nat.le_of_ble_eq_true rfl, Nat.le_of_ble_eq_true rfl, rfl, rfl⟩ (Nat.le_of_ble_eq_true rfl) dX6_dry_17 ?_
  refine v_iadd hC dX6_dry_20 ?_
  exact v_iret hC hT (by rw [cfDry]) dX6_dry_21
theorem k_X6_by {l : Launch} {E : ET} {σ μ : St} (hwc : WC σ) (hws : WS σ) (w m s : Int32) : Ct l E MX6_by [.ref (adr E 0), .int w, .int m, .int s] (σ) (μ) (some (.int (cfBy σ w m s).1)) ((cfBy σ w m s).2) (μ) := by
  have h10 := hwc.n10
  have l10 := hwc.l10
  refine Ct.of (L := [some (.ref (adr E 0)), some (.int w), some (.int m), some (.int s)]) (by decide) rfl (Nat.le_of_ble_eq_true rfl) rfl (fun X hC hT => ?_)
  refine v_aload_0 hC dX6_by_0 ?_
  refine v_iload_1 hC dX6_by_1 ?_
  refine v_cv1r hC lX6_63 ⟨by decide, 6, _, rfl, rfl, fun _ _ _ => ⟨_, rfl⟩⟩ (k_X6_isWell _) ⟨Nat.le_of_ble_eq_true rfl, Nat.le_of_ble_eq_true rfl, rfl, rfl⟩ (Nat.le_of_ble_eq_true rfl) dX6_by_2 ?_
  refine v_ifeqb (tgt := 23) hC dX6_by_5 (by decide) (fun h5 => ?_) (fun h5 => ?_)
  · refine v_aload_0 hC dX6_by_23 ?_
    refine v_ldc hC kX6_44 dX6_by_24 ?_
    refine v_cv1r hC lX6_45 ⟨by decide, 6, _, rfl, rfl, fun _ _ _ => ⟨_, rfl⟩⟩ (k_X6_finding _) ⟨Nat.le_of_ble_eq_true rfl, Nat.le_of_ble_eq_true rfl, rfl, rfl⟩ (Nat.le_of_ble_eq_true rfl) dX6_by_26 ?_
    exact v_iret hC hT (by rw [cfBy, if_neg (fun q => h5 q.1)]) dX6_by_29
  · refine v_iload_2 hC dX6_by_8 ?_
    refine v_cs1r hC lX6_158 (k_X6_isMonth _) ⟨Nat.le_of_ble_eq_true rfl, Nat.le_of_ble_eq_true rfl, rfl, rfl⟩ (Nat.le_of_ble_eq_true rfl) dX6_by_9 ?_
    refine v_ifeqb (tgt := 23) hC dX6_by_12 (by decide) (fun h12 => ?_) (fun h12 => ?_)
    · refine v_aload_0 hC dX6_by_23 ?_
      refine v_ldc hC kX6_44 dX6_by_24 ?_
      refine v_cv1r hC lX6_45 ⟨by decide, 6, _, rfl, rfl, fun _ _ _ => ⟨_, rfl⟩⟩ (k_X6_finding _) ⟨Nat.le_of_ble_eq_true rfl, Nat.le_of_ble_eq_true rfl, rfl, rfl⟩ (Nat.le_of_ble_eq_true rfl) dX6_by_26 ?_
      exact v_iret hC hT (by rw [cfBy, if_neg (fun q => h12 q.2.1)]) dX6_by_29
    · refine v_aload_0 hC dX6_by_15 ?_
      refine v_iload_3 hC dX6_by_16 ?_
      refine v_cv1r hC lX6_63 ⟨by decide, 6, _, rfl, rfl, fun _ _ _ => ⟨_, rfl⟩⟩ (k_X6_isWell _) ⟨Nat.le_of_ble_eq_true rfl, Nat.le_of_ble_eq_true rfl, rfl, rfl⟩ (Nat.le_of_ble_eq_true rfl) dX6_by_17 ?_
      refine v_ifneb (tgt := 30) hC dX6_by_20 (by decide) (fun h20 => ?_) (fun h20 => ?_)
      · obtain ⟨w, hw, rfl⟩ := isW_nat hwc h5
        obtain ⟨m, hm, rfl⟩ := isR_nat (by decide) h12
        obtain ⟨s, hs, rfl⟩ := isW_nat hwc h20
        refine v_aload_0 hC dX6_by_30 ?_
        refine v_get hC fX6_10 (by decide) rfl rfl dX6_by_31 ?_
        refine v_iload_1 hC dX6_by_34 ?_
        refine v_iload_2 hC dX6_by_35 ?_
        refine v_iload_3 hC dX6_by_36 ?_
        refine v_iconst hC dX6_by_37 ic_0 ?_
        refine v_cv4r hC lX6_199 ⟨by decide, 4, _, rfl, rfl, fun _ _ _ => ⟨_, rfl⟩⟩ (k_X4_lowering hwc (by omega) (by omega) (by omega) (by omega)) ⟨Nat.le_of_ble_eq_true rfl, Nat.le_of_ble_eq_true rfl, rfl, rfl⟩ (Nat.le_of_ble_eq_true rfl) dX6_by_38 ?_
        exact v_iret hC hT (by rw [cfBy, if_pos ⟨h5, h12, h20⟩, tnI (j := w) (by omega), tnI (j := m) (by omega), tnI (j := s) (by omega)]) dX6_by_41
      · refine v_aload_0 hC dX6_by_23 ?_
        refine v_ldc hC kX6_44 dX6_by_24 ?_
        refine v_cv1r hC lX6_45 ⟨by decide, 6, _, rfl, rfl, fun _ _ _ => ⟨_, rfl⟩⟩ (k_X6_finding _) ⟨Nat.le_of_ble_eq_true rfl, Nat.le_of_ble_eq_true rfl, rfl, rfl⟩ (Nat.le_of_ble_eq_true rfl) dX6_by_26 ?_
        exact v_iret hC hT (by rw [cfBy, if_neg (fun q => h20 q.2.2)]) dX6_by_29
theorem k_X6_without {l : Launch} {E : ET} {σ μ : St} (hwc : WC σ) (hws : WS σ) (w m s f : Int32) : Ct l E MX6_without [.ref (adr E 0), .int w, .int m, .int s, .int f] (σ) (μ) (some (.int (cfWithout σ w m s f).1)) ((cfWithout σ w m s f).2) (μ) := by
  have h10 := hwc.n10
  have l10 := hwc.l10
  refine Ct.of (L := [some (.ref (adr E 0)), some (.int w), some (.int m), some (.int s), some (.int f)]) (by decide) rfl (Nat.le_of_ble_eq_true rfl) rfl (fun X hC hT => ?_)
  refine v_aload_0 hC dX6_without_0 ?_
  refine v_iload_1 hC dX6_without_1 ?_
  refine v_cv1r hC lX6_63 ⟨by decide, 6, _, rfl, rfl, fun _ _ _ => ⟨_, rfl⟩⟩ (k_X6_isWell _) ⟨Nat.le_of_ble_eq_true rfl, Nat.le_of_ble_eq_true rfl, rfl, rfl⟩ (Nat.le_of_ble_eq_true rfl) dX6_without_2 ?_
  refine v_ifeqb (tgt := 31) hC dX6_without_5 (by decide) (fun h5 => ?_) (fun h5 => ?_)
  · refine v_aload_0 hC dX6_without_31 ?_
    refine v_ldc hC kX6_44 dX6_without_32 ?_
    refine v_cv1r hC lX6_45 ⟨by decide, 6, _, rfl, rfl, fun _ _ _ => ⟨_, rfl⟩⟩ (k_X6_finding _) ⟨Nat.le_of_ble_eq_true rfl, Nat.le_of_ble_eq_true rfl, rfl, rfl⟩ (Nat.le_of_ble_eq_true rfl) dX6_without_34 ?_
    exact v_iret hC hT (by rw [cfWithout, if_neg (fun q => h5 q.1)]) dX6_without_37
  · refine v_iload_2 hC dX6_without_8 ?_
    refine v_cs1r hC lX6_158 (k_X6_isMonth _) ⟨Nat.le_of_ble_eq_true rfl, Nat.le_of_ble_eq_true rfl, rfl, rfl⟩ (Nat.le_of_ble_eq_true rfl) dX6_without_9 ?_
    refine v_ifeqb (tgt := 31) hC dX6_without_12 (by decide) (fun h12 => ?_) (fun h12 => ?_)
    · refine v_aload_0 hC dX6_without_31 ?_
      refine v_ldc hC kX6_44 dX6_without_32 ?_
      refine v_cv1r hC lX6_45 ⟨by decide, 6, _, rfl, rfl, fun _ _ _ => ⟨_, rfl⟩⟩ (k_X6_finding _) ⟨Nat.le_of_ble_eq_true rfl, Nat.le_of_ble_eq_true rfl, rfl, rfl⟩ (Nat.le_of_ble_eq_true rfl) dX6_without_34 ?_
      exact v_iret hC hT (by rw [cfWithout, if_neg (fun q => h12 q.2.1)]) dX6_without_37
    · refine v_aload_0 hC dX6_without_15 ?_
      refine v_iload_3 hC dX6_without_16 ?_
      refine v_cv1r hC lX6_63 ⟨by decide, 6, _, rfl, rfl, fun _ _ _ => ⟨_, rfl⟩⟩ (k_X6_isWell _) ⟨Nat.le_of_ble_eq_true rfl, Nat.le_of_ble_eq_true rfl, rfl, rfl⟩ (Nat.le_of_ble_eq_true rfl) dX6_without_17 ?_
      refine v_ifeqb (tgt := 31) hC dX6_without_20 (by decide) (fun h20 => ?_) (fun h20 => ?_)
      · refine v_aload_0 hC dX6_without_31 ?_
        refine v_ldc hC kX6_44 dX6_without_32 ?_
        refine v_cv1r hC lX6_45 ⟨by decide, 6, _, rfl, rfl, fun _ _ _ => ⟨_, rfl⟩⟩ (k_X6_finding _) ⟨Nat.le_of_ble_eq_true rfl, Nat.le_of_ble_eq_true rfl, rfl, rfl⟩ (Nat.le_of_ble_eq_true rfl) dX6_without_34 ?_
        exact v_iret hC hT (by rw [cfWithout, if_neg (fun q => h20 q.2.2.1)]) dX6_without_37
      · refine v_iload_4 hC dX6_without_23 ?_
        refine v_cs1r hC lX6_158 (k_X6_isMonth _) ⟨Nat.le_of_ble_eq_true rfl, Nat.le_of_ble_eq_true rfl, rfl, rfl⟩ (Nat.le_of_ble_eq_true rfl) dX6_without_25 ?_
        refine v_ifneb (tgt := 38) hC dX6_without_28 (by decide) (fun h28 => ?_) (fun h28 => ?_)
        · obtain ⟨w, hw, rfl⟩ := isW_nat hwc h5
          obtain ⟨m, hm, rfl⟩ := isR_nat (by decide) h12
          obtain ⟨s, hs, rfl⟩ := isW_nat hwc h20
          obtain ⟨f, hf, rfl⟩ := isR_nat (by decide) h28
          refine v_aload_0 hC dX6_without_38 ?_
          refine v_get hC fX6_10 (by decide) rfl rfl dX6_without_39 ?_
          refine v_iload_1 hC dX6_without_42 ?_
          refine v_iload_2 hC dX6_without_43 ?_
          refine v_iload_3 hC dX6_without_44 ?_
          refine v_iload_4 hC dX6_without_45 ?_
          refine v_cv4r hC lX6_199 ⟨by decide, 4, _, rfl, rfl, fun _ _ _ => ⟨_, rfl⟩⟩ (k_X4_lowering hwc (by omega) (by omega) (by omega) (by omega)) ⟨Nat.le_of_ble_eq_true rfl, Nat.le_of_ble_eq_true rfl, rfl, rfl⟩ (Nat.le_of_ble_eq_true rfl) dX6_without_47 ?_
          exact v_iret hC hT (by rw [cfWithout, if_pos ⟨h5, h12, h20, h28⟩, tnI (j := w) (by omega), tnI (j := m) (by omega), tnI (j := s) (by omega), tnI (j := f) (by omega)]) dX6_without_50
        · refine v_aload_0 hC dX6_without_31 ?_
          refine v_ldc hC kX6_44 dX6_without_32 ?_
          refine v_cv1r hC lX6_45 ⟨by decide, 6, _, rfl, rfl, fun _ _ _ => ⟨_, rfl⟩⟩ (k_X6_finding _) ⟨Nat.le_of_ble_eq_true rfl, Nat.le_of_ble_eq_true rfl, rfl, rfl⟩ (Nat.le_of_ble_eq_true rfl) dX6_without_34 ?_
          exact v_iret hC hT (by rw [cfWithout, if_neg (fun q => h28 q.2.2.2)]) dX6_without_37
theorem k_X6_most {l : Launch} {E : ET} {σ μ : St} (hwc : WC σ) (hws : WS σ) (w m : Int32) : Ct l E MX6_most [.ref (adr E 0), .int w, .int m] (σ) (μ) (some (.int (cfMost σ w m).1)) ((cfMost σ w m).2) (μ) := by
  have h10 := hwc.n10
  have l10 := hwc.l10
  refine Ct.of (L := [some (.ref (adr E 0)), some (.int w), some (.int m), none, none, none, none]) (by decide) rfl (Nat.le_of_ble_eq_true rfl) rfl (fun X hC hT => ?_)
  refine v_aload_0 hC dX6_most_0 ?_
  refine v_iload_1 hC dX6_most_1 ?_
  refine v_cv1r hC lX6_63 ⟨by decide, 6, _, rfl, rfl, fun _ _ _ => ⟨_, rfl⟩⟩ (k_X6_isWell _) ⟨Nat.le_of_ble_eq_true rfl, Nat.le_of_ble_eq_true rfl, rfl, rfl⟩ (Nat.le_of_ble_eq_true rfl) dX6_most_2 ?_
  refine v_ifeqb (tgt := 15) hC dX6_most_5 (by decide) (fun h5 => ?_) (fun h5 => ?_)
  · refine v_aload_0 hC dX6_most_15 ?_
    refine v_ldc hC kX6_44 dX6_most_16 ?_
    refine v_cv1r hC lX6_45 ⟨by decide, 6, _, rfl, rfl, fun _ _ _ => ⟨_, rfl⟩⟩ (k_X6_finding _) ⟨Nat.le_of_ble_eq_true rfl, Nat.le_of_ble_eq_true rfl, rfl, rfl⟩ (Nat.le_of_ble_eq_true rfl) dX6_most_18 ?_
    exact v_iret hC hT (by rw [cfMost, if_neg (fun q => h5 q.1)]) dX6_most_21
  · refine v_iload_2 hC dX6_most_8 ?_
    refine v_cs1r hC lX6_158 (k_X6_isMonth _) ⟨Nat.le_of_ble_eq_true rfl, Nat.le_of_ble_eq_true rfl, rfl, rfl⟩ (Nat.le_of_ble_eq_true rfl) dX6_most_9 ?_
    refine v_ifneb (tgt := 22) hC dX6_most_12 (by decide) (fun h12 => ?_) (fun h12 => ?_)
    · obtain ⟨w, hw, rfl⟩ := isW_nat hwc h5
      obtain ⟨m, hm, rfl⟩ := isR_nat (by decide) h12
      refine v_iconst hC dX6_most_22 ic_0 ?_
      refine v_istore_3 hC (by decide) rfl dX6_most_23 ?_
      refine v_ldc hC kX6_205 dX6_most_24 ?_
      refine v_istore_4 hC (by decide) rfl dX6_most_26 ?_
      refine v_iconst hC dX6_most_28 ic_0 ?_
      refine v_istore_5 hC (by decide) rfl dX6_most_29 ?_
      refine up_loop (fun d : Nat => V X E 31 [some (.ref (adr E 0)), some (.int (nI w)), some (.int (nI m)), some (.int (it0 (fMost σ w m) d (nI 0, -1000000006)).1), some (.int (it0 (fMost σ w m) d (nI 0, -1000000006)).2), some (.int (nI d)), none] [] (σ) (μ)) (Nat.zero_le (nW σ)) ?_ (fun d _ hd ih => ?_)
      · refine v_iload_5 hC dX6_most_31 ?_
        refine v_aload_0 hC dX6_most_33 ?_
        refine v_get hC fX6_10 (by decide) rfl rfl dX6_most_34 ?_
        refine v_get hC fX6_49 (by decide) rfl rfl dX6_most_37 ?_
        refine v_get hC fX6_53 (by decide) rfl rfl dX6_most_40 ?_
        refine v_icge (tgt := 79) hC dX6_most_43 (by decide) (fun h43 => ?_) (fun h43 => absurd (by rw [hwc.n]; exact Int32.le_refl _) h43)
        refine v_iload_4 hC dX6_most_79 ?_
        refine v_ldc hC kX6_205 dX6_most_81 ?_
        refine v_icne (tgt := 95) hC dX6_most_83 (by decide) (fun h83 => ?_) (fun h83 => ?_)
        · refine v_iload_4 hC dX6_most_95 ?_
          exact v_iret hC hT (by rw [cfMost, if_pos ⟨h5, h12⟩, tnI (j := w) (by omega), tnI (j := m) (by omega), cMost, if_neg h83]) dX6_most_97
        · refine v_aload_0 hC dX6_most_86 ?_
          refine v_ldc hC kX6_205 dX6_most_87 ?_
          refine v_cv1r hC lX6_45 ⟨by decide, 6, _, rfl, rfl, fun _ _ _ => ⟨_, rfl⟩⟩ (k_X6_finding _) ⟨Nat.le_of_ble_eq_true rfl, Nat.le_of_ble_eq_true rfl, rfl, rfl⟩ (Nat.le_of_ble_eq_true rfl) dX6_most_89 ?_
          refine v_goto (tgt := 97) hC dX6_most_92 (by decide) ?_
          exact v_iret hC hT (by rw [cfMost, if_pos ⟨h5, h12⟩, tnI (j := w) (by omega), tnI (j := m) (by omega), cMost, if_pos h83]) dX6_most_97
      · refine v_iload_5 hC dX6_most_31 ?_
        refine v_aload_0 hC dX6_most_33 ?_
        refine v_get hC fX6_10 (by decide) rfl rfl dX6_most_34 ?_
        refine v_get hC fX6_49 (by decide) rfl rfl dX6_most_37 ?_
        refine v_get hC fX6_53 (by decide) rfl rfl dX6_most_40 ?_
        refine v_icge (tgt := 79) hC dX6_most_43 (by decide) (fun h43 => absurd h43 (by rw [hwc.n]; exact nI_ge hd (by omega))) (fun h43 => ?_)
        refine v_aload_0 hC dX6_most_46 ?_
        refine v_get hC fX6_10 (by decide) rfl rfl dX6_most_47 ?_
        refine v_iload_1 hC dX6_most_50 ?_
        refine v_iload_2 hC dX6_most_51 ?_
        refine v_iload_5 hC dX6_most_52 ?_
        refine v_iconst hC dX6_most_54 ic_0 ?_
        refine v_cv4r hC lX6_199 ⟨by decide, 4, _, rfl, rfl, fun _ _ _ => ⟨_, rfl⟩⟩ (k_X4_lowering hwc (by omega) (by omega) (by omega) (by omega)) ⟨Nat.le_of_ble_eq_true rfl, Nat.le_of_ble_eq_true rfl, rfl, rfl⟩ (Nat.le_of_ble_eq_true rfl) dX6_most_55 ?_
        refine v_istore_6 hC (by decide) rfl dX6_most_58 ?_
        refine v_iload_6 hC dX6_most_60 ?_
        refine v_iload_3 hC dX6_most_62 ?_
        refine v_icle (tgt := 73) hC dX6_most_63 (by decide) (fun h63 => ?_) (fun h63 => ?_)
        · refine v_iinc1_5 hC (by decide) rfl dX6_most_73 ?_
          refine v_goto (tgt := 31) hC dX6_most_76 (by decide) ?_
          rw [show it0 (fMost σ w m) (d + 1) (nI 0, -1000000006) = _ from if_pos h63] at ih
          exact v_forget_6 ih
        · refine v_iload_6 hC dX6_most_66 ?_
          refine v_istore_3 hC (by decide) rfl dX6_most_68 ?_
          refine v_iload_5 hC dX6_most_69 ?_
          refine v_istore_4 hC (by decide) rfl dX6_most_71 ?_
          refine v_iinc1_5 hC (by decide) rfl dX6_most_73 ?_
          refine v_goto (tgt := 31) hC dX6_most_76 (by decide) ?_
          rw [show it0 (fMost σ w m) (d + 1) (nI 0, -1000000006) = _ from if_neg h63] at ih
          exact v_forget_6 ih
    · refine v_aload_0 hC dX6_most_15 ?_
      refine v_ldc hC kX6_44 dX6_most_16 ?_
      refine v_cv1r hC lX6_45 ⟨by decide, 6, _, rfl, rfl, fun _ _ _ => ⟨_, rfl⟩⟩ (k_X6_finding _) ⟨Nat.le_of_ble_eq_true rfl, Nat.le_of_ble_eq_true rfl, rfl, rfl⟩ (Nat.le_of_ble_eq_true rfl) dX6_most_18 ?_
      exact v_iret hC hT (by rw [cfMost, if_neg (fun q => h12 q.2)]) dX6_most_21
theorem scan_0 {p : Nat → Bool} {lo n : Nat} (h : n = 0) : scan p lo n = none := by rw [h]; rfl
theorem scan_t {p : Nat → Bool} {lo n : Nat} (h : p lo = true) (hn : 0 < n) : scan p lo n = some lo := by
  obtain ⟨k, rfl⟩ : ∃ k, n = k + 1 := ⟨n - 1, by omega⟩
  rw [scan, if_pos h]
theorem scan_f {p : Nat → Bool} {lo n : Nat} (h : ¬ p lo = true) (hn : 0 < n) : scan p lo n = scan p (lo + 1) (n - 1) := by
  obtain ⟨k, rfl⟩ : ∃ k, n = k + 1 := ⟨n - 1, by omega⟩
  rw [scan, if_neg h]
  rfl
theorem k_X6_when {l : Launch} {E : ET} {σ μ : St} (hwc : WC σ) (hws : WS σ) (w m : Int32) : Ct l E MX6_when [.ref (adr E 0), .int w, .int m] (σ) (μ) (some (.int (cfWhen σ w m).1)) ((cfWhen σ w m).2) (μ) := by
  have h10 := hwc.n10
  have l10 := hwc.l10
  refine Ct.of (L := [some (.ref (adr E 0)), some (.int w), some (.int m), none]) (by decide) rfl (Nat.le_of_ble_eq_true rfl) rfl (fun X hC hT => ?_)
  refine v_aload_0 hC dX6_when_0 ?_
  refine v_iload_1 hC dX6_when_1 ?_
  refine v_cv1r hC lX6_63 ⟨by decide, 6, _, rfl, rfl, fun _ _ _ => ⟨_, rfl⟩⟩ (k_X6_isWell _) ⟨Nat.le_of_ble_eq_true rfl, Nat.le_of_ble_eq_true rfl, rfl, rfl⟩ (Nat.le_of_ble_eq_true rfl) dX6_when_2 ?_
  refine v_ifeqb (tgt := 15) hC dX6_when_5 (by decide) (fun h5 => ?_) (fun h5 => ?_)
  · refine v_aload_0 hC dX6_when_15 ?_
    refine v_ldc hC kX6_44 dX6_when_16 ?_
    refine v_cv1r hC lX6_45 ⟨by decide, 6, _, rfl, rfl, fun _ _ _ => ⟨_, rfl⟩⟩ (k_X6_finding _) ⟨Nat.le_of_ble_eq_true rfl, Nat.le_of_ble_eq_true rfl, rfl, rfl⟩ (Nat.le_of_ble_eq_true rfl) dX6_when_18 ?_
    exact v_iret hC hT (by rw [cfWhen, if_neg (fun q => h5 q.1)]) dX6_when_21
  · refine v_iload_2 hC dX6_when_8 ?_
    refine v_cs1r hC lX6_158 (k_X6_isMonth _) ⟨Nat.le_of_ble_eq_true rfl, Nat.le_of_ble_eq_true rfl, rfl, rfl⟩ (Nat.le_of_ble_eq_true rfl) dX6_when_9 ?_
    refine v_ifneb (tgt := 22) hC dX6_when_12 (by decide) (fun h12 => ?_) (fun h12 => ?_)
    · obtain ⟨w, hw, rfl⟩ := isW_nat hwc h5
      obtain ⟨m, hm, rfl⟩ := isR_nat (by decide) h12
      refine v_iload_2 hC dX6_when_22 ?_
      refine v_istore_3 hC (by decide) rfl dX6_when_23 ?_
      refine up_loop (fun d : Nat => (scan (fun i => decide (cAbv σ w i < 0)) m (24 - m) = scan (fun i => decide (cAbv σ w i < 0)) (m + d) (24 - m - d)) → V X E 24 [some (.ref (adr E 0)), some (.int (nI w)), some (.int (nI m)), some (.int (nI (m + d)))] [] (σ) (μ)) (Nat.zero_le (24 - m)) (fun hx => ?_) (fun d _ hd ih hx => ?_) rfl
      · refine v_iload_3 hC dX6_when_24 ?_
        refine v_bipush hC dX6_when_25 bp_24 ?_
        refine v_icge (tgt := 50) hC dX6_when_27 (by decide) (fun h27 => ?_) (fun h27 => absurd (nI_le (by omega) (by omega)) h27)
        refine v_aload_0 hC dX6_when_50 ?_
        refine v_ldc hC kX6_205 dX6_when_51 ?_
        refine v_cv1r hC lX6_45 ⟨by decide, 6, _, rfl, rfl, fun _ _ _ => ⟨_, rfl⟩⟩ (k_X6_finding _) ⟨Nat.le_of_ble_eq_true rfl, Nat.le_of_ble_eq_true rfl, rfl, rfl⟩ (Nat.le_of_ble_eq_true rfl) dX6_when_53 ?_
        exact v_iret hC hT (by rw [cfWhen, if_pos ⟨h5, h12⟩, tnI (j := w) (by omega), tnI (j := m) (by omega), cWhen, hx, scan_0 (by omega)]; rfl) dX6_when_56
      · refine v_iload_3 hC dX6_when_24 ?_
        refine v_bipush hC dX6_when_25 bp_24 ?_
        refine v_icge (tgt := 50) hC dX6_when_27 (by decide) (fun h27 => absurd h27 (nI_ge (by omega) (by omega))) (fun h27 => ?_)
        refine v_aload_0 hC dX6_when_30 ?_
        refine v_get hC fX6_10 (by decide) rfl rfl dX6_when_31 ?_
        refine v_iload_1 hC dX6_when_34 ?_
        refine v_iload_3 hC dX6_when_35 ?_
        refine v_cv2r hC lX6_206 ⟨by decide, 4, _, rfl, rfl, fun _ _ _ => ⟨_, rfl⟩⟩ (k_X4_aboveLimit hwc (by omega) (by omega)) ⟨Nat.le_of_ble_eq_true rfl, Nat.le_of_ble_eq_true rfl, rfl, rfl⟩ (Nat.le_of_ble_eq_true rfl) dX6_when_36 ?_
        refine v_ifge (tgt := 44) hC dX6_when_39 (by decide) (fun h39 => ?_) (fun h39 => ?_)
        · refine v_iinc1_3 hC (by decide) rfl dX6_when_44 ?_
          refine v_goto (tgt := 24) hC dX6_when_47 (by decide) ?_
          exact ih (hx.trans (scan_f (by simpa using h39) (by omega)))
        · refine v_iload_3 hC dX6_when_42 ?_
          exact v_iret hC hT (by rw [cfWhen, if_pos ⟨h5, h12⟩, tnI (j := w) (by omega), tnI (j := m) (by omega), cWhen, hx, scan_t (by simpa using h39) (by omega)]; rfl) dX6_when_43
    · refine v_aload_0 hC dX6_when_15 ?_
      refine v_ldc hC kX6_44 dX6_when_16 ?_
      refine v_cv1r hC lX6_45 ⟨by decide, 6, _, rfl, rfl, fun _ _ _ => ⟨_, rfl⟩⟩ (k_X6_finding _) ⟨Nat.le_of_ble_eq_true rfl, Nat.le_of_ble_eq_true rfl, rfl, rfl⟩ (Nat.le_of_ble_eq_true rfl) dX6_when_18 ?_
      exact v_iret hC hT (by rw [cfWhen, if_neg (fun q => h12 q.2)]) dX6_when_21
theorem k_X6_near {l : Launch} {E : ET} {σ μ : St} (hwc : WC σ) (hws : WS σ) (w m : Int32) : Ct l E MX6_near [.ref (adr E 0), .int w, .int m] (σ) (μ) (some (.int (cfNear σ w m).1)) ((cfNear σ w m).2) (μ) := by
  have h10 := hwc.n10
  have l10 := hwc.l10
  refine Ct.of (L := [some (.ref (adr E 0)), some (.int w), some (.int m), none, none]) (by decide) rfl (Nat.le_of_ble_eq_true rfl) rfl (fun X hC hT => ?_)
  refine v_aload_0 hC dX6_near_0 ?_
  refine v_iload_1 hC dX6_near_1 ?_
  refine v_cv1r hC lX6_63 ⟨by decide, 6, _, rfl, rfl, fun _ _ _ => ⟨_, rfl⟩⟩ (k_X6_isWell _) ⟨Nat.le_of_ble_eq_true rfl, Nat.le_of_ble_eq_true rfl, rfl, rfl⟩ (Nat.le_of_ble_eq_true rfl) dX6_near_2 ?_
  refine v_ifeqb (tgt := 15) hC dX6_near_5 (by decide) (fun h5 => ?_) (fun h5 => ?_)
  · refine v_aload_0 hC dX6_near_15 ?_
    refine v_ldc hC kX6_44 dX6_near_16 ?_
    refine v_cv1r hC lX6_45 ⟨by decide, 6, _, rfl, rfl, fun _ _ _ => ⟨_, rfl⟩⟩ (k_X6_finding _) ⟨Nat.le_of_ble_eq_true rfl, Nat.le_of_ble_eq_true rfl, rfl, rfl⟩ (Nat.le_of_ble_eq_true rfl) dX6_near_18 ?_
    exact v_iret hC hT (by rw [cfNear, if_neg (fun q => h5 q.1)]) dX6_near_21
  · refine v_iload_2 hC dX6_near_8 ?_
    refine v_cs1r hC lX6_158 (k_X6_isMonth _) ⟨Nat.le_of_ble_eq_true rfl, Nat.le_of_ble_eq_true rfl, rfl, rfl⟩ (Nat.le_of_ble_eq_true rfl) dX6_near_9 ?_
    refine v_ifneb (tgt := 22) hC dX6_near_12 (by decide) (fun h12 => ?_) (fun h12 => ?_)
    · obtain ⟨w, hw, rfl⟩ := isW_nat hwc h5
      obtain ⟨m, hm, rfl⟩ := isR_nat (by decide) h12
      refine v_aload_0 hC dX6_near_22 ?_
      refine v_get hC fX6_10 (by decide) rfl rfl dX6_near_23 ?_
      refine v_iload_1 hC dX6_near_26 ?_
      refine v_iload_2 hC dX6_near_27 ?_
      refine v_cv2r hC lX6_206 ⟨by decide, 4, _, rfl, rfl, fun _ _ _ => ⟨_, rfl⟩⟩ (k_X4_aboveLimit hwc (by omega) (by omega)) ⟨Nat.le_of_ble_eq_true rfl, Nat.le_of_ble_eq_true rfl, rfl, rfl⟩ (Nat.le_of_ble_eq_true rfl) dX6_near_28 ?_
      refine v_istore_3 hC (by decide) rfl dX6_near_31 ?_
      refine v_iload_2 hC dX6_near_32 ?_
      refine v_iconst hC dX6_near_33 ic_1 ?_
      refine v_iaddN hC dX6_near_34 ?_
      refine v_istore_4 hC (by decide) rfl dX6_near_35 ?_
      refine up_loop (fun d : Nat => V X E 37 [some (.ref (adr E 0)), some (.int (nI w)), some (.int (nI m)), some (.int (it (fNear σ w) (m + 1) d (cAbv σ w m))), some (.int (nI (m + 1 + d)))] [] (σ) (μ)) (Nat.zero_le (23 - m)) ?_ (fun d _ hd ih => ?_)
      · refine v_iload_4 hC dX6_near_37 ?_
        refine v_bipush hC dX6_near_39 bp_24 ?_
        refine v_icge (tgt := 65) hC dX6_near_41 (by decide) (fun h41 => ?_) (fun h41 => absurd (nI_le (by omega) (by omega)) h41)
        refine v_iload_3 hC dX6_near_65 ?_
        exact v_iret hC hT (by rw [cfNear, if_pos ⟨h5, h12⟩, tnI (j := w) (by omega), tnI (j := m) (by omega)]) dX6_near_66
      · refine v_iload_4 hC dX6_near_37 ?_
        refine v_bipush hC dX6_near_39 bp_24 ?_
        refine v_icge (tgt := 65) hC dX6_near_41 (by decide) (fun h41 => absurd h41 (nI_ge (by omega) (by omega))) (fun h41 => ?_)
        refine v_iload_3 hC dX6_near_44 ?_
        refine v_aload_0 hC dX6_near_45 ?_
        refine v_get hC fX6_10 (by decide) rfl rfl dX6_near_46 ?_
        refine v_iload_1 hC dX6_near_49 ?_
        refine v_iload_4 hC dX6_near_50 ?_
        refine v_cv2r hC lX6_206 ⟨by decide, 4, _, rfl, rfl, fun _ _ _ => ⟨_, rfl⟩⟩ (k_X4_aboveLimit hwc (by omega) (by omega)) ⟨Nat.le_of_ble_eq_true rfl, Nat.le_of_ble_eq_true rfl, rfl, rfl⟩ (Nat.le_of_ble_eq_true rfl) dX6_near_52 ?_
        refine v_min hC lX6_161 st_min ini_Math co_min (by decide) (Nat.le_of_ble_eq_true rfl) dX6_near_55 ?_
        refine v_istore_3 hC (by decide) rfl dX6_near_58 ?_
        refine v_iinc1_4 hC (by decide) rfl dX6_near_59 ?_
        refine v_goto (tgt := 37) hC dX6_near_62 (by decide) ?_
        exact ih
    · refine v_aload_0 hC dX6_near_15 ?_
      refine v_ldc hC kX6_44 dX6_near_16 ?_
      refine v_cv1r hC lX6_45 ⟨by decide, 6, _, rfl, rfl, fun _ _ _ => ⟨_, rfl⟩⟩ (k_X6_finding _) ⟨Nat.le_of_ble_eq_true rfl, Nat.le_of_ble_eq_true rfl, rfl, rfl⟩ (Nat.le_of_ble_eq_true rfl) dX6_near_18 ?_
      exact v_iret hC hT (by rw [cfNear, if_neg (fun q => h12 q.2)]) dX6_near_21
theorem k_X6_low {l : Launch} {E : ET} {σ μ : St} (hwc : WC σ) (hws : WS σ) (m : Int32) : Ct l E MX6_low [.ref (adr E 0), .int m] (σ) (μ) (some (.int (cfLow σ m).1)) ((cfLow σ m).2) (μ) := by
  have h10 := hwc.n10
  have l10 := hwc.l10
  refine Ct.of (L := [some (.ref (adr E 0)), some (.int m), none, none]) (by decide) rfl (Nat.le_of_ble_eq_true rfl) rfl (fun X hC hT => ?_)
  refine v_iload_1 hC dX6_low_0 ?_
  refine v_cs1r hC lX6_158 (k_X6_isMonth _) ⟨Nat.le_of_ble_eq_true rfl, Nat.le_of_ble_eq_true rfl, rfl, rfl⟩ (Nat.le_of_ble_eq_true rfl) dX6_low_1 ?_
  refine v_ifneb (tgt := 14) hC dX6_low_4 (by decide) (fun h4 => ?_) (fun h4 => ?_)
  · obtain ⟨m, hm, rfl⟩ := isR_nat (by decide) h4
    refine v_iconst hC dX6_low_14 ic_0 ?_
    refine v_istore_2 hC (by decide) rfl dX6_low_15 ?_
    refine v_iconst hC dX6_low_16 ic_0 ?_
    refine v_istore_3 hC (by decide) rfl dX6_low_17 ?_
    refine up_loop (fun d : Nat => V X E 18 [some (.ref (adr E 0)), some (.int (nI m)), some (.int (it0 (fLows σ m) d (nI 0))), some (.int (nI d))] [] (σ) (μ)) (Nat.zero_le (nW σ)) ?_ (fun d _ hd ih => ?_)
    · refine v_iload_3 hC dX6_low_18 ?_
      refine v_aload_0 hC dX6_low_19 ?_
      refine v_get hC fX6_10 (by decide) rfl rfl dX6_low_20 ?_
      refine v_get hC fX6_49 (by decide) rfl rfl dX6_low_23 ?_
      refine v_get hC fX6_53 (by decide) rfl rfl dX6_low_26 ?_
      refine v_icge (tgt := 53) hC dX6_low_29 (by decide) (fun h29 => ?_) (fun h29 => absurd (by rw [hwc.n]; exact Int32.le_refl _) h29)
      refine v_iload_2 hC dX6_low_53 ?_
      exact v_iret hC hT (by rw [cfLow, if_pos h4, tnI (j := m) (by omega)]) dX6_low_54
    · refine v_iload_3 hC dX6_low_18 ?_
      refine v_aload_0 hC dX6_low_19 ?_
      refine v_get hC fX6_10 (by decide) rfl rfl dX6_low_20 ?_
      refine v_get hC fX6_49 (by decide) rfl rfl dX6_low_23 ?_
      refine v_get hC fX6_53 (by decide) rfl rfl dX6_low_26 ?_
      refine v_icge (tgt := 53) hC dX6_low_29 (by decide) (fun h29 => absurd h29 (by rw [hwc.n]; exact nI_ge hd (by omega))) (fun h29 => ?_)
      refine v_aload_0 hC dX6_low_32 ?_
      refine v_get hC fX6_10 (by decide) rfl rfl dX6_low_33 ?_
      refine v_iload_3 hC dX6_low_36 ?_
      refine v_iload_1 hC dX6_low_37 ?_
      refine v_cv2r hC lX6_206 ⟨by decide, 4, _, rfl, rfl, fun _ _ _ => ⟨_, rfl⟩⟩ (k_X4_aboveLimit hwc (by omega) (by omega)) ⟨Nat.le_of_ble_eq_true rfl, Nat.le_of_ble_eq_true rfl, rfl, rfl⟩ (Nat.le_of_ble_eq_true rfl) dX6_low_38 ?_
      refine v_ifge (tgt := 47) hC dX6_low_41 (by decide) (fun h41 => ?_) (fun h41 => ?_)
      · refine v_iinc1_3 hC (by decide) rfl dX6_low_47 ?_
        refine v_goto (tgt := 18) hC dX6_low_50 (by decide) ?_
        exact v_leq_2 (if_pos h41).symm ih
      · refine v_iinc_2 hC (by decide) rfl dX6_low_44 (congrArg (fun z => _ + z) ic_1) ?_
        refine v_iinc1_3 hC (by decide) rfl dX6_low_47 ?_
        refine v_goto (tgt := 18) hC dX6_low_50 (by decide) ?_
        exact v_leq_2 (if_neg h41).symm ih
  · refine v_aload_0 hC dX6_low_7 ?_
    refine v_ldc hC kX6_44 dX6_low_8 ?_
    refine v_cv1r hC lX6_45 ⟨by decide, 6, _, rfl, rfl, fun _ _ _ => ⟨_, rfl⟩⟩ (k_X6_finding _) ⟨Nat.le_of_ble_eq_true rfl, Nat.le_of_ble_eq_true rfl, rfl, rfl⟩ (Nat.le_of_ble_eq_true rfl) dX6_low_10 ?_
    exact v_iret hC hT (by rw [cfLow, if_neg h4]) dX6_low_13
theorem k_X6_free {l : Launch} {E : ET} {σ μ : St} (hwc : WC σ) (hws : WS σ) (w m : Int32) : Ct l E MX6_free [.ref (adr E 0), .int w, .int m] (σ) (μ) (some (.int (cfFree σ w m).1)) ((cfFree σ w m).2) (μ) := by
  have h10 := hwc.n10
  have l10 := hwc.l10
  refine Ct.of (L := [some (.ref (adr E 0)), some (.int w), some (.int m)]) (by decide) rfl (Nat.le_of_ble_eq_true rfl) rfl (fun X hC hT => ?_)
  refine v_aload_0 hC dX6_free_0 ?_
  refine v_iload_1 hC dX6_free_1 ?_
  refine v_cv1r hC lX6_63 ⟨by decide, 6, _, rfl, rfl, fun _ _ _ => ⟨_, rfl⟩⟩ (k_X6_isWell _) ⟨Nat.le_of_ble_eq_true rfl, Nat.le_of_ble_eq_true rfl, rfl, rfl⟩ (Nat.le_of_ble_eq_true rfl) dX6_free_2 ?_
  refine v_ifeqb (tgt := 15) hC dX6_free_5 (by decide) (fun h5 => ?_) (fun h5 => ?_)
  · refine v_aload_0 hC dX6_free_15 ?_
    refine v_ldc hC kX6_44 dX6_free_16 ?_
    refine v_cv1r hC lX6_45 ⟨by decide, 6, _, rfl, rfl, fun _ _ _ => ⟨_, rfl⟩⟩ (k_X6_finding _) ⟨Nat.le_of_ble_eq_true rfl, Nat.le_of_ble_eq_true rfl, rfl, rfl⟩ (Nat.le_of_ble_eq_true rfl) dX6_free_18 ?_
    exact v_iret hC hT (by rw [cfFree, if_neg (fun q => h5 q.1)]) dX6_free_21
  · refine v_iload_2 hC dX6_free_8 ?_
    refine v_cs1r hC lX6_158 (k_X6_isMonth _) ⟨Nat.le_of_ble_eq_true rfl, Nat.le_of_ble_eq_true rfl, rfl, rfl⟩ (Nat.le_of_ble_eq_true rfl) dX6_free_9 ?_
    refine v_ifneb (tgt := 22) hC dX6_free_12 (by decide) (fun h12 => ?_) (fun h12 => ?_)
    · obtain ⟨w, hw, rfl⟩ := isW_nat hwc h5
      obtain ⟨m, hm, rfl⟩ := isR_nat (by decide) h12
      have hwf : WC (cFsp σ m) := (offG m σ _).wc ne22 hwc
      refine v_aload_0 hC dX6_free_22 ?_
      refine v_get hC fX6_10 (by decide) rfl rfl dX6_free_23 ?_
      refine v_iload_2 hC dX6_free_26 ?_
      refine v_cv1 hC lX6_209 ⟨by decide, 4, _, rfl, rfl, fun _ _ _ => ⟨_, rfl⟩⟩ (k_X4_findSpare hwc (by omega)) ⟨Nat.le_of_ble_eq_true rfl, Nat.le_of_ble_eq_true rfl, rfl, rfl⟩ (Nat.le_of_ble_eq_true rfl) dX6_free_27 ?_
      refine v_aload_0 hC dX6_free_30 ?_
      refine v_get hC fX6_10 (by decide) rfl rfl dX6_free_31 ?_
      refine v_iload_1 hC dX6_free_34 ?_
      refine v_iload_2 hC dX6_free_35 ?_
      refine v_cv2r hC lX6_213 ⟨by decide, 4, _, rfl, rfl, fun _ _ _ => ⟨_, rfl⟩⟩ (k_X4_freeOf hwf (by omega) (by omega)) ⟨Nat.le_of_ble_eq_true rfl, Nat.le_of_ble_eq_true rfl, rfl, rfl⟩ (Nat.le_of_ble_eq_true rfl) dX6_free_36 ?_
      exact v_iret hC hT (by rw [cfFree, if_pos ⟨h5, h12⟩, tnI (j := w) (by omega), tnI (j := m) (by omega)]) dX6_free_39
    · refine v_aload_0 hC dX6_free_15 ?_
      refine v_ldc hC kX6_44 dX6_free_16 ?_
      refine v_cv1r hC lX6_45 ⟨by decide, 6, _, rfl, rfl, fun _ _ _ => ⟨_, rfl⟩⟩ (k_X6_finding _) ⟨Nat.le_of_ble_eq_true rfl, Nat.le_of_ble_eq_true rfl, rfl, rfl⟩ (Nat.le_of_ble_eq_true rfl) dX6_free_18 ?_
      exact v_iret hC hT (by rw [cfFree, if_neg (fun q => h12 q.2)]) dX6_free_21
theorem k_X6_licence {l : Launch} {E : ET} {σ μ : St} (hwc : WC σ) (hws : WS σ) (w y v : Int32) : Ct l E MX6_licence [.ref (adr E 0), .int w, .int y, .int v] (σ) (μ) (some (.int (cfLicence σ w y v).1)) ((cfLicence σ w y v).2) (μ) := by
  have h10 := hwc.n10
  have l10 := hwc.l10
  refine Ct.of (L := [some (.ref (adr E 0)), some (.int w), some (.int y), some (.int v)]) (by decide) rfl (Nat.le_of_ble_eq_true rfl) rfl (fun X hC hT => ?_)
  refine v_aload_0 hC dX6_licence_0 ?_
  refine v_iload_1 hC dX6_licence_1 ?_
  refine v_cv1r hC lX6_63 ⟨by decide, 6, _, rfl, rfl, fun _ _ _ => ⟨_, rfl⟩⟩ (k_X6_isWell _) ⟨Nat.le_of_ble_eq_true rfl, Nat.le_of_ble_eq_true rfl, rfl, rfl⟩ (Nat.le_of_ble_eq_true rfl) dX6_licence_2 ?_
  refine v_ifeqb (tgt := 26) hC dX6_licence_5 (by decide) (fun h5 => ?_) (fun h5 => ?_)
  · refine v_aload_0 hC dX6_licence_26 ?_
    refine v_ldc hC kX6_44 dX6_licence_27 ?_
    refine v_cv1r hC lX6_45 ⟨by decide, 6, _, rfl, rfl, fun _ _ _ => ⟨_, rfl⟩⟩ (k_X6_finding _) ⟨Nat.le_of_ble_eq_true rfl, Nat.le_of_ble_eq_true rfl, rfl, rfl⟩ (Nat.le_of_ble_eq_true rfl) dX6_licence_29 ?_
    exact v_iret hC hT (by rw [cfLicence, if_neg (fun q => h5 q.1)]) dX6_licence_32
  · refine v_iload_2 hC dX6_licence_8 ?_
    refine v_iconst hC dX6_licence_9 ic_0 ?_
    refine v_sipush hC dX6_licence_10 sp_9999 ?_
    refine v_cs3r hC lX6_103 (k_X6_within _ _ _) ⟨Nat.le_of_ble_eq_true rfl, Nat.le_of_ble_eq_true rfl, rfl, rfl⟩ (Nat.le_of_ble_eq_true rfl) dX6_licence_13 ?_
    refine v_ifeqb (tgt := 26) hC dX6_licence_16 (by decide) (fun h16 => ?_) (fun h16 => ?_)
    · refine v_aload_0 hC dX6_licence_26 ?_
      refine v_ldc hC kX6_44 dX6_licence_27 ?_
      refine v_cv1r hC lX6_45 ⟨by decide, 6, _, rfl, rfl, fun _ _ _ => ⟨_, rfl⟩⟩ (k_X6_finding _) ⟨Nat.le_of_ble_eq_true rfl, Nat.le_of_ble_eq_true rfl, rfl, rfl⟩ (Nat.le_of_ble_eq_true rfl) dX6_licence_29 ?_
      exact v_iret hC hT (by rw [cfLicence, if_neg (fun q => h16 q.2.1)]) dX6_licence_32
    · refine v_iload_3 hC dX6_licence_19 ?_
      refine v_cs1r hC lX6_100 (k_X6_isAmount _) ⟨Nat.le_of_ble_eq_true rfl, Nat.le_of_ble_eq_true rfl, rfl, rfl⟩ (Nat.le_of_ble_eq_true rfl) dX6_licence_20 ?_
      refine v_ifneb (tgt := 33) hC dX6_licence_23 (by decide) (fun h23 => ?_) (fun h23 => ?_)
      · obtain ⟨w, hw, rfl⟩ := isW_nat hwc h5
        refine v_aload_0 hC dX6_licence_33 ?_
        refine v_get hC fX6_10 (by decide) rfl rfl dX6_licence_34 ?_
        refine v_get hC fX6_49 (by decide) rfl rfl dX6_licence_37 ?_
        refine v_iload_1 hC dX6_licence_40 ?_
        refine v_cv1r hC lX6_216 ⟨by decide, 5, _, rfl, rfl, fun _ _ _ => ⟨_, rfl⟩⟩ (k_X5_isDrawing hwc (by omega)) ⟨Nat.le_of_ble_eq_true rfl, Nat.le_of_ble_eq_true rfl, rfl, rfl⟩ (Nat.le_of_ble_eq_true rfl) dX6_licence_41 ?_
        refine v_ifneb (tgt := 54) hC dX6_licence_44 (by decide) (fun h44 => ?_) (fun h44 => ?_)
        · refine v_aload_0 hC dX6_licence_54 ?_
          refine v_get hC fX6_10 (by decide) rfl rfl dX6_licence_55 ?_
          refine v_get hC fX6_219 (by decide) rfl rfl dX6_licence_58 ?_
          refine v_get hC fX6_223 (by decide) rfl rfl dX6_licence_61 ?_
          refine v_bipush hC dX6_licence_64 bp_10 ?_
          refine v_iclt (tgt := 76) hC dX6_licence_66 (by decide) (fun h66 => ?_) (fun h66 => ?_)
          · refine v_aload_0 hC dX6_licence_76 ?_
            refine v_get hC fX6_10 (by decide) rfl rfl dX6_licence_77 ?_
            refine v_get hC fX6_219 (by decide) rfl rfl dX6_licence_80 ?_
            refine v_iload_1 hC dX6_licence_83 ?_
            refine v_iload_2 hC dX6_licence_84 ?_
            refine v_iload_3 hC dX6_licence_85 ?_
            refine v_cv3r hC lX6_226 ⟨by decide, 0, _, rfl, rfl, fun _ _ _ => ⟨_, rfl⟩⟩ (k_X0_add hwc.l (llt hwc h66) _ _ _) ⟨Nat.le_of_ble_eq_true rfl, Nat.le_of_ble_eq_true rfl, rfl, rfl⟩ (Nat.le_of_ble_eq_true rfl) dX6_licence_86 ?_
            exact v_iret hC hT (by rw [cfLicence, if_pos ⟨h5, h16, h23⟩, tnI (j := w) (by omega), if_pos h44, if_pos h66]) dX6_licence_89
          · refine v_aload_0 hC dX6_licence_69 ?_
            refine v_ldc hC kX6_58 dX6_licence_70 ?_
            refine v_cv1r hC lX6_45 ⟨by decide, 6, _, rfl, rfl, fun _ _ _ => ⟨_, rfl⟩⟩ (k_X6_finding _) ⟨Nat.le_of_ble_eq_true rfl, Nat.le_of_ble_eq_true rfl, rfl, rfl⟩ (Nat.le_of_ble_eq_true rfl) dX6_licence_72 ?_
            exact v_iret hC hT (by rw [cfLicence, if_pos ⟨h5, h16, h23⟩, tnI (j := w) (by omega), if_pos h44, if_neg h66]) dX6_licence_75
        · refine v_aload_0 hC dX6_licence_47 ?_
          refine v_ldc hC kX6_74 dX6_licence_48 ?_
          refine v_cv1r hC lX6_45 ⟨by decide, 6, _, rfl, rfl, fun _ _ _ => ⟨_, rfl⟩⟩ (k_X6_finding _) ⟨Nat.le_of_ble_eq_true rfl, Nat.le_of_ble_eq_true rfl, rfl, rfl⟩ (Nat.le_of_ble_eq_true rfl) dX6_licence_50 ?_
          exact v_iret hC hT (by rw [cfLicence, if_pos ⟨h5, h16, h23⟩, tnI (j := w) (by omega), if_neg h44]) dX6_licence_53
      · refine v_aload_0 hC dX6_licence_26 ?_
        refine v_ldc hC kX6_44 dX6_licence_27 ?_
        refine v_cv1r hC lX6_45 ⟨by decide, 6, _, rfl, rfl, fun _ _ _ => ⟨_, rfl⟩⟩ (k_X6_finding _) ⟨Nat.le_of_ble_eq_true rfl, Nat.le_of_ble_eq_true rfl, rfl, rfl⟩ (Nat.le_of_ble_eq_true rfl) dX6_licence_29 ?_
        exact v_iret hC hT (by rw [cfLicence, if_neg (fun q => h23 q.2.2)]) dX6_licence_32
theorem fspWC {σ : St} (h : WC σ) (fr : Nat) : WC (cFsp σ fr) := (offG fr σ _).wc ne22 h
theorem unsWC {σ : St} (h : WC σ) (fr : Nat) : WC (cUns σ fr) := (unsG fr σ _).wc h
theorem useOff (σ : St) (s fr : Nat) (x : Int32) : Off 22 σ (cUse σ s fr x) := offV s fr x σ _
theorem grantOff (σ : St) (i fr : Nat) (x : Int32) : ∀ j, j ≠ 16 → j ≠ 20 → j ≠ 22 → cGrant σ i fr x j = σ j := fun j h1 h2 h3 => by
  unfold cGrant
  rw [wr_ne h1, useOff _ _ _ _ j h3]
  exact grI fr _ _ σ _ j h2
theorem grantWC {σ : St} (h : WC σ) (i fr : Nat) (x : Int32) : WC (cGrant σ i fr x) := h.of (grantOff σ i fr x 2 (by decide) (by decide) (by decide)) (grantOff σ i fr x 3 (by decide) (by decide) (by decide)) (grantOff σ i fr x 4 (by decide) (by decide) (by decide)) (grantOff σ i fr x 5 (by decide) (by decide) (by decide)) (grantOff σ i fr x 12 (by decide) (by decide) (by decide)) (grantOff σ i fr x 13 (by decide) (by decide) (by decide))
def Same12 (σ τ : St) : Prop := τ 2 = σ 2 ∧ τ 3 = σ 3 ∧ τ 4 = σ 4 ∧ τ 5 = σ 5 ∧ τ 12 = σ 12 ∧ τ 13 = σ 13
theorem Same12.wc {σ τ : St} (h : Same12 σ τ) (hw : WC σ) : WC τ := hw.of h.1 h.2.1 h.2.2.1 h.2.2.2.1 h.2.2.2.2.1 h.2.2.2.2.2
theorem Same12.tr {σ τ ρ : St} (h : Same12 σ τ) (h2 : Same12 τ ρ) : Same12 σ ρ := ⟨h2.1.trans h.1, h2.2.1.trans h.2.1, h2.2.2.1.trans h.2.2.1, h2.2.2.2.1.trans h.2.2.2.1, h2.2.2.2.2.1.trans h.2.2.2.2.1, h2.2.2.2.2.2.trans h.2.2.2.2.2⟩
theorem grantS (σ : St) (i fr : Nat) (x : Int32) : Same12 σ (cGrant σ i fr x) := ⟨grantOff σ i fr x 2 (by decide) (by decide) (by decide), grantOff σ i fr x 3 (by decide) (by decide) (by decide), grantOff σ i fr x 4 (by decide) (by decide) (by decide), grantOff σ i fr x 5 (by decide) (by decide) (by decide), grantOff σ i fr x 12 (by decide) (by decide) (by decide), grantOff σ i fr x 13 (by decide) (by decide) (by decide)⟩
theorem serveS (σ : St) (fr n : Nat) : Same12 σ (it0 (fServe fr) n (nI 0, cFsp (cUns σ fr) fr)).2 := by
  refine it0_inv (fun q : Int32 × St => Same12 σ q.2) n ?_ (fun i q _ h => ?_)
  · have h1 := unsG fr σ (nLi σ)
    have h2 := offG fr (cUns σ fr) (nW (cUns σ fr))
    exact ⟨(h2 2 (by decide)).trans (h1 2 (by decide) (by decide)), (h2 3 (by decide)).trans (h1 3 (by decide) (by decide)), (h2 4 (by decide)).trans (h1 4 (by decide) (by decide)), (h2 5 (by decide)).trans (h1 5 (by decide) (by decide)), (h2 12 (by decide)).trans (h1 12 (by decide) (by decide)), (h2 13 (by decide)).trans (h1 13 (by decide) (by decide))⟩
  · unfold fServe
    split
    · exact h.tr (grantS _ _ _ _)
    · exact h
theorem next10 {σ : St} (h : WC σ) : (cNext σ).toNatClampNeg < 10 := fNext_10 σ h.l10
theorem k_X6_serve {l : Launch} {E : ET} {σ μ : St} (hwc : WC σ) (hws : WS σ) (m : Int32) : Ct l E MX6_serve [.ref (adr E 0), .int m] (σ) (μ) (some (.int (cfServe σ m).1)) ((cfServe σ m).2) (μ) := by
  have h10 := hwc.n10
  have l10 := hwc.l10
  refine Ct.of (L := [some (.ref (adr E 0)), some (.int m), none, none, none, none]) (by decide) rfl (Nat.le_of_ble_eq_true rfl) rfl (fun X hC hT => ?_)
  refine v_iload_1 hC dX6_serve_0 ?_
  refine v_cs1r hC lX6_158 (k_X6_isMonth _) ⟨Nat.le_of_ble_eq_true rfl, Nat.le_of_ble_eq_true rfl, rfl, rfl⟩ (Nat.le_of_ble_eq_true rfl) dX6_serve_1 ?_
  refine v_ifneb (tgt := 14) hC dX6_serve_4 (by decide) (fun h4 => ?_) (fun h4 => ?_)
  · obtain ⟨m, hm, rfl⟩ := isR_nat (by decide) h4
    have hwu := unsWC hwc m
    refine v_aload_0 hC dX6_serve_14 ?_
    refine v_get hC fX6_10 (by decide) rfl rfl dX6_serve_15 ?_
    refine v_iload_1 hC dX6_serve_18 ?_
    refine v_cv1 hC lX6_229 ⟨by decide, 4, _, rfl, rfl, fun _ _ _ => ⟨_, rfl⟩⟩ (k_X4_unserve hwc (by omega)) ⟨Nat.le_of_ble_eq_true rfl, Nat.le_of_ble_eq_true rfl, rfl, rfl⟩ (Nat.le_of_ble_eq_true rfl) dX6_serve_19 ?_
    refine v_aload_0 hC dX6_serve_22 ?_
    refine v_get hC fX6_10 (by decide) rfl rfl dX6_serve_23 ?_
    refine v_iload_1 hC dX6_serve_26 ?_
    refine v_cv1 hC lX6_209 ⟨by decide, 4, _, rfl, rfl, fun _ _ _ => ⟨_, rfl⟩⟩ (k_X4_findSpare hwu (by omega)) ⟨Nat.le_of_ble_eq_true rfl, Nat.le_of_ble_eq_true rfl, rfl, rfl⟩ (Nat.le_of_ble_eq_true rfl) dX6_serve_27 ?_
    refine v_iconst hC dX6_serve_30 ic_0 ?_
    refine v_istore_2 hC (by decide) rfl dX6_serve_31 ?_
    refine v_iconst hC dX6_serve_32 ic_0 ?_
    refine v_istore_3 hC (by decide) rfl dX6_serve_33 ?_
    refine up_loop (fun d : Nat => V X E 34 [some (.ref (adr E 0)), some (.int (nI m)), some (.int (it0 (fServe m) d (nI 0, cFsp (cUns σ m) m)).1), some (.int (nI d)), none, none] [] ((it0 (fServe m) d (nI 0, cFsp (cUns σ m) m)).2) (μ)) (Nat.zero_le (nLi σ)) ?_ (fun d _ hd ih => ?_)
    · refine v_iload_3 hC dX6_serve_34 ?_
      refine v_aload_0 hC dX6_serve_35 ?_
      refine v_get hC fX6_10 (by decide) rfl rfl dX6_serve_36 ?_
      refine v_get hC fX6_219 (by decide) rfl rfl dX6_serve_39 ?_
      refine v_get hC fX6_223 (by decide) rfl rfl dX6_serve_42 ?_
      refine v_icge (tgt := 109) hC dX6_serve_45 (by decide) (fun h45 => ?_) (fun h45 => absurd (by rw [(serveS σ m _).2.2.2.2.1, hwc.l]; exact Int32.le_refl _) h45)
      refine v_iload_2 hC dX6_serve_109 ?_
      exact v_iret hC hT (by rw [cfServe, if_pos h4, tnI (j := m) (by omega), cServe]) dX6_serve_110
    · have hwq : WC (it0 (fServe m) d (nI 0, cFsp (cUns σ m) m)).2 := (serveS σ m d).wc hwc
      have hj10 := next10 hwq
      have hwl := hwq.w10 hj10
      refine v_iload_3 hC dX6_serve_34 ?_
      refine v_aload_0 hC dX6_serve_35 ?_
      refine v_get hC fX6_10 (by decide) rfl rfl dX6_serve_36 ?_
      refine v_get hC fX6_219 (by decide) rfl rfl dX6_serve_39 ?_
      refine v_get hC fX6_223 (by decide) rfl rfl dX6_serve_42 ?_
      refine v_icge (tgt := 109) hC dX6_serve_45 (by decide) (fun h45 => absurd h45 (by rw [(serveS σ m _).2.2.2.2.1, hwc.l]; exact nI_ge hd (by omega))) (fun h45 => ?_)
      refine v_aload_0 hC dX6_serve_48 ?_
      refine v_get hC fX6_10 (by decide) rfl rfl dX6_serve_49 ?_
      refine v_get hC fX6_219 (by decide) rfl rfl dX6_serve_52 ?_
      refine v_cv0r hC lX6_232 ⟨by decide, 0, _, rfl, rfl, fun _ _ _ => ⟨_, rfl⟩⟩ (k_X0_nextUnserved hwq) ⟨Nat.le_of_ble_eq_true rfl, Nat.le_of_ble_eq_true rfl, rfl, rfl⟩ (Nat.le_of_ble_eq_true rfl) dX6_serve_55 ?_
      refine v_istore_4 hC (by decide) rfl dX6_serve_58 ?_
      refine v_iload_4 hC dX6_serve_60 ?_
      refine v_iflt (tgt := 103) hC dX6_serve_62 (by decide) (fun h62 => ?_) (fun h62 => ?_)
      · refine v_iinc1_3 hC (by decide) rfl dX6_serve_103 ?_
        refine v_goto (tgt := 34) hC dX6_serve_106 (by decide) ?_
        rw [show it0 (fServe m) (d + 1) (nI 0, cFsp (cUns σ m) m) = _ from if_neg (Int32.not_le.mpr h62)] at ih
        exact v_forget_4 (v_forget_5 ih)
      · refine v_aload_0 hC dX6_serve_65 ?_
        refine v_get hC fX6_10 (by decide) rfl rfl dX6_serve_66 ?_
        refine v_aload_0 hC dX6_serve_69 ?_
        refine v_get hC fX6_10 (by decide) rfl rfl dX6_serve_70 ?_
        refine v_get hC fX6_219 (by decide) rfl rfl dX6_serve_73 ?_
        refine v_get hC fX6_236 (by decide) rfl rfl dX6_serve_76 ?_
        refine v_iload_4 hC dX6_serve_79 ?_
        refine v_top (nI_self h62) ?_
        refine v_iald hC C_13 hj10 dX6_serve_81 ?_
        refine v_top (hwq.w hj10) ?_
        refine v_iload_1 hC dX6_serve_82 ?_
        refine v_cv2r hC lX6_213 ⟨by decide, 4, _, rfl, rfl, fun _ _ _ => ⟨_, rfl⟩⟩ (k_X4_freeOf hwq hwl (by omega)) ⟨Nat.le_of_ble_eq_true rfl, Nat.le_of_ble_eq_true rfl, rfl, rfl⟩ (Nat.le_of_ble_eq_true rfl) dX6_serve_83 ?_
        refine v_istore_5 hC (by decide) rfl dX6_serve_86 ?_
        refine v_iload_2 hC dX6_serve_88 ?_
        refine v_aload_0 hC dX6_serve_89 ?_
        refine v_get hC fX6_10 (by decide) rfl rfl dX6_serve_90 ?_
        refine v_iload_4 hC dX6_serve_93 ?_
        refine v_top (nI_self h62) ?_
        refine v_iload_1 hC dX6_serve_95 ?_
        refine v_iload_5 hC dX6_serve_96 ?_
        refine v_cv3r hC lX6_238 ⟨by decide, 4, _, rfl, rfl, fun _ _ _ => ⟨_, rfl⟩⟩ (k_X4_grant hwq hj10 (by omega) _) ⟨Nat.le_of_ble_eq_true rfl, Nat.le_of_ble_eq_true rfl, rfl, rfl⟩ (Nat.le_of_ble_eq_true rfl) dX6_serve_98 ?_
        refine v_iadd hC dX6_serve_101 ?_
        refine v_istore_2 hC (by decide) rfl dX6_serve_102 ?_
        refine v_iinc1_3 hC (by decide) rfl dX6_serve_103 ?_
        refine v_goto (tgt := 34) hC dX6_serve_106 (by decide) ?_
        rw [show it0 (fServe m) (d + 1) (nI 0, cFsp (cUns σ m) m) = _ from if_pos (Int32.not_lt.mp h62)] at ih
        exact v_forget_4 (v_forget_5 ih)
  · refine v_aload_0 hC dX6_serve_7 ?_
    refine v_ldc hC kX6_44 dX6_serve_8 ?_
    refine v_cv1r hC lX6_45 ⟨by decide, 6, _, rfl, rfl, fun _ _ _ => ⟨_, rfl⟩⟩ (k_X6_finding _) ⟨Nat.le_of_ble_eq_true rfl, Nat.le_of_ble_eq_true rfl, rfl, rfl⟩ (Nat.le_of_ble_eq_true rfl) dX6_serve_10 ?_
    exact v_iret hC hT (by rw [cfServe, if_neg h4]) dX6_serve_13
theorem k_X6_served {l : Launch} {E : ET} {σ μ : St} (hwc : WC σ) (hws : WS σ) (i b : Int32) : Ct l E MX6_served [.ref (adr E 0), .int i, .int b] (σ) (μ) (some (.int (cfServed σ i b).1)) ((cfServed σ i b).2) (μ) := by
  have h10 := hwc.n10
  have l10 := hwc.l10
  refine Ct.of (L := [some (.ref (adr E 0)), some (.int i), some (.int b), none]) (by decide) rfl (Nat.le_of_ble_eq_true rfl) rfl (fun X hC hT => ?_)
  refine v_iload_1 hC dX6_served_0 ?_
  refine v_iconst hC dX6_served_1 ic_0 ?_
  refine v_aload_0 hC dX6_served_2 ?_
  refine v_get hC fX6_10 (by decide) rfl rfl dX6_served_3 ?_
  refine v_get hC fX6_219 (by decide) rfl rfl dX6_served_6 ?_
  refine v_get hC fX6_223 (by decide) rfl rfl dX6_served_9 ?_
  refine v_iconst hC dX6_served_12 ic_1 ?_
  refine v_isub hC dX6_served_13 ?_
  refine v_cs3r hC lX6_103 (k_X6_within _ _ _) ⟨Nat.le_of_ble_eq_true rfl, Nat.le_of_ble_eq_true rfl, rfl, rfl⟩ (Nat.le_of_ble_eq_true rfl) dX6_served_14 ?_
  refine v_ifneb (tgt := 27) hC dX6_served_17 (by decide) (fun h17 => ?_) (fun h17 => ?_)
  · obtain ⟨i, hi, rfl⟩ := isL_nat hwc h17
    refine v_aload_0 hC dX6_served_27 ?_
    refine v_get hC fX6_10 (by decide) rfl rfl dX6_served_28 ?_
    refine v_get hC fX6_219 (by decide) rfl rfl dX6_served_31 ?_
    refine v_get hC fX6_241 (by decide) rfl rfl dX6_served_34 ?_
    refine v_iload_1 hC dX6_served_37 ?_
    refine v_iald hC C_16 (by omega) dX6_served_38 ?_
    refine v_istore_3 hC (by decide) rfl dX6_served_39 ?_
    refine v_iload_3 hC dX6_served_40 ?_
    refine v_iconst (v := -1) hC dX6_served_41 (by decide +kernel) ?_
    refine v_icne (tgt := 52) hC dX6_served_42 (by decide) (fun h42 => ?_) (fun h42 => ?_)
    · refine v_iload_2 hC dX6_served_52 ?_
      refine v_ifeq (tgt := 73) hC dX6_served_53 (by decide) (fun h53 => ?_) (fun h53 => ?_)
      · refine v_iload_3 hC dX6_served_73 ?_
        exact v_iret hC hT (by rw [cfServed, if_pos h17, tnI (j := i) (by omega), if_neg h42, if_pos h53]) dX6_served_74
      · refine v_aload_0 hC dX6_served_56 ?_
        refine v_get hC fX6_10 (by decide) rfl rfl dX6_served_57 ?_
        refine v_get hC fX6_219 (by decide) rfl rfl dX6_served_60 ?_
        refine v_get hC fX6_244 (by decide) rfl rfl dX6_served_63 ?_
        refine v_iload_1 hC dX6_served_66 ?_
        refine v_iald hC C_15 (by omega) dX6_served_67 ?_
        refine v_iload_3 hC dX6_served_68 ?_
        refine v_isub hC dX6_served_69 ?_
        refine v_goto (tgt := 74) hC dX6_served_70 (by decide) ?_
        exact v_iret hC hT (by rw [cfServed, if_pos h17, tnI (j := i) (by omega), if_neg h42, if_neg h53]) dX6_served_74
    · refine v_aload_0 hC dX6_served_45 ?_
      refine v_ldc hC kX6_205 dX6_served_46 ?_
      refine v_cv1r hC lX6_45 ⟨by decide, 6, _, rfl, rfl, fun _ _ _ => ⟨_, rfl⟩⟩ (k_X6_finding _) ⟨Nat.le_of_ble_eq_true rfl, Nat.le_of_ble_eq_true rfl, rfl, rfl⟩ (Nat.le_of_ble_eq_true rfl) dX6_served_48 ?_
      exact v_iret hC hT (by rw [cfServed, if_pos h17, tnI (j := i) (by omega), if_pos h42]) dX6_served_51
  · refine v_aload_0 hC dX6_served_20 ?_
    refine v_ldc hC kX6_44 dX6_served_21 ?_
    refine v_cv1r hC lX6_45 ⟨by decide, 6, _, rfl, rfl, fun _ _ _ => ⟨_, rfl⟩⟩ (k_X6_finding _) ⟨Nat.le_of_ble_eq_true rfl, Nat.le_of_ble_eq_true rfl, rfl, rfl⟩ (Nat.le_of_ble_eq_true rfl) dX6_served_23 ?_
    exact v_iret hC hT (by rw [cfServed, if_neg h17]) dX6_served_26
theorem k_X6_hold {l : Launch} {E : ET} {σ μ : St} (hwc : WC σ) (hws : WS σ) (w m h : Int32) : Ct l E MX6_hold [.ref (adr E 0), .int w, .int m, .int h] (σ) (μ) (some (.int (cfHold σ w m h).1)) ((cfHold σ w m h).2) (μ) := by
  have h10 := hwc.n10
  have l10 := hwc.l10
  refine Ct.of (L := [some (.ref (adr E 0)), some (.int w), some (.int m), some (.int h), none]) (by decide) rfl (Nat.le_of_ble_eq_true rfl) rfl (fun X hC hT => ?_)
  refine v_aload_0 hC dX6_hold_0 ?_
  refine v_iload_1 hC dX6_hold_1 ?_
  refine v_cv1r hC lX6_63 ⟨by decide, 6, _, rfl, rfl, fun _ _ _ => ⟨_, rfl⟩⟩ (k_X6_isWell _) ⟨Nat.le_of_ble_eq_true rfl, Nat.le_of_ble_eq_true rfl, rfl, rfl⟩ (Nat.le_of_ble_eq_true rfl) dX6_hold_2 ?_
  refine v_ifeqb (tgt := 22) hC dX6_hold_5 (by decide) (fun h5 => ?_) (fun h5 => ?_)
  · refine v_aload_0 hC dX6_hold_22 ?_
    refine v_ldc hC kX6_44 dX6_hold_23 ?_
    refine v_cv1r hC lX6_45 ⟨by decide, 6, _, rfl, rfl, fun _ _ _ => ⟨_, rfl⟩⟩ (k_X6_finding _) ⟨Nat.le_of_ble_eq_true rfl, Nat.le_of_ble_eq_true rfl, rfl, rfl⟩ (Nat.le_of_ble_eq_true rfl) dX6_hold_25 ?_
    exact v_iret hC hT (by rw [cfHold, if_neg (fun q => h5 q.1)]) dX6_hold_28
  · refine v_iload_2 hC dX6_hold_8 ?_
    refine v_cs1r hC lX6_158 (k_X6_isMonth _) ⟨Nat.le_of_ble_eq_true rfl, Nat.le_of_ble_eq_true rfl, rfl, rfl⟩ (Nat.le_of_ble_eq_true rfl) dX6_hold_9 ?_
    refine v_ifeqb (tgt := 22) hC dX6_hold_12 (by decide) (fun h12 => ?_) (fun h12 => ?_)
    · refine v_aload_0 hC dX6_hold_22 ?_
      refine v_ldc hC kX6_44 dX6_hold_23 ?_
      refine v_cv1r hC lX6_45 ⟨by decide, 6, _, rfl, rfl, fun _ _ _ => ⟨_, rfl⟩⟩ (k_X6_finding _) ⟨Nat.le_of_ble_eq_true rfl, Nat.le_of_ble_eq_true rfl, rfl, rfl⟩ (Nat.le_of_ble_eq_true rfl) dX6_hold_25 ?_
      exact v_iret hC hT (by rw [cfHold, if_neg (fun q => h12 q.2.1)]) dX6_hold_28
    · refine v_iload_3 hC dX6_hold_15 ?_
      refine v_cs1r hC lX6_41 (k_X6_isHeadBound _) ⟨Nat.le_of_ble_eq_true rfl, Nat.le_of_ble_eq_true rfl, rfl, rfl⟩ (Nat.le_of_ble_eq_true rfl) dX6_hold_16 ?_
      refine v_ifneb (tgt := 29) hC dX6_hold_19 (by decide) (fun h19 => ?_) (fun h19 => ?_)
      · obtain ⟨w, hw, rfl⟩ := isW_nat hwc h5
        obtain ⟨m, hm, rfl⟩ := isR_nat (by decide) h12
        refine v_aload_0 hC dX6_hold_29 ?_
        refine v_get hC fX6_10 (by decide) rfl rfl dX6_hold_30 ?_
        refine v_get hC fX6_49 (by decide) rfl rfl dX6_hold_33 ?_
        refine v_get hC fX6_75 (by decide) rfl rfl dX6_hold_36 ?_
        refine v_iload_1 hC dX6_hold_39 ?_
        refine v_iald hC C_3 (by omega) dX6_hold_40 ?_
        refine v_iconst hC dX6_hold_41 ic_4 ?_
        refine v_iceq (tgt := 52) hC dX6_hold_42 (by decide) (fun h42 => ?_) (fun h42 => ?_)
        · refine v_aload_0 hC dX6_hold_52 ?_
          refine v_get hC fX6_10 (by decide) rfl rfl dX6_hold_53 ?_
          refine v_iload_1 hC dX6_hold_56 ?_
          refine v_iload_2 hC dX6_hold_57 ?_
          refine v_iload_3 hC dX6_hold_58 ?_
          refine v_cv3r hC lX6_247 ⟨by decide, 4, _, rfl, rfl, fun _ _ _ => ⟨_, rfl⟩⟩ (k_X4_leastToHold hwc (by omega) (by omega) _) ⟨Nat.le_of_ble_eq_true rfl, Nat.le_of_ble_eq_true rfl, rfl, rfl⟩ (Nat.le_of_ble_eq_true rfl) dX6_hold_59 ?_
          refine v_istore_4 hC (by decide) rfl dX6_hold_62 ?_
          refine v_iload_4 hC dX6_hold_64 ?_
          refine v_sipush hC dX6_hold_66 sp_1000 ?_
          refine v_icle (tgt := 79) hC dX6_hold_69 (by decide) (fun h69 => ?_) (fun h69 => ?_)
          · refine v_aload_0 hC dX6_hold_79 ?_
            refine v_get hC fX6_10 (by decide) rfl rfl dX6_hold_80 ?_
            refine v_iload_1 hC dX6_hold_83 ?_
            refine v_iload_2 hC dX6_hold_84 ?_
            refine v_iload_4 hC dX6_hold_85 ?_
            refine v_cv3 hC lX6_176 ⟨by decide, 4, _, rfl, rfl, fun _ _ _ => ⟨_, rfl⟩⟩ (k_X4_setDraw (by omega) (by omega)) ⟨Nat.le_of_ble_eq_true rfl, Nat.le_of_ble_eq_true rfl, rfl, rfl⟩ (Nat.le_of_ble_eq_true rfl) dX6_hold_87 ?_
            refine v_iload_4 hC dX6_hold_90 ?_
            exact v_iret hC hT (by rw [cfHold, if_pos ⟨h5, h12, h19⟩, tnI (j := w) (by omega), tnI (j := m) (by omega), if_pos h42, if_pos h69]) dX6_hold_92
          · refine v_aload_0 hC dX6_hold_72 ?_
            refine v_ldc hC kX6_205 dX6_hold_73 ?_
            refine v_cv1r hC lX6_45 ⟨by decide, 6, _, rfl, rfl, fun _ _ _ => ⟨_, rfl⟩⟩ (k_X6_finding _) ⟨Nat.le_of_ble_eq_true rfl, Nat.le_of_ble_eq_true rfl, rfl, rfl⟩ (Nat.le_of_ble_eq_true rfl) dX6_hold_75 ?_
            exact v_iret hC hT (by rw [cfHold, if_pos ⟨h5, h12, h19⟩, tnI (j := w) (by omega), tnI (j := m) (by omega), if_pos h42, if_neg h69]) dX6_hold_78
        · refine v_aload_0 hC dX6_hold_45 ?_
          refine v_ldc hC kX6_74 dX6_hold_46 ?_
          refine v_cv1r hC lX6_45 ⟨by decide, 6, _, rfl, rfl, fun _ _ _ => ⟨_, rfl⟩⟩ (k_X6_finding _) ⟨Nat.le_of_ble_eq_true rfl, Nat.le_of_ble_eq_true rfl, rfl, rfl⟩ (Nat.le_of_ble_eq_true rfl) dX6_hold_48 ?_
          exact v_iret hC hT (by rw [cfHold, if_pos ⟨h5, h12, h19⟩, tnI (j := w) (by omega), tnI (j := m) (by omega), if_neg h42]) dX6_hold_51
      · refine v_aload_0 hC dX6_hold_22 ?_
        refine v_ldc hC kX6_44 dX6_hold_23 ?_
        refine v_cv1r hC lX6_45 ⟨by decide, 6, _, rfl, rfl, fun _ _ _ => ⟨_, rfl⟩⟩ (k_X6_finding _) ⟨Nat.le_of_ble_eq_true rfl, Nat.le_of_ble_eq_true rfl, rfl, rfl⟩ (Nat.le_of_ble_eq_true rfl) dX6_hold_25 ?_
        exact v_iret hC hT (by rw [cfHold, if_neg (fun q => h19 q.2.2)]) dX6_hold_28
theorem k_X6_move {l : Launch} {E : ET} {σ μ : St} (hwc : WC σ) (hws : WS σ) (w m f : Int32) : Ct l E MX6_move [.ref (adr E 0), .int w, .int m, .int f] (σ) (μ) (some (.int (cfMove σ w m f).1)) ((cfMove σ w m f).2) (μ) := by
  have h10 := hwc.n10
  have l10 := hwc.l10
  refine Ct.of (L := [some (.ref (adr E 0)), some (.int w), some (.int m), some (.int f), none]) (by decide) rfl (Nat.le_of_ble_eq_true rfl) rfl (fun X hC hT => ?_)
  refine v_aload_0 hC dX6_move_0 ?_
  refine v_iload_1 hC dX6_move_1 ?_
  refine v_cv1r hC lX6_63 ⟨by decide, 6, _, rfl, rfl, fun _ _ _ => ⟨_, rfl⟩⟩ (k_X6_isWell _) ⟨Nat.le_of_ble_eq_true rfl, Nat.le_of_ble_eq_true rfl, rfl, rfl⟩ (Nat.le_of_ble_eq_true rfl) dX6_move_2 ?_
  refine v_ifeqb (tgt := 28) hC dX6_move_5 (by decide) (fun h5 => ?_) (fun h5 => ?_)
  · refine v_aload_0 hC dX6_move_28 ?_
    refine v_ldc hC kX6_44 dX6_move_29 ?_
    refine v_cv1r hC lX6_45 ⟨by decide, 6, _, rfl, rfl, fun _ _ _ => ⟨_, rfl⟩⟩ (k_X6_finding _) ⟨Nat.le_of_ble_eq_true rfl, Nat.le_of_ble_eq_true rfl, rfl, rfl⟩ (Nat.le_of_ble_eq_true rfl) dX6_move_31 ?_
    exact v_iret hC hT (by rw [cfMove, if_neg (fun q => h5 q.1)]) dX6_move_34
  · refine v_aload_0 hC dX6_move_8 ?_
    refine v_iload_3 hC dX6_move_9 ?_
    refine v_cv1r hC lX6_63 ⟨by decide, 6, _, rfl, rfl, fun _ _ _ => ⟨_, rfl⟩⟩ (k_X6_isWell _) ⟨Nat.le_of_ble_eq_true rfl, Nat.le_of_ble_eq_true rfl, rfl, rfl⟩ (Nat.le_of_ble_eq_true rfl) dX6_move_10 ?_
    refine v_ifeqb (tgt := 28) hC dX6_move_13 (by decide) (fun h13 => ?_) (fun h13 => ?_)
    · refine v_aload_0 hC dX6_move_28 ?_
      refine v_ldc hC kX6_44 dX6_move_29 ?_
      refine v_cv1r hC lX6_45 ⟨by decide, 6, _, rfl, rfl, fun _ _ _ => ⟨_, rfl⟩⟩ (k_X6_finding _) ⟨Nat.le_of_ble_eq_true rfl, Nat.le_of_ble_eq_true rfl, rfl, rfl⟩ (Nat.le_of_ble_eq_true rfl) dX6_move_31 ?_
      exact v_iret hC hT (by rw [cfMove, if_neg (fun q => h13 q.2.1)]) dX6_move_34
    · refine v_iload_1 hC dX6_move_16 ?_
      refine v_iload_3 hC dX6_move_17 ?_
      refine v_iceq (tgt := 28) hC dX6_move_18 (by decide) (fun h18 => ?_) (fun h18 => ?_)
      · refine v_aload_0 hC dX6_move_28 ?_
        refine v_ldc hC kX6_44 dX6_move_29 ?_
        refine v_cv1r hC lX6_45 ⟨by decide, 6, _, rfl, rfl, fun _ _ _ => ⟨_, rfl⟩⟩ (k_X6_finding _) ⟨Nat.le_of_ble_eq_true rfl, Nat.le_of_ble_eq_true rfl, rfl, rfl⟩ (Nat.le_of_ble_eq_true rfl) dX6_move_31 ?_
        exact v_iret hC hT (by rw [cfMove, if_neg (fun q => q.2.2.1 h18)]) dX6_move_34
      · refine v_iload_2 hC dX6_move_21 ?_
        refine v_cs1r hC lX6_158 (k_X6_isMonth _) ⟨Nat.le_of_ble_eq_true rfl, Nat.le_of_ble_eq_true rfl, rfl, rfl⟩ (Nat.le_of_ble_eq_true rfl) dX6_move_22 ?_
        refine v_ifneb (tgt := 35) hC dX6_move_25 (by decide) (fun h25 => ?_) (fun h25 => ?_)
        · obtain ⟨w, hw, rfl⟩ := isW_nat hwc h5
          obtain ⟨f, hf, rfl⟩ := isW_nat hwc h13
          obtain ⟨m, hm, rfl⟩ := isR_nat (by decide) h25
          refine v_aload_0 hC dX6_move_35 ?_
          refine v_get hC fX6_10 (by decide) rfl rfl dX6_move_36 ?_
          refine v_get hC fX6_49 (by decide) rfl rfl dX6_move_39 ?_
          refine v_iload_1 hC dX6_move_42 ?_
          refine v_cv1r hC lX6_216 ⟨by decide, 5, _, rfl, rfl, fun _ _ _ => ⟨_, rfl⟩⟩ (k_X5_isDrawing hwc (by omega)) ⟨Nat.le_of_ble_eq_true rfl, Nat.le_of_ble_eq_true rfl, rfl, rfl⟩ (Nat.le_of_ble_eq_true rfl) dX6_move_43 ?_
          refine v_ifeqb (tgt := 63) hC dX6_move_46 (by decide) (fun h46 => ?_) (fun h46 => ?_)
          · refine v_aload_0 hC dX6_move_63 ?_
            refine v_ldc hC kX6_74 dX6_move_64 ?_
            refine v_cv1r hC lX6_45 ⟨by decide, 6, _, rfl, rfl, fun _ _ _ => ⟨_, rfl⟩⟩ (k_X6_finding _) ⟨Nat.le_of_ble_eq_true rfl, Nat.le_of_ble_eq_true rfl, rfl, rfl⟩ (Nat.le_of_ble_eq_true rfl) dX6_move_66 ?_
            exact v_iret hC hT (by rw [cfMove, if_pos ⟨h5, h13, h18, h25⟩, tnI (j := w) (by omega), tnI (j := f) (by omega), if_neg (fun q => h46 q.1)]) dX6_move_69
          · refine v_aload_0 hC dX6_move_49 ?_
            refine v_get hC fX6_10 (by decide) rfl rfl dX6_move_50 ?_
            refine v_get hC fX6_49 (by decide) rfl rfl dX6_move_53 ?_
            refine v_iload_3 hC dX6_move_56 ?_
            refine v_cv1r hC lX6_216 ⟨by decide, 5, _, rfl, rfl, fun _ _ _ => ⟨_, rfl⟩⟩ (k_X5_isDrawing hwc (by omega)) ⟨Nat.le_of_ble_eq_true rfl, Nat.le_of_ble_eq_true rfl, rfl, rfl⟩ (Nat.le_of_ble_eq_true rfl) dX6_move_57 ?_
            refine v_ifneb (tgt := 70) hC dX6_move_60 (by decide) (fun h60 => ?_) (fun h60 => ?_)
            · refine v_aload_0 hC dX6_move_70 ?_
              refine v_get hC fX6_10 (by decide) rfl rfl dX6_move_71 ?_
              refine v_iload_1 hC dX6_move_74 ?_
              refine v_iload_2 hC dX6_move_75 ?_
              refine v_iload_3 hC dX6_move_76 ?_
              refine v_cv3r hC lX6_250 ⟨by decide, 4, _, rfl, rfl, fun _ _ _ => ⟨_, rfl⟩⟩ (k_X4_mostToMove hwc (by omega) (by omega) (by omega)) ⟨Nat.le_of_ble_eq_true rfl, Nat.le_of_ble_eq_true rfl, rfl, rfl⟩ (Nat.le_of_ble_eq_true rfl) dX6_move_77 ?_
              refine v_istore_4 hC (by decide) rfl dX6_move_80 ?_
              refine v_aload_0 hC dX6_move_82 ?_
              refine v_get hC fX6_10 (by decide) rfl rfl dX6_move_83 ?_
              refine v_iload_1 hC dX6_move_86 ?_
              refine v_iload_2 hC dX6_move_87 ?_
              refine v_iload_4 hC dX6_move_88 ?_
              refine v_cv3 hC lX6_176 ⟨by decide, 4, _, rfl, rfl, fun _ _ _ => ⟨_, rfl⟩⟩ (k_X4_setDraw (by omega) (by omega)) ⟨Nat.le_of_ble_eq_true rfl, Nat.le_of_ble_eq_true rfl, rfl, rfl⟩ (Nat.le_of_ble_eq_true rfl) dX6_move_90 ?_
              refine v_aload_0 hC dX6_move_93 ?_
              refine v_get hC fX6_10 (by decide) rfl rfl dX6_move_94 ?_
              refine v_iload_3 hC dX6_move_97 ?_
              refine v_iload_2 hC dX6_move_98 ?_
              refine v_iconst hC dX6_move_99 ic_0 ?_
              refine v_cv3 hC lX6_176 ⟨by decide, 4, _, rfl, rfl, fun _ _ _ => ⟨_, rfl⟩⟩ (k_X4_setDraw (by omega) (by omega)) ⟨Nat.le_of_ble_eq_true rfl, Nat.le_of_ble_eq_true rfl, rfl, rfl⟩ (Nat.le_of_ble_eq_true rfl) dX6_move_100 ?_
              refine v_iload_4 hC dX6_move_103 ?_
              exact v_iret hC hT (by rw [cfMove, if_pos ⟨h5, h13, h18, h25⟩, tnI (j := w) (by omega), tnI (j := f) (by omega), if_pos ⟨h46, h60⟩, tnI (j := m) (by omega)]) dX6_move_105
            · refine v_aload_0 hC dX6_move_63 ?_
              refine v_ldc hC kX6_74 dX6_move_64 ?_
              refine v_cv1r hC lX6_45 ⟨by decide, 6, _, rfl, rfl, fun _ _ _ => ⟨_, rfl⟩⟩ (k_X6_finding _) ⟨Nat.le_of_ble_eq_true rfl, Nat.le_of_ble_eq_true rfl, rfl, rfl⟩ (Nat.le_of_ble_eq_true rfl) dX6_move_66 ?_
              exact v_iret hC hT (by rw [cfMove, if_pos ⟨h5, h13, h18, h25⟩, tnI (j := w) (by omega), tnI (j := f) (by omega), if_neg (fun q => h60 q.2)]) dX6_move_69
        · refine v_aload_0 hC dX6_move_28 ?_
          refine v_ldc hC kX6_44 dX6_move_29 ?_
          refine v_cv1r hC lX6_45 ⟨by decide, 6, _, rfl, rfl, fun _ _ _ => ⟨_, rfl⟩⟩ (k_X6_finding _) ⟨Nat.le_of_ble_eq_true rfl, Nat.le_of_ble_eq_true rfl, rfl, rfl⟩ (Nat.le_of_ble_eq_true rfl) dX6_move_31 ?_
          exact v_iret hC hT (by rw [cfMove, if_neg (fun q => h25 q.2.2.2)]) dX6_move_34
theorem k_X6_read {l : Launch} {E : ET} {σ μ : St} (hwc : WC σ) (hws : WS σ) (w m v : Int32) : Ct l E MX6_read [.ref (adr E 0), .int w, .int m, .int v] (σ) (μ) (some (.int (cfRead σ w m v).1)) ((cfRead σ w m v).2) (μ) := by
  have h10 := hwc.n10
  have l10 := hwc.l10
  refine Ct.of (L := [some (.ref (adr E 0)), some (.int w), some (.int m), some (.int v)]) (by decide) rfl (Nat.le_of_ble_eq_true rfl) rfl (fun X hC hT => ?_)
  refine v_aload_0 hC dX6_read_0 ?_
  refine v_iload_1 hC dX6_read_1 ?_
  refine v_cv1r hC lX6_63 ⟨by decide, 6, _, rfl, rfl, fun _ _ _ => ⟨_, rfl⟩⟩ (k_X6_isWell _) ⟨Nat.le_of_ble_eq_true rfl, Nat.le_of_ble_eq_true rfl, rfl, rfl⟩ (Nat.le_of_ble_eq_true rfl) dX6_read_2 ?_
  refine v_ifeqb (tgt := 26) hC dX6_read_5 (by decide) (fun h5 => ?_) (fun h5 => ?_)
  · refine v_aload_0 hC dX6_read_26 ?_
    refine v_ldc hC kX6_44 dX6_read_27 ?_
    refine v_cv1r hC lX6_45 ⟨by decide, 6, _, rfl, rfl, fun _ _ _ => ⟨_, rfl⟩⟩ (k_X6_finding _) ⟨Nat.le_of_ble_eq_true rfl, Nat.le_of_ble_eq_true rfl, rfl, rfl⟩ (Nat.le_of_ble_eq_true rfl) dX6_read_29 ?_
    exact v_iret hC hT (by rw [cfRead, if_neg (fun q => h5 q.1)]) dX6_read_32
  · refine v_iload_2 hC dX6_read_8 ?_
    refine v_cs1r hC lX6_158 (k_X6_isMonth _) ⟨Nat.le_of_ble_eq_true rfl, Nat.le_of_ble_eq_true rfl, rfl, rfl⟩ (Nat.le_of_ble_eq_true rfl) dX6_read_9 ?_
    refine v_ifeqb (tgt := 26) hC dX6_read_12 (by decide) (fun h12 => ?_) (fun h12 => ?_)
    · refine v_aload_0 hC dX6_read_26 ?_
      refine v_ldc hC kX6_44 dX6_read_27 ?_
      refine v_cv1r hC lX6_45 ⟨by decide, 6, _, rfl, rfl, fun _ _ _ => ⟨_, rfl⟩⟩ (k_X6_finding _) ⟨Nat.le_of_ble_eq_true rfl, Nat.le_of_ble_eq_true rfl, rfl, rfl⟩ (Nat.le_of_ble_eq_true rfl) dX6_read_29 ?_
      exact v_iret hC hT (by rw [cfRead, if_neg (fun q => h12 q.2.1)]) dX6_read_32
    · refine v_iload_3 hC dX6_read_15 ?_
      refine v_ldc hC kX6_253 dX6_read_16 ?_
      refine v_ldc hC kX6_254 dX6_read_18 ?_
      refine v_cs3r hC lX6_103 (k_X6_within _ _ _) ⟨Nat.le_of_ble_eq_true rfl, Nat.le_of_ble_eq_true rfl, rfl, rfl⟩ (Nat.le_of_ble_eq_true rfl) dX6_read_20 ?_
      refine v_ifneb (tgt := 33) hC dX6_read_23 (by decide) (fun h23 => ?_) (fun h23 => ?_)
      · obtain ⟨w, hw, rfl⟩ := isW_nat hwc h5
        obtain ⟨m, hm, rfl⟩ := isR_nat (by decide) h12
        refine v_aload_0 hC dX6_read_33 ?_
        refine v_get hC fX6_10 (by decide) rfl rfl dX6_read_34 ?_
        refine v_get hC fX6_255 (by decide) rfl rfl dX6_read_37 ?_
        refine v_iload_1 hC dX6_read_40 ?_
        refine v_iload_2 hC dX6_read_41 ?_
        refine v_cv2r hC lX6_259 ⟨by decide, 1, _, rfl, rfl, fun _ _ _ => ⟨_, rfl⟩⟩ (k_X1_has (by omega) (by omega)) ⟨Nat.le_of_ble_eq_true rfl, Nat.le_of_ble_eq_true rfl, rfl, rfl⟩ (Nat.le_of_ble_eq_true rfl) dX6_read_42 ?_
        refine v_ifneb (tgt := 70) hC dX6_read_45 (by decide) (fun h45 => ?_) (fun h45 => ?_)
        · refine v_aload_0 hC dX6_read_70 ?_
          refine v_get hC fX6_10 (by decide) rfl rfl dX6_read_71 ?_
          refine v_get hC fX6_255 (by decide) rfl rfl dX6_read_74 ?_
          refine v_iload_1 hC dX6_read_77 ?_
          refine v_iload_2 hC dX6_read_78 ?_
          refine v_iload_3 hC dX6_read_79 ?_
          refine v_cv3 hC lX6_265 ⟨by decide, 1, _, rfl, rfl, fun _ _ _ => ⟨_, rfl⟩⟩ (k_X1_write (by omega) (by omega) _) ⟨Nat.le_of_ble_eq_true rfl, Nat.le_of_ble_eq_true rfl, rfl, rfl⟩ (Nat.le_of_ble_eq_true rfl) dX6_read_80 ?_
          refine v_aload_0 hC dX6_read_83 ?_
          refine v_get hC fX6_10 (by decide) rfl rfl dX6_read_84 ?_
          refine v_get hC fX6_255 (by decide) rfl rfl dX6_read_87 ?_
          refine v_get hC fX6_264 (by decide) rfl rfl dX6_read_90 ?_
          exact v_iret hC hT (by rw [cfRead, if_pos ⟨h5, h12, h23⟩, tnI (j := w) (by omega), tnI (j := m) (by omega), if_neg (fun q => h45 q.1)]) dX6_read_93
        · refine v_aload_0 hC dX6_read_48 ?_
          refine v_get hC fX6_10 (by decide) rfl rfl dX6_read_49 ?_
          refine v_get hC fX6_255 (by decide) rfl rfl dX6_read_52 ?_
          refine v_get hC fX6_264 (by decide) rfl rfl dX6_read_55 ?_
          refine v_bipush hC dX6_read_58 bp_40 ?_
          refine v_iclt (tgt := 70) hC dX6_read_60 (by decide) (fun h60 => ?_) (fun h60 => ?_)
          · refine v_aload_0 hC dX6_read_70 ?_
            refine v_get hC fX6_10 (by decide) rfl rfl dX6_read_71 ?_
            refine v_get hC fX6_255 (by decide) rfl rfl dX6_read_74 ?_
            refine v_iload_1 hC dX6_read_77 ?_
            refine v_iload_2 hC dX6_read_78 ?_
            refine v_iload_3 hC dX6_read_79 ?_
            refine v_cv3 hC lX6_265 ⟨by decide, 1, _, rfl, rfl, fun _ _ _ => ⟨_, rfl⟩⟩ (k_X1_write (by omega) (by omega) _) ⟨Nat.le_of_ble_eq_true rfl, Nat.le_of_ble_eq_true rfl, rfl, rfl⟩ (Nat.le_of_ble_eq_true rfl) dX6_read_80 ?_
            refine v_aload_0 hC dX6_read_83 ?_
            refine v_get hC fX6_10 (by decide) rfl rfl dX6_read_84 ?_
            refine v_get hC fX6_255 (by decide) rfl rfl dX6_read_87 ?_
            refine v_get hC fX6_264 (by decide) rfl rfl dX6_read_90 ?_
            exact v_iret hC hT (by rw [cfRead, if_pos ⟨h5, h12, h23⟩, tnI (j := w) (by omega), tnI (j := m) (by omega), if_neg (fun q => q.2 h60)]) dX6_read_93
          · refine v_aload_0 hC dX6_read_63 ?_
            refine v_ldc hC kX6_58 dX6_read_64 ?_
            refine v_cv1r hC lX6_45 ⟨by decide, 6, _, rfl, rfl, fun _ _ _ => ⟨_, rfl⟩⟩ (k_X6_finding _) ⟨Nat.le_of_ble_eq_true rfl, Nat.le_of_ble_eq_true rfl, rfl, rfl⟩ (Nat.le_of_ble_eq_true rfl) dX6_read_66 ?_
            exact v_iret hC hT (by rw [cfRead, if_pos ⟨h5, h12, h23⟩, tnI (j := w) (by omega), tnI (j := m) (by omega), if_pos ⟨Classical.not_not.mp h45, h60⟩]) dX6_read_69
      · refine v_aload_0 hC dX6_read_26 ?_
        refine v_ldc hC kX6_44 dX6_read_27 ?_
        refine v_cv1r hC lX6_45 ⟨by decide, 6, _, rfl, rfl, fun _ _ _ => ⟨_, rfl⟩⟩ (k_X6_finding _) ⟨Nat.le_of_ble_eq_true rfl, Nat.le_of_ble_eq_true rfl, rfl, rfl⟩ (Nat.le_of_ble_eq_true rfl) dX6_read_29 ?_
        exact v_iret hC hT (by rw [cfRead, if_neg (fun q => h23 q.2.2)]) dX6_read_32
theorem k_X6_differ {l : Launch} {E : ET} {σ μ : St} (hwc : WC σ) (hws : WS σ) (w m : Int32) : Ct l E MX6_differ [.ref (adr E 0), .int w, .int m] (σ) (μ) (some (.int (cfDiffer σ w m).1)) ((cfDiffer σ w m).2) (μ) := by
  have h10 := hwc.n10
  have l10 := hwc.l10
  refine Ct.of (L := [some (.ref (adr E 0)), some (.int w), some (.int m)]) (by decide) rfl (Nat.le_of_ble_eq_true rfl) rfl (fun X hC hT => ?_)
  refine v_aload_0 hC dX6_differ_0 ?_
  refine v_iload_1 hC dX6_differ_1 ?_
  refine v_cv1r hC lX6_63 ⟨by decide, 6, _, rfl, rfl, fun _ _ _ => ⟨_, rfl⟩⟩ (k_X6_isWell _) ⟨Nat.le_of_ble_eq_true rfl, Nat.le_of_ble_eq_true rfl, rfl, rfl⟩ (Nat.le_of_ble_eq_true rfl) dX6_differ_2 ?_
  refine v_ifeqb (tgt := 15) hC dX6_differ_5 (by decide) (fun h5 => ?_) (fun h5 => ?_)
  · refine v_aload_0 hC dX6_differ_15 ?_
    refine v_ldc hC kX6_44 dX6_differ_16 ?_
    refine v_cv1r hC lX6_45 ⟨by decide, 6, _, rfl, rfl, fun _ _ _ => ⟨_, rfl⟩⟩ (k_X6_finding _) ⟨Nat.le_of_ble_eq_true rfl, Nat.le_of_ble_eq_true rfl, rfl, rfl⟩ (Nat.le_of_ble_eq_true rfl) dX6_differ_18 ?_
    exact v_iret hC hT (by rw [cfDiffer, if_neg (fun q => h5 q.1)]) dX6_differ_21
  · refine v_iload_2 hC dX6_differ_8 ?_
    refine v_cs1r hC lX6_158 (k_X6_isMonth _) ⟨Nat.le_of_ble_eq_true rfl, Nat.le_of_ble_eq_true rfl, rfl, rfl⟩ (Nat.le_of_ble_eq_true rfl) dX6_differ_9 ?_
    refine v_ifneb (tgt := 22) hC dX6_differ_12 (by decide) (fun h12 => ?_) (fun h12 => ?_)
    · obtain ⟨w, hw, rfl⟩ := isW_nat hwc h5
      obtain ⟨m, hm, rfl⟩ := isR_nat (by decide) h12
      refine v_aload_0 hC dX6_differ_22 ?_
      refine v_get hC fX6_10 (by decide) rfl rfl dX6_differ_23 ?_
      refine v_get hC fX6_255 (by decide) rfl rfl dX6_differ_26 ?_
      refine v_iload_1 hC dX6_differ_29 ?_
      refine v_iload_2 hC dX6_differ_30 ?_
      refine v_cv2r hC lX6_259 ⟨by decide, 1, _, rfl, rfl, fun _ _ _ => ⟨_, rfl⟩⟩ (k_X1_has (by omega) (by omega)) ⟨Nat.le_of_ble_eq_true rfl, Nat.le_of_ble_eq_true rfl, rfl, rfl⟩ (Nat.le_of_ble_eq_true rfl) dX6_differ_31 ?_
      refine v_ifneb (tgt := 44) hC dX6_differ_34 (by decide) (fun h34 => ?_) (fun h34 => ?_)
      · refine v_aload_0 hC dX6_differ_44 ?_
        refine v_get hC fX6_10 (by decide) rfl rfl dX6_differ_45 ?_
        refine v_get hC fX6_255 (by decide) rfl rfl dX6_differ_48 ?_
        refine v_iload_1 hC dX6_differ_51 ?_
        refine v_iload_2 hC dX6_differ_52 ?_
        refine v_cv2r hC lX6_267 ⟨by decide, 1, _, rfl, rfl, fun _ _ _ => ⟨_, rfl⟩⟩ (k_X1_at (by omega) (by omega)) ⟨Nat.le_of_ble_eq_true rfl, Nat.le_of_ble_eq_true rfl, rfl, rfl⟩ (Nat.le_of_ble_eq_true rfl) dX6_differ_53 ?_
        refine v_aload_0 hC dX6_differ_56 ?_
        refine v_get hC fX6_10 (by decide) rfl rfl dX6_differ_57 ?_
        refine v_iload_1 hC dX6_differ_60 ?_
        refine v_iload_2 hC dX6_differ_61 ?_
        refine v_cv2r hC lX6_196 ⟨by decide, 4, _, rfl, rfl, fun _ _ _ => ⟨_, rfl⟩⟩ (k_X4_headOf hwc (by omega) (by omega)) ⟨Nat.le_of_ble_eq_true rfl, Nat.le_of_ble_eq_true rfl, rfl, rfl⟩ (Nat.le_of_ble_eq_true rfl) dX6_differ_62 ?_
        refine v_isub hC dX6_differ_65 ?_
        exact v_iret hC hT (by rw [cfDiffer, if_pos ⟨h5, h12⟩, tnI (j := w) (by omega), tnI (j := m) (by omega), if_neg h34, cDif]) dX6_differ_66
      · refine v_aload_0 hC dX6_differ_37 ?_
        refine v_ldc hC kX6_205 dX6_differ_38 ?_
        refine v_cv1r hC lX6_45 ⟨by decide, 6, _, rfl, rfl, fun _ _ _ => ⟨_, rfl⟩⟩ (k_X6_finding _) ⟨Nat.le_of_ble_eq_true rfl, Nat.le_of_ble_eq_true rfl, rfl, rfl⟩ (Nat.le_of_ble_eq_true rfl) dX6_differ_40 ?_
        exact v_iret hC hT (by rw [cfDiffer, if_pos ⟨h5, h12⟩, tnI (j := w) (by omega), tnI (j := m) (by omega), if_pos (Classical.not_not.mp h34)]) dX6_differ_43
    · refine v_aload_0 hC dX6_differ_15 ?_
      refine v_ldc hC kX6_44 dX6_differ_16 ?_
      refine v_cv1r hC lX6_45 ⟨by decide, 6, _, rfl, rfl, fun _ _ _ => ⟨_, rfl⟩⟩ (k_X6_finding _) ⟨Nat.le_of_ble_eq_true rfl, Nat.le_of_ble_eq_true rfl, rfl, rfl⟩ (Nat.le_of_ble_eq_true rfl) dX6_differ_18 ?_
      exact v_iret hC hT (by rw [cfDiffer, if_neg (fun q => h12 q.2)]) dX6_differ_21
theorem tryS (σ : St) (l g : Nat) (f : Int32) : Off 9 σ (cTry σ l g f) := it0_inv (Off 9 σ) 10 Off.rf (fun _ _ _ h => h.wr)
theorem staS (σ : St) (l g : Nat) : Off 11 σ (cSta σ l g) := it0_inv (Off 11 σ) 10 Off.rf (fun _ _ _ h => h.wr)
theorem ne9 : 9 ≠ 2 ∧ 9 ≠ 3 ∧ 9 ≠ 4 ∧ 9 ≠ 5 ∧ 9 ≠ 12 ∧ 9 ≠ 13 := by decide
theorem ne11 : 11 ≠ 2 ∧ 11 ≠ 3 ∧ 11 ≠ 4 ∧ 11 ≠ 5 ∧ 11 ≠ 12 ∧ 11 ≠ 13 := by decide
theorem fitWC {σ : St} (h : WC σ) (l g n : Nat) : WC (it0 (fFit l g) n ((nI 50, 0), cSta σ l g)).2 := by
  refine it0_inv (fun q : (Int32 × Int64) × St => WC q.2) n ((staS σ l g).wc ne11 h) (fun i q _ h => ?_)
  unfold fFit
  split <;> exact (tryS q.2 l g _).wc ne9 h
theorem lcm_lt {x y : Int64} : ¬ 0 ≤ lg_cmp x y ↔ x < y := by rw [lg_cmp_ge, Int64.not_le]
theorem ic10 (d : Nat) : nI (50 + 10 * d) + Int32.ofInt 10 = nI (50 + 10 * (d + 1)) := by rw [ic_10, nI_add]; congr 1
theorem k_X6_fit {l : Launch} {E : ET} {σ μ : St} (hwc : WC σ) (hws : WS σ) (i g : Int32) : Ct l E MX6_fit [.ref (adr E 0), .int i, .int g] (σ) (μ) (some (.int (cfFit σ i g).1)) ((cfFit σ i g).2) (μ) := by
  have h10 := hwc.n10
  have l10 := hwc.l10
  refine Ct.of (L := [some (.ref (adr E 0)), some (.int i), some (.int g), none, none, none, none, none, none]) (by decide) rfl (Nat.le_of_ble_eq_true rfl) rfl (fun X hC hT => ?_)
  refine v_iload_1 hC dX6_fit_0 ?_
  refine v_cs1r hC lX6_94 (k_X6_isLayer _) ⟨Nat.le_of_ble_eq_true rfl, Nat.le_of_ble_eq_true rfl, rfl, rfl⟩ (Nat.le_of_ble_eq_true rfl) dX6_fit_1 ?_
  refine v_ifeqb (tgt := 14) hC dX6_fit_4 (by decide) (fun h4 => ?_) (fun h4 => ?_)
  · refine v_aload_0 hC dX6_fit_14 ?_
    refine v_ldc hC kX6_44 dX6_fit_15 ?_
    refine v_cv1r hC lX6_45 ⟨by decide, 6, _, rfl, rfl, fun _ _ _ => ⟨_, rfl⟩⟩ (k_X6_finding _) ⟨Nat.le_of_ble_eq_true rfl, Nat.le_of_ble_eq_true rfl, rfl, rfl⟩ (Nat.le_of_ble_eq_true rfl) dX6_fit_17 ?_
    exact v_iret hC hT (by rw [cfFit, if_neg (fun q => h4 q.1)]) dX6_fit_20
  · refine v_iload_2 hC dX6_fit_7 ?_
    refine v_cs1r hC lX6_97 (k_X6_isAge _) ⟨Nat.le_of_ble_eq_true rfl, Nat.le_of_ble_eq_true rfl, rfl, rfl⟩ (Nat.le_of_ble_eq_true rfl) dX6_fit_8 ?_
    refine v_ifneb (tgt := 21) hC dX6_fit_11 (by decide) (fun h11 => ?_) (fun h11 => ?_)
    · obtain ⟨i, hi, rfl⟩ := isR_nat (by decide) h4
      obtain ⟨g, hg, rfl⟩ := isR_nat (by decide) h11
      refine v_aload_0 hC dX6_fit_21 ?_
      refine v_get hC fX6_10 (by decide) rfl rfl dX6_fit_22 ?_
      refine v_get hC fX6_255 (by decide) rfl rfl dX6_fit_25 ?_
      refine v_get hC fX6_264 (by decide) rfl rfl dX6_fit_28 ?_
      refine v_ifne (tgt := 41) hC dX6_fit_31 (by decide) (fun h31 => ?_) (fun h31 => ?_)
      · refine v_aload_0 hC dX6_fit_41 ?_
        refine v_get hC fX6_10 (by decide) rfl rfl dX6_fit_42 ?_
        refine v_get hC fX6_107 (by decide) rfl rfl dX6_fit_45 ?_
        refine v_iload_1 hC dX6_fit_48 ?_
        refine v_iload_2 hC dX6_fit_49 ?_
        refine v_cv2 hC lX6_270 ⟨by decide, 3, _, rfl, rfl, fun _ _ _ => ⟨_, rfl⟩⟩ (k_X3_startTrial (by omega) (by omega)) ⟨Nat.le_of_ble_eq_true rfl, Nat.le_of_ble_eq_true rfl, rfl, rfl⟩ (Nat.le_of_ble_eq_true rfl) dX6_fit_50 ?_
        refine v_bipush hC dX6_fit_53 bp_50 ?_
        refine v_istore_3 hC (by decide) rfl dX6_fit_55 ?_
        refine v_lconst hC dX6_fit_56 rfl ?_
        refine v_lstore_4 hC (by decide) rfl dX6_fit_57 ?_
        refine v_bipush hC dX6_fit_59 bp_50 ?_
        refine v_istore_6 hC (by decide) rfl dX6_fit_61 ?_
        refine up_loop (fun d : Nat => V X E 63 [some (.ref (adr E 0)), some (.int (nI i)), some (.int (nI g)), some (.int (it0 (fFit i g) d ((nI 50, 0), cSta σ i g)).1.1), some (.long (it0 (fFit i g) d ((nI 50, 0), cSta σ i g)).1.2), none, some (.int (nI (50 + 10 * d))), none, none] [] ((it0 (fFit i g) d ((nI 50, 0), cSta σ i g)).2) (μ)) (Nat.zero_le (11)) ?_ (fun d _ hd ih => ?_)
        · refine v_iload_6 hC dX6_fit_63 ?_
          refine v_sipush hC dX6_fit_65 sp_150 ?_
          refine v_icgt (tgt := 122) hC dX6_fit_68 (by decide) (fun h68 => ?_) (fun h68 => absurd (by decide) h68)
          refine v_aload_0 hC dX6_fit_122 ?_
          refine v_get hC fX6_10 (by decide) rfl rfl dX6_fit_123 ?_
          refine v_get hC fX6_107 (by decide) rfl rfl dX6_fit_126 ?_
          refine v_iload_1 hC dX6_fit_129 ?_
          refine v_iload_2 hC dX6_fit_130 ?_
          refine v_iload_3 hC dX6_fit_131 ?_
          refine v_cv3 hC lX6_273 ⟨by decide, 3, _, rfl, rfl, fun _ _ _ => ⟨_, rfl⟩⟩ (k_X3_tryFactor (by omega) (by omega) _) ⟨Nat.le_of_ble_eq_true rfl, Nat.le_of_ble_eq_true rfl, rfl, rfl⟩ (Nat.le_of_ble_eq_true rfl) dX6_fit_132 ?_
          refine v_iload_3 hC dX6_fit_135 ?_
          exact v_iret hC hT (by rw [cfFit, if_pos ⟨h4, h11⟩, if_neg h31, tnI (j := i) (by omega), tnI (j := g) (by omega), cFit, lFit]) dX6_fit_136
        · have hwq := (tryS _ i g (nI (50 + 10 * d))).wc ne9 (fitWC hwc i g d)
          refine v_iload_6 hC dX6_fit_63 ?_
          refine v_sipush hC dX6_fit_65 sp_150 ?_
          refine v_icgt (tgt := 122) hC dX6_fit_68 (by decide) (fun h68 => absurd h68 (nI_nlt (by omega) (by omega))) (fun h68 => ?_)
          refine v_aload_0 hC dX6_fit_71 ?_
          refine v_get hC fX6_10 (by decide) rfl rfl dX6_fit_72 ?_
          refine v_get hC fX6_107 (by decide) rfl rfl dX6_fit_75 ?_
          refine v_iload_1 hC dX6_fit_78 ?_
          refine v_iload_2 hC dX6_fit_79 ?_
          refine v_iload_6 hC dX6_fit_80 ?_
          refine v_cv3 hC lX6_273 ⟨by decide, 3, _, rfl, rfl, fun _ _ _ => ⟨_, rfl⟩⟩ (k_X3_tryFactor (by omega) (by omega) _) ⟨Nat.le_of_ble_eq_true rfl, Nat.le_of_ble_eq_true rfl, rfl, rfl⟩ (Nat.le_of_ble_eq_true rfl) dX6_fit_82 ?_
          refine v_aload_0 hC dX6_fit_85 ?_
          refine v_get hC fX6_10 (by decide) rfl rfl dX6_fit_86 ?_
          refine v_cv0r hC lX6_276 ⟨by decide, 4, _, rfl, rfl, fun _ _ _ => ⟨_, rfl⟩⟩ (k_X4_sumOfSquares hwq) ⟨Nat.le_of_ble_eq_true rfl, Nat.le_of_ble_eq_true rfl, rfl, rfl⟩ (Nat.le_of_ble_eq_true rfl) dX6_fit_89 ?_
          refine v_lstore_7 hC (by decide) rfl dX6_fit_92 ?_
          refine v_iload_6 hC dX6_fit_94 ?_
          refine v_bipush hC dX6_fit_96 bp_50 ?_
          refine v_iceq (tgt := 109) hC dX6_fit_98 (by decide) (fun h98 => ?_) (fun h98 => ?_)
          · refine v_lload_7 hC dX6_fit_109 ?_
            refine v_lstore_4 hC (by decide) rfl dX6_fit_111 ?_
            refine v_iload_6 hC dX6_fit_113 ?_
            refine v_istore_3 hC (by decide) rfl dX6_fit_115 ?_
            refine v_iinc_6 hC (by decide) rfl dX6_fit_116 (ic10 d) ?_
            refine v_goto (tgt := 63) hC dX6_fit_119 (by decide) ?_
            rw [show it0 (fFit i g) (d + 1) ((nI 50, 0), cSta σ i g) = _ from if_pos (Or.inl h98)] at ih
            exact v_forget_7 ih
          · refine v_lload_7 hC dX6_fit_101 ?_
            refine v_lload_4 hC dX6_fit_103 ?_
            refine v_lcmp hC dX6_fit_105 ?_
            refine v_ifge (tgt := 116) hC dX6_fit_106 (by decide) (fun h106 => ?_) (fun h106 => ?_)
            · refine v_iinc_6 hC (by decide) rfl dX6_fit_116 (ic10 d) ?_
              refine v_goto (tgt := 63) hC dX6_fit_119 (by decide) ?_
              rw [show it0 (fFit i g) (d + 1) ((nI 50, 0), cSta σ i g) = _ from if_neg (fun q => q.elim h98 (fun q => lcm_lt.mpr q h106))] at ih
              exact v_forget_7 ih
            · refine v_lload_7 hC dX6_fit_109 ?_
              refine v_lstore_4 hC (by decide) rfl dX6_fit_111 ?_
              refine v_iload_6 hC dX6_fit_113 ?_
              refine v_istore_3 hC (by decide) rfl dX6_fit_115 ?_
              refine v_iinc_6 hC (by decide) rfl dX6_fit_116 (ic10 d) ?_
              refine v_goto (tgt := 63) hC dX6_fit_119 (by decide) ?_
              rw [show it0 (fFit i g) (d + 1) ((nI 50, 0), cSta σ i g) = _ from if_pos (Or.inr (lcm_lt.mp h106))] at ih
              exact v_forget_7 ih
      · refine v_aload_0 hC dX6_fit_34 ?_
        refine v_ldc hC kX6_205 dX6_fit_35 ?_
        refine v_cv1r hC lX6_45 ⟨by decide, 6, _, rfl, rfl, fun _ _ _ => ⟨_, rfl⟩⟩ (k_X6_finding _) ⟨Nat.le_of_ble_eq_true rfl, Nat.le_of_ble_eq_true rfl, rfl, rfl⟩ (Nat.le_of_ble_eq_true rfl) dX6_fit_37 ?_
        exact v_iret hC hT (by rw [cfFit, if_pos ⟨h4, h11⟩, if_pos h31]) dX6_fit_40
    · refine v_aload_0 hC dX6_fit_14 ?_
      refine v_ldc hC kX6_44 dX6_fit_15 ?_
      refine v_cv1r hC lX6_45 ⟨by decide, 6, _, rfl, rfl, fun _ _ _ => ⟨_, rfl⟩⟩ (k_X6_finding _) ⟨Nat.le_of_ble_eq_true rfl, Nat.le_of_ble_eq_true rfl, rfl, rfl⟩ (Nat.le_of_ble_eq_true rfl) dX6_fit_17 ?_
      exact v_iret hC hT (by rw [cfFit, if_neg (fun q => h11 q.2)]) dX6_fit_20
theorem k_X6_squares {l : Launch} {E : ET} {σ μ : St} (hwc : WC σ) : Ct l E MX6_squares [.ref (adr E 0)] (σ) (μ) (some (.long (cSq σ))) (σ) (μ) := by
  refine Ct.of (L := [some (.ref (adr E 0))]) (by decide) rfl (Nat.le_of_ble_eq_true rfl) rfl (fun X hC hT => ?_)
  refine v_aload_0 hC dX6_squares_0 ?_
  refine v_get hC fX6_10 (by decide) rfl rfl dX6_squares_1 ?_
  refine v_cv0r hC lX6_276 ⟨by decide, 4, _, rfl, rfl, fun _ _ _ => ⟨_, rfl⟩⟩ (k_X4_sumOfSquares hwc) ⟨Nat.le_of_ble_eq_true rfl, Nat.le_of_ble_eq_true rfl, rfl, rfl⟩ (Nat.le_of_ble_eq_true rfl) dX6_squares_4 ?_
  exact v_lret hC hT rfl dX6_squares_7
theorem k_X6_keep {l : Launch} {E : ET} {σ μ : St} (hwc : WC σ) (hws : WS σ)  : Ct l E MX6_keep [.ref (adr E 0)] (σ) (μ) (some (.int (cfKeep σ).1)) ((cfKeep σ).2) (μ) := by
  have h10 := hwc.n10
  have l10 := hwc.l10
  refine Ct.of (L := [some (.ref (adr E 0))]) (by decide) rfl (Nat.le_of_ble_eq_true rfl) rfl (fun X hC hT => ?_)
  refine v_aload_0 hC dX6_keep_0 ?_
  refine v_get hC fX6_16 (by decide) rfl rfl dX6_keep_1 ?_
  refine v_aload_0 hC dX6_keep_4 ?_
  refine v_get hC fX6_10 (by decide) rfl rfl dX6_keep_5 ?_
  refine v_cv1 hC lX6_280 ⟨by decide, 4, _, rfl, rfl, fun _ _ _ => ⟨_, rfl⟩⟩ (k_X4_take_23) ⟨Nat.le_of_ble_eq_true rfl, Nat.le_of_ble_eq_true rfl, rfl, rfl⟩ (Nat.le_of_ble_eq_true rfl) dX6_keep_8 ?_
  refine v_aload_0 hC dX6_keep_11 ?_
  refine v_iconst hC dX6_keep_12 ic_1 ?_
  refine v_putZ1 hC pX6_19 (by decide) rfl (Nat.le_of_ble_eq_true rfl) rfl dX6_keep_13 ?_
  refine v_aload_0 hC dX6_keep_16 ?_
  refine v_get hC fX6_10 (by decide) rfl rfl dX6_keep_17 ?_
  refine v_get hC fX6_49 (by decide) rfl rfl dX6_keep_20 ?_
  refine v_get hC fX6_53 (by decide) rfl rfl dX6_keep_23 ?_
  exact v_iret hC hT (by rw [cfKeep]) dX6_keep_26
theorem k_X6_back {l : Launch} {E : ET} {σ μ : St} (hwc : WC σ) (hws : WS σ)  : Ct l E MX6_back [.ref (adr E 0)] (σ) (μ) (some (.int (cfBack σ).1)) ((cfBack σ).2) (μ) := by
  have h10 := hwc.n10
  have l10 := hwc.l10
  refine Ct.of (L := [some (.ref (adr E 0))]) (by decide) rfl (Nat.le_of_ble_eq_true rfl) rfl (fun X hC hT => ?_)
  refine v_aload_0 hC dX6_back_0 ?_
  refine v_get hC fX6_19 (by decide) rfl rfl dX6_back_1 ?_
  refine v_ifne (tgt := 14) hC dX6_back_4 (by decide) (fun h4 => ?_) (fun h4 => ?_)
  · refine v_aload_0 hC dX6_back_14 ?_
    refine v_get hC fX6_10 (by decide) rfl rfl dX6_back_15 ?_
    refine v_aload_0 hC dX6_back_18 ?_
    refine v_get hC fX6_16 (by decide) rfl rfl dX6_back_19 ?_
    refine v_cv1 hC lX6_280 ⟨by decide, 4, _, rfl, rfl, fun _ _ _ => ⟨_, rfl⟩⟩ (k_X4_take_1) ⟨Nat.le_of_ble_eq_true rfl, Nat.le_of_ble_eq_true rfl, rfl, rfl⟩ (Nat.le_of_ble_eq_true rfl) dX6_back_22 ?_
    refine v_aload_0 hC dX6_back_25 ?_
    refine v_get hC fX6_10 (by decide) rfl rfl dX6_back_26 ?_
    refine v_get hC fX6_49 (by decide) rfl rfl dX6_back_29 ?_
    refine v_get hC fX6_53 (by decide) rfl rfl dX6_back_32 ?_
    exact v_iret hC hT (by rw [cfBack, if_neg h4]) dX6_back_35
  · refine v_aload_0 hC dX6_back_7 ?_
    refine v_ldc hC kX6_205 dX6_back_8 ?_
    refine v_cv1r hC lX6_45 ⟨by decide, 6, _, rfl, rfl, fun _ _ _ => ⟨_, rfl⟩⟩ (k_X6_finding _) ⟨Nat.le_of_ble_eq_true rfl, Nat.le_of_ble_eq_true rfl, rfl, rfl⟩ (Nat.le_of_ble_eq_true rfl) dX6_back_10 ?_
    exact v_iret hC hT (by rw [cfBack, if_pos h4]) dX6_back_13
theorem k_X6_told {l : Launch} {E : ET} {σ μ : St} (hwc : WC σ) (hws : WS σ) (q : Int32) : Ct l E MX6_told [.ref (adr E 0), .int q] (σ) (μ) (some (.int (cfTold σ q).1)) ((cfTold σ q).2) (μ) := by
  have h10 := hwc.n10
  have l10 := hwc.l10
  refine Ct.of (L := [some (.ref (adr E 0)), some (.int q)]) (by decide) rfl (Nat.le_of_ble_eq_true rfl) rfl (fun X hC hT => ?_)
  refine v_iload_1 hC dX6_told_0 ?_
  by_cases g0 : q = nI 0
  · subst g0
    refine v_tabIn (tgt := 32) hC dX6_told_1 (by decide) (by decide) rfl (by decide) ?_
    refine v_aload_0 hC dX6_told_32 ?_
    refine v_get hC fX6_10 (by decide) rfl rfl dX6_told_33 ?_
    refine v_get hC fX6_49 (by decide) rfl rfl dX6_told_36 ?_
    refine v_get hC fX6_53 (by decide) rfl rfl dX6_told_39 ?_
    exact v_iret hC hT (by rw [cfTold, if_pos rfl]) dX6_told_42
  by_cases g1 : q = nI 1
  · subst g1
    refine v_tabIn (tgt := 43) hC dX6_told_1 (by decide) (by decide) rfl (by decide) ?_
    refine v_aload_0 hC dX6_told_43 ?_
    refine v_get hC fX6_10 (by decide) rfl rfl dX6_told_44 ?_
    refine v_get hC fX6_219 (by decide) rfl rfl dX6_told_47 ?_
    refine v_get hC fX6_223 (by decide) rfl rfl dX6_told_50 ?_
    exact v_iret hC hT (by rw [cfTold, if_neg (by decide), if_pos rfl]) dX6_told_53
  by_cases g2 : q = nI 2
  · subst g2
    refine v_tabIn (tgt := 54) hC dX6_told_1 (by decide) (by decide) rfl (by decide) ?_
    refine v_aload_0 hC dX6_told_54 ?_
    refine v_get hC fX6_10 (by decide) rfl rfl dX6_told_55 ?_
    refine v_get hC fX6_255 (by decide) rfl rfl dX6_told_58 ?_
    refine v_get hC fX6_264 (by decide) rfl rfl dX6_told_61 ?_
    exact v_iret hC hT (by rw [cfTold, if_neg (by decide), if_neg (by decide), if_pos rfl]) dX6_told_64
  by_cases g3 : q = nI 3
  · subst g3
    refine v_tabIn (tgt := 65) hC dX6_told_1 (by decide) (by decide) rfl (by decide) ?_
    refine v_aload_0 hC dX6_told_65 ?_
    refine v_get hC fX6_30 (by decide) rfl rfl dX6_told_66 ?_
    exact v_iret hC hT (by rw [cfTold, if_neg (by decide), if_neg (by decide), if_neg (by decide), if_pos rfl]) dX6_told_69
  refine v_tabOut (tgt := 70) hC dX6_told_1 (sw_out 3 (by decide) (fun j hj e => ?_)) (by decide) ?_
  · rcases (show j = 0 ∨ j = 1 ∨ j = 2 ∨ j = 3 by omega) with rfl | rfl | rfl | rfl
    · exact g0 e
    · exact g1 e
    · exact g2 e
    · exact g3 e
  refine v_aload_0 hC dX6_told_70 ?_
  refine v_ldc hC kX6_44 dX6_told_71 ?_
  refine v_cv1r hC lX6_45 ⟨by decide, 6, _, rfl, rfl, fun _ _ _ => ⟨_, rfl⟩⟩ (k_X6_finding _) ⟨Nat.le_of_ble_eq_true rfl, Nat.le_of_ble_eq_true rfl, rfl, rfl⟩ (Nat.le_of_ble_eq_true rfl) dX6_told_73 ?_
  exact v_iret hC hT (by rw [cfTold, if_neg g0, if_neg g1, if_neg g2, if_neg g3]) dX6_told_76
