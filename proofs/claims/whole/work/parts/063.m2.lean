theorem mwlt {μ : St} (hwm : WM μ) (h : ¬ μ 1 1086 = nI 10) : mN μ < 10 := by
  have := hwm.n10
  rcases Nat.lt_or_ge (mN μ) 10 with q | q
  · exact q
  · exact absurd (by rw [hwm.n, show mN μ = 10 by omega]) h
theorem mllt {μ : St} (hwm : WM μ) (h : ¬ μ 1 1087 = nI 10) : mL μ < 10 := by
  have := hwm.l10
  rcases Nat.lt_or_ge (mL μ) 10 with q | q
  · exact q
  · exact absurd (by rw [hwm.l, show mL μ = 10 by omega]) h
theorem k_X7_well {l : Launch} {E : ET} {σ μ : St} (hwm : WM μ) (k x y r : Int32) : Ct l E MX7_well [.ref (adr E 54), .int k, .int x, .int y, .int r] (σ) (μ) (some (.int (mfWell μ k x y r).1)) (σ) ((mfWell μ k x y r).2) := by
  have h10 := hwm.n10
  have l10 := hwm.l10
  refine Ct.of (L := [some (.ref (adr E 54)), some (.int k), some (.int x), some (.int y), some (.int r), none]) (by decide) rfl (Nat.le_of_ble_eq_true rfl) rfl (fun X hC hT => ?_)
  refine v_iload_1 hC dX7_well_0 ?_
  refine v_iconst hC dX7_well_1 ic_0 ?_
  refine v_iconst hC dX7_well_2 ic_5 ?_
  refine v_cs3r hC lX7_48 (k_X7_in _ _ _) ⟨Nat.le_of_ble_eq_true rfl, Nat.le_of_ble_eq_true rfl, rfl, rfl⟩ (Nat.le_of_ble_eq_true rfl) dX7_well_3 ?_
  refine v_ifeqb (tgt := 37) hC dX7_well_6 (by decide) (fun h6 => ?_) (fun h6 => ?_)
  · refine v_aload_0 hC dX7_well_37 ?_
    refine v_ldc hC kX7_62 dX7_well_38 ?_
    refine v_cv1r hC lX7_63 ⟨by decide, 7, _, rfl, rfl, fun _ _ _ => ⟨_, rfl⟩⟩ (k_X7_found _) ⟨Nat.le_of_ble_eq_true rfl, Nat.le_of_ble_eq_true rfl, rfl, rfl⟩ (Nat.le_of_ble_eq_true rfl) dX7_well_40 ?_
    exact v_iretM hC hT (by rw [mfWell, if_neg (fun q => h6 q.1)]) dX7_well_43
  · refine v_iload_2 hC dX7_well_9 ?_
    refine v_iconst hC dX7_well_10 ic_0 ?_
    refine v_bipush hC dX7_well_11 bp_30 ?_
    refine v_cs3r hC lX7_48 (k_X7_in _ _ _) ⟨Nat.le_of_ble_eq_true rfl, Nat.le_of_ble_eq_true rfl, rfl, rfl⟩ (Nat.le_of_ble_eq_true rfl) dX7_well_13 ?_
    refine v_ifeqb (tgt := 37) hC dX7_well_16 (by decide) (fun h16 => ?_) (fun h16 => ?_)
    · refine v_aload_0 hC dX7_well_37 ?_
      refine v_ldc hC kX7_62 dX7_well_38 ?_
      refine v_cv1r hC lX7_63 ⟨by decide, 7, _, rfl, rfl, fun _ _ _ => ⟨_, rfl⟩⟩ (k_X7_found _) ⟨Nat.le_of_ble_eq_true rfl, Nat.le_of_ble_eq_true rfl, rfl, rfl⟩ (Nat.le_of_ble_eq_true rfl) dX7_well_40 ?_
      exact v_iretM hC hT (by rw [mfWell, if_neg (fun q => h16 q.2.1)]) dX7_well_43
    · refine v_iload_3 hC dX7_well_19 ?_
      refine v_iconst hC dX7_well_20 ic_0 ?_
      refine v_bipush hC dX7_well_21 bp_30 ?_
      refine v_cs3r hC lX7_48 (k_X7_in _ _ _) ⟨Nat.le_of_ble_eq_true rfl, Nat.le_of_ble_eq_true rfl, rfl, rfl⟩ (Nat.le_of_ble_eq_true rfl) dX7_well_23 ?_
      refine v_ifeqb (tgt := 37) hC dX7_well_26 (by decide) (fun h26 => ?_) (fun h26 => ?_)
      · refine v_aload_0 hC dX7_well_37 ?_
        refine v_ldc hC kX7_62 dX7_well_38 ?_
        refine v_cv1r hC lX7_63 ⟨by decide, 7, _, rfl, rfl, fun _ _ _ => ⟨_, rfl⟩⟩ (k_X7_found _) ⟨Nat.le_of_ble_eq_true rfl, Nat.le_of_ble_eq_true rfl, rfl, rfl⟩ (Nat.le_of_ble_eq_true rfl) dX7_well_40 ?_
        exact v_iretM hC hT (by rw [mfWell, if_neg (fun q => h26 q.2.2.1)]) dX7_well_43
      · refine v_iload_4 hC dX7_well_29 ?_
        refine v_cs1r hC lX7_58 (k_X7_isHead _) ⟨Nat.le_of_ble_eq_true rfl, Nat.le_of_ble_eq_true rfl, rfl, rfl⟩ (Nat.le_of_ble_eq_true rfl) dX7_well_31 ?_
        refine v_ifneb (tgt := 44) hC dX7_well_34 (by decide) (fun h34 => ?_) (fun h34 => ?_)
        · refine v_aload_0 hC dX7_well_44 ?_
          refine v_cv0r hC lX7_44 ⟨by decide, 7, _, rfl, rfl, fun _ _ _ => ⟨_, rfl⟩⟩ (k_X7_wells) ⟨Nat.le_of_ble_eq_true rfl, Nat.le_of_ble_eq_true rfl, rfl, rfl⟩ (Nat.le_of_ble_eq_true rfl) dX7_well_45 ?_
          refine v_istore_5 hC (by decide) rfl dX7_well_48 ?_
          refine v_iload_5 hC dX7_well_50 ?_
          refine v_bipush hC dX7_well_52 bp_10 ?_
          refine v_icne (tgt := 64) hC dX7_well_54 (by decide) (fun h54 => ?_) (fun h54 => ?_)
          · have hn10 := mwlt hwm h54
            refine v_leq_5 hwm.n ?_
            refine v_aload_0 hC dX7_well_64 ?_
            refine v_get hC fX7_7 (by decide) rfl rfl dX7_well_65 ?_
            refine v_iconst hC dX7_well_68 ic_0 ?_
            refine v_iconst hC dX7_well_69 ic_5 ?_
            refine v_iload_5 hC dX7_well_70 ?_
            refine v_imulN hC dX7_well_72 ?_
            refine v_iaddN hC dX7_well_73 ?_
            refine v_iload_1 hC dX7_well_74 ?_
            refine w_iast (k := 1) hC N_1 (by first | omega | (simp only [mcl, mRd]; omega)) dX7_well_75 ?_
            refine v_aload_0 hC dX7_well_76 ?_
            refine v_get hC fX7_7 (by decide) rfl rfl dX7_well_77 ?_
            refine v_iconst hC dX7_well_80 ic_0 ?_
            refine v_iconst hC dX7_well_81 ic_5 ?_
            refine v_iload_5 hC dX7_well_82 ?_
            refine v_imulN hC dX7_well_84 ?_
            refine v_iaddN hC dX7_well_85 ?_
            refine v_iconst hC dX7_well_86 ic_1 ?_
            refine v_iaddN hC dX7_well_87 ?_
            refine v_iload_2 hC dX7_well_88 ?_
            refine w_iast (k := 1) hC N_1 (by first | omega | (simp only [mcl, mRd]; omega)) dX7_well_89 ?_
            refine v_aload_0 hC dX7_well_90 ?_
            refine v_get hC fX7_7 (by decide) rfl rfl dX7_well_91 ?_
            refine v_iconst hC dX7_well_94 ic_0 ?_
            refine v_iconst hC dX7_well_95 ic_5 ?_
            refine v_iload_5 hC dX7_well_96 ?_
            refine v_imulN hC dX7_well_98 ?_
            refine v_iaddN hC dX7_well_99 ?_
            refine v_iconst hC dX7_well_100 ic_2 ?_
            refine v_iaddN hC dX7_well_101 ?_
            refine v_iload_3 hC dX7_well_102 ?_
            refine w_iast (k := 1) hC N_1 (by first | omega | (simp only [mcl, mRd]; omega)) dX7_well_103 ?_
            refine v_aload_0 hC dX7_well_104 ?_
            refine v_get hC fX7_7 (by decide) rfl rfl dX7_well_105 ?_
            refine v_iconst hC dX7_well_108 ic_0 ?_
            refine v_iconst hC dX7_well_109 ic_5 ?_
            refine v_iload_5 hC dX7_well_110 ?_
            refine v_imulN hC dX7_well_112 ?_
            refine v_iaddN hC dX7_well_113 ?_
            refine v_iconst hC dX7_well_114 ic_3 ?_
            refine v_iaddN hC dX7_well_115 ?_
            refine v_iload_4 hC dX7_well_116 ?_
            refine w_iast (k := 1) hC N_1 (by first | omega | (simp only [mcl, mRd]; omega)) dX7_well_118 ?_
            refine v_aload_0 hC dX7_well_119 ?_
            refine v_get hC fX7_7 (by decide) rfl rfl dX7_well_120 ?_
            refine v_iconst hC dX7_well_123 ic_0 ?_
            refine v_iconst hC dX7_well_124 ic_5 ?_
            refine v_iload_5 hC dX7_well_125 ?_
            refine v_imulN hC dX7_well_127 ?_
            refine v_iaddN hC dX7_well_128 ?_
            refine v_iconst hC dX7_well_129 ic_4 ?_
            refine v_iaddN hC dX7_well_130 ?_
            refine v_ldc hC kX7_52 dX7_well_131 ?_
            refine w_iast (k := 1) hC N_1 (by first | omega | (simp only [mcl, mRd]; omega)) dX7_well_133 ?_
            refine v_aload_0 hC dX7_well_134 ?_
            refine v_get hC fX7_7 (by decide) rfl rfl dX7_well_135 ?_
            refine v_sipush hC dX7_well_138 sp_1086 ?_
            refine v_dup2 hC rfl rfl dX7_well_141 ?_
            refine w_iald (k := 1) hC N_1 (by first | omega | (simp only [mcl, mRd]; omega)) dX7_well_142 ?_
            refine v_iconst hC dX7_well_143 ic_1 ?_
            refine v_iadd hC dX7_well_144 ?_
            refine w_iast (k := 1) hC N_1 (by first | omega | (simp only [mcl, mRd]; omega)) dX7_well_145 ?_
            refine v_iload_5 hC dX7_well_146 ?_
            exact v_iretM hC hT (by rw [mfWell, if_pos ⟨h6, h16, h26, h34⟩, if_neg h54, mWell, mWellT]) dX7_well_148
          · refine v_aload_0 hC dX7_well_57 ?_
            refine v_ldc hC kX7_67 dX7_well_58 ?_
            refine v_cv1r hC lX7_63 ⟨by decide, 7, _, rfl, rfl, fun _ _ _ => ⟨_, rfl⟩⟩ (k_X7_found _) ⟨Nat.le_of_ble_eq_true rfl, Nat.le_of_ble_eq_true rfl, rfl, rfl⟩ (Nat.le_of_ble_eq_true rfl) dX7_well_60 ?_
            exact v_iretM hC hT (by rw [mfWell, if_pos ⟨h6, h16, h26, h34⟩, if_pos h54]) dX7_well_63
        · refine v_aload_0 hC dX7_well_37 ?_
          refine v_ldc hC kX7_62 dX7_well_38 ?_
          refine v_cv1r hC lX7_63 ⟨by decide, 7, _, rfl, rfl, fun _ _ _ => ⟨_, rfl⟩⟩ (k_X7_found _) ⟨Nat.le_of_ble_eq_true rfl, Nat.le_of_ble_eq_true rfl, rfl, rfl⟩ (Nat.le_of_ble_eq_true rfl) dX7_well_40 ?_
          exact v_iretM hC hT (by rw [mfWell, if_neg (fun q => h34 q.2.2.2)]) dX7_well_43
theorem k_X7_limit {l : Launch} {E : ET} {σ μ : St} (hwm : WM μ) (w v : Int32) : Ct l E MX7_limit [.ref (adr E 54), .int w, .int v] (σ) (μ) (some (.int (mfLimit μ w v).1)) (σ) ((mfLimit μ w v).2) := by
  have h10 := hwm.n10
  have l10 := hwm.l10
  refine Ct.of (L := [some (.ref (adr E 54)), some (.int w), some (.int v), none]) (by decide) rfl (Nat.le_of_ble_eq_true rfl) rfl (fun X hC hT => ?_)
  refine v_aload_0 hC dX7_limit_0 ?_
  refine v_iload_1 hC dX7_limit_1 ?_
  refine v_cv1r hC lX7_68 ⟨by decide, 7, _, rfl, rfl, fun _ _ _ => ⟨_, rfl⟩⟩ (k_X7_isWell _) ⟨Nat.le_of_ble_eq_true rfl, Nat.le_of_ble_eq_true rfl, rfl, rfl⟩ (Nat.le_of_ble_eq_true rfl) dX7_limit_2 ?_
  refine v_ifeqb (tgt := 15) hC dX7_limit_5 (by decide) (fun h5 => ?_) (fun h5 => ?_)
  · refine v_aload_0 hC dX7_limit_15 ?_
    refine v_ldc hC kX7_62 dX7_limit_16 ?_
    refine v_cv1r hC lX7_63 ⟨by decide, 7, _, rfl, rfl, fun _ _ _ => ⟨_, rfl⟩⟩ (k_X7_found _) ⟨Nat.le_of_ble_eq_true rfl, Nat.le_of_ble_eq_true rfl, rfl, rfl⟩ (Nat.le_of_ble_eq_true rfl) dX7_limit_18 ?_
    exact v_iretM hC hT (by rw [mfLimit, if_neg (fun q => h5 q.1)]) dX7_limit_21
  · refine v_iload_2 hC dX7_limit_8 ?_
    refine v_cs1r hC lX7_58 (k_X7_isHead _) ⟨Nat.le_of_ble_eq_true rfl, Nat.le_of_ble_eq_true rfl, rfl, rfl⟩ (Nat.le_of_ble_eq_true rfl) dX7_limit_9 ?_
    refine v_ifneb (tgt := 22) hC dX7_limit_12 (by decide) (fun h12 => ?_) (fun h12 => ?_)
    · obtain ⟨w, hw, rfl⟩ := isMW_nat hwm h5
      refine v_aload_0 hC dX7_limit_22 ?_
      refine v_iload_1 hC dX7_limit_23 ?_
      refine v_iconst hC dX7_limit_24 ic_4 ?_
      refine v_cv2r hC lX7_54 ⟨by decide, 7, _, rfl, rfl, fun _ _ _ => ⟨_, rfl⟩⟩ (k_X7_told0 (by omega) (by omega)) ⟨Nat.le_of_ble_eq_true rfl, Nat.le_of_ble_eq_true rfl, rfl, rfl⟩ (Nat.le_of_ble_eq_true rfl) dX7_limit_25 ?_
      refine v_istore_3 hC (by decide) rfl dX7_limit_28 ?_
      refine v_aload_0 hC dX7_limit_29 ?_
      refine v_get hC fX7_7 (by decide) rfl rfl dX7_limit_30 ?_
      refine v_iconst hC dX7_limit_33 ic_0 ?_
      refine v_iconst hC dX7_limit_34 ic_5 ?_
      refine v_iload_1 hC dX7_limit_35 ?_
      refine v_imulN hC dX7_limit_36 ?_
      refine v_iaddN hC dX7_limit_37 ?_
      refine v_iconst hC dX7_limit_38 ic_4 ?_
      refine v_iaddN hC dX7_limit_39 ?_
      refine v_iload_2 hC dX7_limit_40 ?_
      refine w_iast (k := 1) hC N_1 (by first | omega | (simp only [mcl, mRd]; omega)) dX7_limit_41 ?_
      refine v_iload_3 hC dX7_limit_42 ?_
      exact v_iretM hC hT (by rw [mfLimit, if_pos ⟨h5, h12⟩, tnI (j := w) (by omega)]) dX7_limit_43
    · refine v_aload_0 hC dX7_limit_15 ?_
      refine v_ldc hC kX7_62 dX7_limit_16 ?_
      refine v_cv1r hC lX7_63 ⟨by decide, 7, _, rfl, rfl, fun _ _ _ => ⟨_, rfl⟩⟩ (k_X7_found _) ⟨Nat.le_of_ble_eq_true rfl, Nat.le_of_ble_eq_true rfl, rfl, rfl⟩ (Nat.le_of_ble_eq_true rfl) dX7_limit_18 ?_
      exact v_iretM hC hT (by rw [mfLimit, if_neg (fun q => h12 q.2)]) dX7_limit_21
theorem k_X7_as {l : Launch} {E : ET} {σ μ : St} (hwm : WM μ) (w k : Int32) : Ct l E MX7_as [.ref (adr E 54), .int w, .int k] (σ) (μ) (some (.int (mfAs μ w k).1)) (σ) ((mfAs μ w k).2) := by
  have h10 := hwm.n10
  have l10 := hwm.l10
  refine Ct.of (L := [some (.ref (adr E 54)), some (.int w), some (.int k), none, none]) (by decide) rfl (Nat.le_of_ble_eq_true rfl) rfl (fun X hC hT => ?_)
  refine v_aload_0 hC dX7_as_0 ?_
  refine v_iload_1 hC dX7_as_1 ?_
  refine v_cv1r hC lX7_68 ⟨by decide, 7, _, rfl, rfl, fun _ _ _ => ⟨_, rfl⟩⟩ (k_X7_isWell _) ⟨Nat.le_of_ble_eq_true rfl, Nat.le_of_ble_eq_true rfl, rfl, rfl⟩ (Nat.le_of_ble_eq_true rfl) dX7_as_2 ?_
  refine v_ifeqb (tgt := 17) hC dX7_as_5 (by decide) (fun h5 => ?_) (fun h5 => ?_)
  · refine v_aload_0 hC dX7_as_17 ?_
    refine v_ldc hC kX7_62 dX7_as_18 ?_
    refine v_cv1r hC lX7_63 ⟨by decide, 7, _, rfl, rfl, fun _ _ _ => ⟨_, rfl⟩⟩ (k_X7_found _) ⟨Nat.le_of_ble_eq_true rfl, Nat.le_of_ble_eq_true rfl, rfl, rfl⟩ (Nat.le_of_ble_eq_true rfl) dX7_as_20 ?_
    exact v_iretM hC hT (by rw [mfAs, if_neg (fun q => h5 q.1)]) dX7_as_23
  · refine v_iload_2 hC dX7_as_8 ?_
    refine v_iconst hC dX7_as_9 ic_0 ?_
    refine v_iconst hC dX7_as_10 ic_5 ?_
    refine v_cs3r hC lX7_48 (k_X7_in _ _ _) ⟨Nat.le_of_ble_eq_true rfl, Nat.le_of_ble_eq_true rfl, rfl, rfl⟩ (Nat.le_of_ble_eq_true rfl) dX7_as_11 ?_
    refine v_ifneb (tgt := 24) hC dX7_as_14 (by decide) (fun h14 => ?_) (fun h14 => ?_)
    · obtain ⟨w, hw, rfl⟩ := isMW_nat hwm h5
      refine v_aload_0 hC dX7_as_24 ?_
      refine v_iload_1 hC dX7_as_25 ?_
      refine v_cv1r hC lX7_71 ⟨by decide, 7, _, rfl, rfl, fun _ _ _ => ⟨_, rfl⟩⟩ (k_X7_kindOf (by omega)) ⟨Nat.le_of_ble_eq_true rfl, Nat.le_of_ble_eq_true rfl, rfl, rfl⟩ (Nat.le_of_ble_eq_true rfl) dX7_as_26 ?_
      refine v_istore_3 hC (by decide) rfl dX7_as_29 ?_
      refine v_iload_2 hC dX7_as_30 ?_
      refine v_ifeq (tgt := 49) hC dX7_as_31 (by decide) (fun h31 => ?_) (fun h31 => ?_)
      · refine v_iconst hC dX7_as_49 ic_1 ?_
        refine v_goto (tgt := 54) hC dX7_as_50 (by decide) ?_
        refine v_istore_4 hC (by decide) rfl dX7_as_54 ?_
        refine v_iload_4 hC dX7_as_56 ?_
        refine v_ifeq (tgt := 65) hC dX7_as_58 (by decide) (fun h58 => absurd h58 (by decide)) (fun h58 => ?_)
        refine v_iload_1 hC dX7_as_61 ?_
        refine v_goto (tgt := 71) hC dX7_as_62 (by decide) ?_
        exact v_iretM hC hT (by rw [mfAs, if_pos ⟨h5, h14⟩, tnI (j := w) (by omega), if_pos (Or.inl h31)]) dX7_as_71
      · refine v_iload_2 hC dX7_as_34 ?_
        refine v_iload_3 hC dX7_as_35 ?_
        refine v_iceq (tgt := 49) hC dX7_as_36 (by decide) (fun h36 => ?_) (fun h36 => ?_)
        · refine v_iconst hC dX7_as_49 ic_1 ?_
          refine v_goto (tgt := 54) hC dX7_as_50 (by decide) ?_
          refine v_istore_4 hC (by decide) rfl dX7_as_54 ?_
          refine v_iload_4 hC dX7_as_56 ?_
          refine v_ifeq (tgt := 65) hC dX7_as_58 (by decide) (fun h58 => absurd h58 (by decide)) (fun h58 => ?_)
          refine v_iload_1 hC dX7_as_61 ?_
          refine v_goto (tgt := 71) hC dX7_as_62 (by decide) ?_
          exact v_iretM hC hT (by rw [mfAs, if_pos ⟨h5, h14⟩, tnI (j := w) (by omega), if_pos (Or.inr (Or.inl h36))]) dX7_as_71
        · refine v_iload_3 hC dX7_as_39 ?_
          refine v_iconst hC dX7_as_40 ic_4 ?_
          refine v_icne (tgt := 53) hC dX7_as_41 (by decide) (fun h41 => ?_) (fun h41 => ?_)
          · refine v_iconst hC dX7_as_53 ic_0 ?_
            refine v_istore_4 hC (by decide) rfl dX7_as_54 ?_
            refine v_iload_4 hC dX7_as_56 ?_
            refine v_ifeq (tgt := 65) hC dX7_as_58 (by decide) (fun h58 => ?_) (fun h58 => absurd (by decide) h58)
            refine v_aload_0 hC dX7_as_65 ?_
            refine v_ldc hC kX7_74 dX7_as_66 ?_
            refine v_cv1r hC lX7_63 ⟨by decide, 7, _, rfl, rfl, fun _ _ _ => ⟨_, rfl⟩⟩ (k_X7_found _) ⟨Nat.le_of_ble_eq_true rfl, Nat.le_of_ble_eq_true rfl, rfl, rfl⟩ (Nat.le_of_ble_eq_true rfl) dX7_as_68 ?_
            exact v_iretM hC hT (by rw [mfAs, if_pos ⟨h5, h14⟩, tnI (j := w) (by omega), if_neg (fun q => q.elim h31 (fun q => q.elim h36 (fun q => h41 q.1)))]) dX7_as_71
          · refine v_iload_2 hC dX7_as_44 ?_
            refine v_iconst hC dX7_as_45 ic_3 ?_
            refine v_icne (tgt := 53) hC dX7_as_46 (by decide) (fun h46 => ?_) (fun h46 => ?_)
            · refine v_iconst hC dX7_as_53 ic_0 ?_
              refine v_istore_4 hC (by decide) rfl dX7_as_54 ?_
              refine v_iload_4 hC dX7_as_56 ?_
              refine v_ifeq (tgt := 65) hC dX7_as_58 (by decide) (fun h58 => ?_) (fun h58 => absurd (by decide) h58)
              refine v_aload_0 hC dX7_as_65 ?_
              refine v_ldc hC kX7_74 dX7_as_66 ?_
              refine v_cv1r hC lX7_63 ⟨by decide, 7, _, rfl, rfl, fun _ _ _ => ⟨_, rfl⟩⟩ (k_X7_found _) ⟨Nat.le_of_ble_eq_true rfl, Nat.le_of_ble_eq_true rfl, rfl, rfl⟩ (Nat.le_of_ble_eq_true rfl) dX7_as_68 ?_
              exact v_iretM hC hT (by rw [mfAs, if_pos ⟨h5, h14⟩, tnI (j := w) (by omega), if_neg (fun q => q.elim h31 (fun q => q.elim h36 (fun q => h46 q.2)))]) dX7_as_71
            · refine v_iconst hC dX7_as_49 ic_1 ?_
              refine v_goto (tgt := 54) hC dX7_as_50 (by decide) ?_
              refine v_istore_4 hC (by decide) rfl dX7_as_54 ?_
              refine v_iload_4 hC dX7_as_56 ?_
              refine v_ifeq (tgt := 65) hC dX7_as_58 (by decide) (fun h58 => absurd h58 (by decide)) (fun h58 => ?_)
              refine v_iload_1 hC dX7_as_61 ?_
              refine v_goto (tgt := 71) hC dX7_as_62 (by decide) ?_
              exact v_iretM hC hT (by rw [mfAs, if_pos ⟨h5, h14⟩, tnI (j := w) (by omega), if_pos (Or.inr (Or.inr ⟨h41, h46⟩))]) dX7_as_71
    · refine v_aload_0 hC dX7_as_17 ?_
      refine v_ldc hC kX7_62 dX7_as_18 ?_
      refine v_cv1r hC lX7_63 ⟨by decide, 7, _, rfl, rfl, fun _ _ _ => ⟨_, rfl⟩⟩ (k_X7_found _) ⟨Nat.le_of_ble_eq_true rfl, Nat.le_of_ble_eq_true rfl, rfl, rfl⟩ (Nat.le_of_ble_eq_true rfl) dX7_as_20 ?_
      exact v_iretM hC hT (by rw [mfAs, if_neg (fun q => h14 q.2)]) dX7_as_23
theorem k_X7_of {l : Launch} {E : ET} {σ μ : St} (hwm : WM μ) (w q : Int32) : Ct l E MX7_of [.ref (adr E 54), .int w, .int q] (σ) (μ) (some (.int (mfOf μ w q).1)) (σ) ((mfOf μ w q).2) := by
  have h10 := hwm.n10
  have l10 := hwm.l10
  refine Ct.of (L := [some (.ref (adr E 54)), some (.int w), some (.int q), none, none]) (by decide) rfl (Nat.le_of_ble_eq_true rfl) rfl (fun X hC hT => ?_)
  refine v_aload_0 hC dX7_of_0 ?_
  refine v_iload_1 hC dX7_of_1 ?_
  refine v_cv1r hC lX7_68 ⟨by decide, 7, _, rfl, rfl, fun _ _ _ => ⟨_, rfl⟩⟩ (k_X7_isWell _) ⟨Nat.le_of_ble_eq_true rfl, Nat.le_of_ble_eq_true rfl, rfl, rfl⟩ (Nat.le_of_ble_eq_true rfl) dX7_of_2 ?_
  refine v_ifeqb (tgt := 17) hC dX7_of_5 (by decide) (fun h5 => ?_) (fun h5 => ?_)
  · refine v_aload_0 hC dX7_of_17 ?_
    refine v_ldc hC kX7_62 dX7_of_18 ?_
    refine v_cv1r hC lX7_63 ⟨by decide, 7, _, rfl, rfl, fun _ _ _ => ⟨_, rfl⟩⟩ (k_X7_found _) ⟨Nat.le_of_ble_eq_true rfl, Nat.le_of_ble_eq_true rfl, rfl, rfl⟩ (Nat.le_of_ble_eq_true rfl) dX7_of_20 ?_
    exact v_iretM hC hT (by rw [mfOf, if_neg (fun q => h5 q.1)]) dX7_of_23
  · refine v_iload_2 hC dX7_of_8 ?_
    refine v_iconst hC dX7_of_9 ic_0 ?_
    refine v_iconst hC dX7_of_10 ic_5 ?_
    refine v_cs3r hC lX7_48 (k_X7_in _ _ _) ⟨Nat.le_of_ble_eq_true rfl, Nat.le_of_ble_eq_true rfl, rfl, rfl⟩ (Nat.le_of_ble_eq_true rfl) dX7_of_11 ?_
    refine v_ifneb (tgt := 24) hC dX7_of_14 (by decide) (fun h14 => ?_) (fun h14 => ?_)
    · obtain ⟨w, hw, rfl⟩ := isMW_nat hwm h5
      refine v_iload_2 hC dX7_of_24 ?_
      refine v_iconst hC dX7_of_25 ic_5 ?_
      refine v_icge (tgt := 36) hC dX7_of_26 (by decide) (fun h26 => ?_) (fun h26 => ?_)
      · refine v_iconst hC dX7_of_36 ic_0 ?_
        refine v_istore_3 hC (by decide) rfl dX7_of_37 ?_
        refine v_iconst hC dX7_of_38 ic_0 ?_
        refine v_istore_4 hC (by decide) rfl dX7_of_39 ?_
        refine up_loop (fun d : Nat => V X E 41 [some (.ref (adr E 54)), some (.int (nI w)), some (.int q), some (.int (it0 (fun m a => a + mDr μ w m) d (nI 0))), some (.int (nI d))] [] (σ) (μ)) (Nat.zero_le (24)) ?_ (fun d _ hd ih => ?_)
        · refine v_iload_4 hC dX7_of_41 ?_
          refine v_bipush hC dX7_of_43 bp_24 ?_
          refine v_icge (tgt := 64) hC dX7_of_45 (by decide) (fun h45 => ?_) (fun h45 => absurd (Int32.le_refl _) h45)
          refine v_iload_3 hC dX7_of_64 ?_
          exact v_iretM hC hT (by rw [mfOf, if_pos ⟨h5, h14⟩, if_pos h26, tnI (j := w) (by omega)]; rfl) dX7_of_65
        · refine v_iload_4 hC dX7_of_41 ?_
          refine v_bipush hC dX7_of_43 bp_24 ?_
          refine v_icge (tgt := 64) hC dX7_of_45 (by decide) (fun h45 => absurd h45 (nI_ge hd (by decide))) (fun h45 => ?_)
          refine v_iload_3 hC dX7_of_48 ?_
          refine v_aload_0 hC dX7_of_49 ?_
          refine v_iload_1 hC dX7_of_50 ?_
          refine v_iload_4 hC dX7_of_51 ?_
          refine v_cv2r hC lX7_75 ⟨by decide, 7, _, rfl, rfl, fun _ _ _ => ⟨_, rfl⟩⟩ (k_X7_drawOf (by omega) (by omega)) ⟨Nat.le_of_ble_eq_true rfl, Nat.le_of_ble_eq_true rfl, rfl, rfl⟩ (Nat.le_of_ble_eq_true rfl) dX7_of_53 ?_
          refine v_iadd hC dX7_of_56 ?_
          refine v_istore_3 hC (by decide) rfl dX7_of_57 ?_
          refine v_iinc1_4 hC (by decide) rfl dX7_of_58 ?_
          refine v_goto (tgt := 41) hC dX7_of_61 (by decide) ?_
          exact ih
      · obtain ⟨q, hq, rfl⟩ := isR_nat (by decide) h14
        have hq5 : q < 5 := by rcases Nat.lt_or_ge q 5 with z | z; exact z; exact absurd (nI_le z (by omega)) h26
        refine v_aload_0 hC dX7_of_29 ?_
        refine v_iload_1 hC dX7_of_30 ?_
        refine v_iload_2 hC dX7_of_31 ?_
        refine v_cv2r hC lX7_54 ⟨by decide, 7, _, rfl, rfl, fun _ _ _ => ⟨_, rfl⟩⟩ (k_X7_told0 (by omega) (by omega)) ⟨Nat.le_of_ble_eq_true rfl, Nat.le_of_ble_eq_true rfl, rfl, rfl⟩ (Nat.le_of_ble_eq_true rfl) dX7_of_32 ?_
        exact v_iretM hC hT (by rw [mfOf, if_pos ⟨h5, h14⟩, if_neg h26, tnI (j := w) (by omega), tnI (j := q) (by omega)]) dX7_of_35
    · refine v_aload_0 hC dX7_of_17 ?_
      refine v_ldc hC kX7_62 dX7_of_18 ?_
      refine v_cv1r hC lX7_63 ⟨by decide, 7, _, rfl, rfl, fun _ _ _ => ⟨_, rfl⟩⟩ (k_X7_found _) ⟨Nat.le_of_ble_eq_true rfl, Nat.le_of_ble_eq_true rfl, rfl, rfl⟩ (Nat.le_of_ble_eq_true rfl) dX7_of_20 ?_
      exact v_iretM hC hT (by rw [mfOf, if_neg (fun q => h14 q.2)]) dX7_of_23
theorem k_X7_distance {l : Launch} {E : ET} {σ μ : St} (hwm : WM μ) (x y : Int32) : Ct l E MX7_distance [.ref (adr E 54), .int x, .int y] (σ) (μ) (some (.int (mfDist μ x y).1)) (σ) ((mfDist μ x y).2) := by
  have h10 := hwm.n10
  have l10 := hwm.l10
  refine Ct.of (L := [some (.ref (adr E 54)), some (.int x), some (.int y)]) (by decide) rfl (Nat.le_of_ble_eq_true rfl) rfl (fun X hC hT => ?_)
  refine v_aload_0 hC dX7_distance_0 ?_
  refine v_iload_1 hC dX7_distance_1 ?_
  refine v_cv1r hC lX7_68 ⟨by decide, 7, _, rfl, rfl, fun _ _ _ => ⟨_, rfl⟩⟩ (k_X7_isWell _) ⟨Nat.le_of_ble_eq_true rfl, Nat.le_of_ble_eq_true rfl, rfl, rfl⟩ (Nat.le_of_ble_eq_true rfl) dX7_distance_2 ?_
  refine v_ifeqb (tgt := 25) hC dX7_distance_5 (by decide) (fun h5 => ?_) (fun h5 => ?_)
  · refine v_aload_0 hC dX7_distance_25 ?_
    refine v_ldc hC kX7_62 dX7_distance_26 ?_
    refine v_cv1r hC lX7_63 ⟨by decide, 7, _, rfl, rfl, fun _ _ _ => ⟨_, rfl⟩⟩ (k_X7_found _) ⟨Nat.le_of_ble_eq_true rfl, Nat.le_of_ble_eq_true rfl, rfl, rfl⟩ (Nat.le_of_ble_eq_true rfl) dX7_distance_28 ?_
    exact v_iretM hC hT (by rw [mfDist, if_neg (fun q => h5 q.1)]) dX7_distance_31
  · refine v_aload_0 hC dX7_distance_8 ?_
    refine v_iload_2 hC dX7_distance_9 ?_
    refine v_cv1r hC lX7_68 ⟨by decide, 7, _, rfl, rfl, fun _ _ _ => ⟨_, rfl⟩⟩ (k_X7_isWell _) ⟨Nat.le_of_ble_eq_true rfl, Nat.le_of_ble_eq_true rfl, rfl, rfl⟩ (Nat.le_of_ble_eq_true rfl) dX7_distance_10 ?_
    refine v_ifeqb (tgt := 25) hC dX7_distance_13 (by decide) (fun h13 => ?_) (fun h13 => ?_)
    · refine v_aload_0 hC dX7_distance_25 ?_
      refine v_ldc hC kX7_62 dX7_distance_26 ?_
      refine v_cv1r hC lX7_63 ⟨by decide, 7, _, rfl, rfl, fun _ _ _ => ⟨_, rfl⟩⟩ (k_X7_found _) ⟨Nat.le_of_ble_eq_true rfl, Nat.le_of_ble_eq_true rfl, rfl, rfl⟩ (Nat.le_of_ble_eq_true rfl) dX7_distance_28 ?_
      exact v_iretM hC hT (by rw [mfDist, if_neg (fun q => h13 q.2)]) dX7_distance_31
    · obtain ⟨x, hx, rfl⟩ := isMW_nat hwm h5
      obtain ⟨y, hy, rfl⟩ := isMW_nat hwm h13
      refine v_aload_0 hC dX7_distance_16 ?_
      refine v_iload_1 hC dX7_distance_17 ?_
      refine v_iload_2 hC dX7_distance_18 ?_
      refine v_cv2r hC lX7_78 ⟨by decide, 7, _, rfl, rfl, fun _ _ _ => ⟨_, rfl⟩⟩ (k_X7_apart hwm (by omega) (by omega)) ⟨Nat.le_of_ble_eq_true rfl, Nat.le_of_ble_eq_true rfl, rfl, rfl⟩ (Nat.le_of_ble_eq_true rfl) dX7_distance_19 ?_
      refine v_goto (tgt := 31) hC dX7_distance_22 (by decide) ?_
      exact v_iretM hC hT (by rw [mfDist, if_pos ⟨h5, h13⟩, tnI (j := x) (by omega), tnI (j := y) (by omega)]) dX7_distance_31
theorem k_X7_table {l : Launch} {E : ET} {σ μ : St} (hwm : WM μ) (i d g v : Int32) : Ct l E MX7_table [.ref (adr E 54), .int i, .int d, .int g, .int v] (σ) (μ) (some (.int (mfTable μ i d g v).1)) (σ) ((mfTable μ i d g v).2) := by
  have h10 := hwm.n10
  have l10 := hwm.l10
  refine Ct.of (L := [some (.ref (adr E 54)), some (.int i), some (.int d), some (.int g), some (.int v), none]) (by decide) rfl (Nat.le_of_ble_eq_true rfl) rfl (fun X hC hT => ?_)
  refine v_iload_1 hC dX7_table_0 ?_
  refine v_iconst hC dX7_table_1 ic_0 ?_
  refine v_iconst hC dX7_table_2 ic_1 ?_
  refine v_cs3r hC lX7_48 (k_X7_in _ _ _) ⟨Nat.le_of_ble_eq_true rfl, Nat.le_of_ble_eq_true rfl, rfl, rfl⟩ (Nat.le_of_ble_eq_true rfl) dX7_table_3 ?_
  refine v_ifeqb (tgt := 41) hC dX7_table_6 (by decide) (fun h6 => ?_) (fun h6 => ?_)
  · refine v_aload_0 hC dX7_table_41 ?_
    refine v_ldc hC kX7_62 dX7_table_42 ?_
    refine v_cv1r hC lX7_63 ⟨by decide, 7, _, rfl, rfl, fun _ _ _ => ⟨_, rfl⟩⟩ (k_X7_found _) ⟨Nat.le_of_ble_eq_true rfl, Nat.le_of_ble_eq_true rfl, rfl, rfl⟩ (Nat.le_of_ble_eq_true rfl) dX7_table_44 ?_
    exact v_iretM hC hT (by rw [mfTable, if_neg (fun q => h6 q.1)]) dX7_table_47
  · refine v_iload_2 hC dX7_table_9 ?_
    refine v_iconst hC dX7_table_10 ic_0 ?_
    refine v_bipush hC dX7_table_11 bp_9 ?_
    refine v_cs3r hC lX7_48 (k_X7_in _ _ _) ⟨Nat.le_of_ble_eq_true rfl, Nat.le_of_ble_eq_true rfl, rfl, rfl⟩ (Nat.le_of_ble_eq_true rfl) dX7_table_13 ?_
    refine v_ifeqb (tgt := 41) hC dX7_table_16 (by decide) (fun h16 => ?_) (fun h16 => ?_)
    · refine v_aload_0 hC dX7_table_41 ?_
      refine v_ldc hC kX7_62 dX7_table_42 ?_
      refine v_cv1r hC lX7_63 ⟨by decide, 7, _, rfl, rfl, fun _ _ _ => ⟨_, rfl⟩⟩ (k_X7_found _) ⟨Nat.le_of_ble_eq_true rfl, Nat.le_of_ble_eq_true rfl, rfl, rfl⟩ (Nat.le_of_ble_eq_true rfl) dX7_table_44 ?_
      exact v_iretM hC hT (by rw [mfTable, if_neg (fun q => h16 q.2.1)]) dX7_table_47
    · refine v_iload_3 hC dX7_table_19 ?_
      refine v_iconst hC dX7_table_20 ic_0 ?_
      refine v_bipush hC dX7_table_21 bp_11 ?_
      refine v_cs3r hC lX7_48 (k_X7_in _ _ _) ⟨Nat.le_of_ble_eq_true rfl, Nat.le_of_ble_eq_true rfl, rfl, rfl⟩ (Nat.le_of_ble_eq_true rfl) dX7_table_23 ?_
      refine v_ifeqb (tgt := 41) hC dX7_table_26 (by decide) (fun h26 => ?_) (fun h26 => ?_)
      · refine v_aload_0 hC dX7_table_41 ?_
        refine v_ldc hC kX7_62 dX7_table_42 ?_
        refine v_cv1r hC lX7_63 ⟨by decide, 7, _, rfl, rfl, fun _ _ _ => ⟨_, rfl⟩⟩ (k_X7_found _) ⟨Nat.le_of_ble_eq_true rfl, Nat.le_of_ble_eq_true rfl, rfl, rfl⟩ (Nat.le_of_ble_eq_true rfl) dX7_table_44 ?_
        exact v_iretM hC hT (by rw [mfTable, if_neg (fun q => h26 q.2.2.1)]) dX7_table_47
      · refine v_iload_4 hC dX7_table_29 ?_
        refine v_iconst hC dX7_table_31 ic_0 ?_
        refine v_sipush hC dX7_table_32 sp_1000 ?_
        refine v_cs3r hC lX7_48 (k_X7_in _ _ _) ⟨Nat.le_of_ble_eq_true rfl, Nat.le_of_ble_eq_true rfl, rfl, rfl⟩ (Nat.le_of_ble_eq_true rfl) dX7_table_35 ?_
        refine v_ifneb (tgt := 48) hC dX7_table_38 (by decide) (fun h38 => ?_) (fun h38 => ?_)
        · obtain ⟨i, hi, rfl⟩ := isR_nat (by decide) h6
          obtain ⟨d, hd, rfl⟩ := isR_nat (by decide) h16
          obtain ⟨g, hg, rfl⟩ := isR_nat (by decide) h26
          refine v_iload_2 hC dX7_table_48 ?_
          refine v_ifle (tgt := 70) hC dX7_table_49 (by decide) (fun h49 => ?_) (fun h49 => ?_)
          · refine v_iload_2 hC dX7_table_70 ?_
            refine v_bipush hC dX7_table_71 bp_9 ?_
            refine v_icge (tgt := 101) hC dX7_table_73 (by decide) (fun h73 => ?_) (fun h73 => ?_)
            · refine v_aload_0 hC dX7_table_101 ?_
              refine v_get hC fX7_7 (by decide) rfl rfl dX7_table_102 ?_
              refine v_iload_1 hC dX7_table_105 ?_
              refine v_iload_2 hC dX7_table_106 ?_
              refine v_iload_3 hC dX7_table_107 ?_
              refine v_cs3r hC lX7_81 (k_X7_cell) ⟨Nat.le_of_ble_eq_true rfl, Nat.le_of_ble_eq_true rfl, rfl, rfl⟩ (Nat.le_of_ble_eq_true rfl) dX7_table_108 ?_
              refine w_iald (k := 1) hC N_1 (by first | omega | (simp only [mcl, mRd]; omega)) dX7_table_111 ?_
              refine v_istore_5 hC (by decide) rfl dX7_table_112 ?_
              refine v_aload_0 hC dX7_table_114 ?_
              refine v_get hC fX7_7 (by decide) rfl rfl dX7_table_115 ?_
              refine v_iload_1 hC dX7_table_118 ?_
              refine v_iload_2 hC dX7_table_119 ?_
              refine v_iload_3 hC dX7_table_120 ?_
              refine v_cs3r hC lX7_81 (k_X7_cell) ⟨Nat.le_of_ble_eq_true rfl, Nat.le_of_ble_eq_true rfl, rfl, rfl⟩ (Nat.le_of_ble_eq_true rfl) dX7_table_121 ?_
              refine v_iload_4 hC dX7_table_124 ?_
              refine w_iast (k := 1) hC N_1 (by first | omega | (simp only [mcl, mRd]; omega)) dX7_table_126 ?_
              refine v_iload_5 hC dX7_table_127 ?_
              exact v_iretM hC hT (by rw [mfTable, if_pos ⟨h6, h16, h26, h38⟩, tnI (j := i) (by omega), tnI (j := d) (by omega), tnI (j := g) (by omega), if_pos ⟨(Or.inl (nI_le0 (by omega) h49)), Or.inl ((nI_leI (by omega) (by omega)).mp h73)⟩]) dX7_table_129
            · refine v_iload_4 hC dX7_table_76 ?_
              refine v_aload_0 hC dX7_table_78 ?_
              refine v_get hC fX7_7 (by decide) rfl rfl dX7_table_79 ?_
              refine v_iload_1 hC dX7_table_82 ?_
              refine v_iload_2 hC dX7_table_83 ?_
              refine v_iconst hC dX7_table_84 ic_1 ?_
              refine v_iaddN hC dX7_table_85 ?_
              refine v_iload_3 hC dX7_table_86 ?_
              refine v_cs3r hC lX7_81 (k_X7_cell) ⟨Nat.le_of_ble_eq_true rfl, Nat.le_of_ble_eq_true rfl, rfl, rfl⟩ (Nat.le_of_ble_eq_true rfl) dX7_table_87 ?_
              refine w_iald (k := 1) hC N_1 (by have : ¬ 9 ≤ d := fun q => h73 (nI_le q (by omega)); simp only [mcl]; omega) dX7_table_90 ?_
              refine v_icge (tgt := 101) hC dX7_table_91 (by decide) (fun h91 => ?_) (fun h91 => ?_)
              · refine v_aload_0 hC dX7_table_101 ?_
                refine v_get hC fX7_7 (by decide) rfl rfl dX7_table_102 ?_
                refine v_iload_1 hC dX7_table_105 ?_
                refine v_iload_2 hC dX7_table_106 ?_
                refine v_iload_3 hC dX7_table_107 ?_
                refine v_cs3r hC lX7_81 (k_X7_cell) ⟨Nat.le_of_ble_eq_true rfl, Nat.le_of_ble_eq_true rfl, rfl, rfl⟩ (Nat.le_of_ble_eq_true rfl) dX7_table_108 ?_
                refine w_iald (k := 1) hC N_1 (by first | omega | (simp only [mcl, mRd]; omega)) dX7_table_111 ?_
                refine v_istore_5 hC (by decide) rfl dX7_table_112 ?_
                refine v_aload_0 hC dX7_table_114 ?_
                refine v_get hC fX7_7 (by decide) rfl rfl dX7_table_115 ?_
                refine v_iload_1 hC dX7_table_118 ?_
                refine v_iload_2 hC dX7_table_119 ?_
                refine v_iload_3 hC dX7_table_120 ?_
                refine v_cs3r hC lX7_81 (k_X7_cell) ⟨Nat.le_of_ble_eq_true rfl, Nat.le_of_ble_eq_true rfl, rfl, rfl⟩ (Nat.le_of_ble_eq_true rfl) dX7_table_121 ?_
                refine v_iload_4 hC dX7_table_124 ?_
                refine w_iast (k := 1) hC N_1 (by first | omega | (simp only [mcl, mRd]; omega)) dX7_table_126 ?_
                refine v_iload_5 hC dX7_table_127 ?_
                exact v_iretM hC hT (by rw [mfTable, if_pos ⟨h6, h16, h26, h38⟩, tnI (j := i) (by omega), tnI (j := d) (by omega), tnI (j := g) (by omega), if_pos ⟨(Or.inl (nI_le0 (by omega) h49)), Or.inr h91⟩]) dX7_table_129
              · refine v_aload_0 hC dX7_table_94 ?_
                refine v_ldc hC kX7_85 dX7_table_95 ?_
                refine v_cv1r hC lX7_63 ⟨by decide, 7, _, rfl, rfl, fun _ _ _ => ⟨_, rfl⟩⟩ (k_X7_found _) ⟨Nat.le_of_ble_eq_true rfl, Nat.le_of_ble_eq_true rfl, rfl, rfl⟩ (Nat.le_of_ble_eq_true rfl) dX7_table_97 ?_
                exact v_iretM hC hT (by rw [mfTable, if_pos ⟨h6, h16, h26, h38⟩, tnI (j := i) (by omega), tnI (j := d) (by omega), tnI (j := g) (by omega), if_neg (fun q => q.2.elim (fun q => h73 (nI_le q (by omega))) h91)]) dX7_table_100
          · refine v_iload_4 hC dX7_table_52 ?_
            refine v_aload_0 hC dX7_table_54 ?_
            refine v_get hC fX7_7 (by decide) rfl rfl dX7_table_55 ?_
            refine v_iload_1 hC dX7_table_58 ?_
            refine v_iload_2 hC dX7_table_59 ?_
            refine v_iconst hC dX7_table_60 ic_1 ?_
            refine v_isubN hC dX7_table_61 (Nat.pos_of_ne_zero (fun q => h49 (by rw [q]; decide))) ?_
            refine v_iload_3 hC dX7_table_62 ?_
            refine v_cs3r hC lX7_81 (k_X7_cell) ⟨Nat.le_of_ble_eq_true rfl, Nat.le_of_ble_eq_true rfl, rfl, rfl⟩ (Nat.le_of_ble_eq_true rfl) dX7_table_63 ?_
            refine w_iald (k := 1) hC N_1 (by first | omega | (simp only [mcl, mRd]; omega)) dX7_table_66 ?_
            refine v_icgt (tgt := 94) hC dX7_table_67 (by decide) (fun h67 => ?_) (fun h67 => ?_)
            · refine v_aload_0 hC dX7_table_94 ?_
              refine v_ldc hC kX7_85 dX7_table_95 ?_
              refine v_cv1r hC lX7_63 ⟨by decide, 7, _, rfl, rfl, fun _ _ _ => ⟨_, rfl⟩⟩ (k_X7_found _) ⟨Nat.le_of_ble_eq_true rfl, Nat.le_of_ble_eq_true rfl, rfl, rfl⟩ (Nat.le_of_ble_eq_true rfl) dX7_table_97 ?_
              exact v_iretM hC hT (by rw [mfTable, if_pos ⟨h6, h16, h26, h38⟩, tnI (j := i) (by omega), tnI (j := d) (by omega), tnI (j := g) (by omega), if_neg (fun q => q.1.elim (fun q => h49 (by rw [q]; decide)) (fun q => absurd h67 (Int32.not_lt.mpr q)))]) dX7_table_100
            · refine v_iload_2 hC dX7_table_70 ?_
              refine v_bipush hC dX7_table_71 bp_9 ?_
              refine v_icge (tgt := 101) hC dX7_table_73 (by decide) (fun h73 => ?_) (fun h73 => ?_)
              · refine v_aload_0 hC dX7_table_101 ?_
                refine v_get hC fX7_7 (by decide) rfl rfl dX7_table_102 ?_
                refine v_iload_1 hC dX7_table_105 ?_
                refine v_iload_2 hC dX7_table_106 ?_
                refine v_iload_3 hC dX7_table_107 ?_
                refine v_cs3r hC lX7_81 (k_X7_cell) ⟨Nat.le_of_ble_eq_true rfl, Nat.le_of_ble_eq_true rfl, rfl, rfl⟩ (Nat.le_of_ble_eq_true rfl) dX7_table_108 ?_
                refine w_iald (k := 1) hC N_1 (by first | omega | (simp only [mcl, mRd]; omega)) dX7_table_111 ?_
                refine v_istore_5 hC (by decide) rfl dX7_table_112 ?_
                refine v_aload_0 hC dX7_table_114 ?_
                refine v_get hC fX7_7 (by decide) rfl rfl dX7_table_115 ?_
                refine v_iload_1 hC dX7_table_118 ?_
                refine v_iload_2 hC dX7_table_119 ?_
                refine v_iload_3 hC dX7_table_120 ?_
                refine v_cs3r hC lX7_81 (k_X7_cell) ⟨Nat.le_of_ble_eq_true rfl, Nat.le_of_ble_eq_true rfl, rfl, rfl⟩ (Nat.le_of_ble_eq_true rfl) dX7_table_121 ?_
                refine v_iload_4 hC dX7_table_124 ?_
                refine w_iast (k := 1) hC N_1 (by first | omega | (simp only [mcl, mRd]; omega)) dX7_table_126 ?_
                refine v_iload_5 hC dX7_table_127 ?_
                exact v_iretM hC hT (by rw [mfTable, if_pos ⟨h6, h16, h26, h38⟩, tnI (j := i) (by omega), tnI (j := d) (by omega), tnI (j := g) (by omega), if_pos ⟨(Or.inr (Int32.not_lt.mp h67)), Or.inl ((nI_leI (by omega) (by omega)).mp h73)⟩]) dX7_table_129
              · refine v_iload_4 hC dX7_table_76 ?_
                refine v_aload_0 hC dX7_table_78 ?_
                refine v_get hC fX7_7 (by decide) rfl rfl dX7_table_79 ?_
                refine v_iload_1 hC dX7_table_82 ?_
                refine v_iload_2 hC dX7_table_83 ?_
                refine v_iconst hC dX7_table_84 ic_1 ?_
                refine v_iaddN hC dX7_table_85 ?_
                refine v_iload_3 hC dX7_table_86 ?_
                refine v_cs3r hC lX7_81 (k_X7_cell) ⟨Nat.le_of_ble_eq_true rfl, Nat.le_of_ble_eq_true rfl, rfl, rfl⟩ (Nat.le_of_ble_eq_true rfl) dX7_table_87 ?_
                refine w_iald (k := 1) hC N_1 (by have : ¬ 9 ≤ d := fun q => h73 (nI_le q (by omega)); simp only [mcl]; omega) dX7_table_90 ?_
                refine v_icge (tgt := 101) hC dX7_table_91 (by decide) (fun h91 => ?_) (fun h91 => ?_)
                · refine v_aload_0 hC dX7_table_101 ?_
                  refine v_get hC fX7_7 (by decide) rfl rfl dX7_table_102 ?_
                  refine v_iload_1 hC dX7_table_105 ?_
                  refine v_iload_2 hC dX7_table_106 ?_
                  refine v_iload_3 hC dX7_table_107 ?_
                  refine v_cs3r hC lX7_81 (k_X7_cell) ⟨Nat.le_of_ble_eq_true rfl, Nat.le_of_ble_eq_true rfl, rfl, rfl⟩ (Nat.le_of_ble_eq_true rfl) dX7_table_108 ?_
                  refine w_iald (k := 1) hC N_1 (by first | omega | (simp only [mcl, mRd]; omega)) dX7_table_111 ?_
                  refine v_istore_5 hC (by decide) rfl dX7_table_112 ?_
                  refine v_aload_0 hC dX7_table_114 ?_
                  refine v_get hC fX7_7 (by decide) rfl rfl dX7_table_115 ?_
                  refine v_iload_1 hC dX7_table_118 ?_
                  refine v_iload_2 hC dX7_table_119 ?_
                  refine v_iload_3 hC dX7_table_120 ?_
                  refine v_cs3r hC lX7_81 (k_X7_cell) ⟨Nat.le_of_ble_eq_true rfl, Nat.le_of_ble_eq_true rfl, rfl, rfl⟩ (Nat.le_of_ble_eq_true rfl) dX7_table_121 ?_
                  refine v_iload_4 hC dX7_table_124 ?_
                  refine w_iast (k := 1) hC N_1 (by first | omega | (simp only [mcl, mRd]; omega)) dX7_table_126 ?_
                  refine v_iload_5 hC dX7_table_127 ?_
                  exact v_iretM hC hT (by rw [mfTable, if_pos ⟨h6, h16, h26, h38⟩, tnI (j := i) (by omega), tnI (j := d) (by omega), tnI (j := g) (by omega), if_pos ⟨(Or.inr (Int32.not_lt.mp h67)), Or.inr h91⟩]) dX7_table_129
                · refine v_aload_0 hC dX7_table_94 ?_
                  refine v_ldc hC kX7_85 dX7_table_95 ?_
                  refine v_cv1r hC lX7_63 ⟨by decide, 7, _, rfl, rfl, fun _ _ _ => ⟨_, rfl⟩⟩ (k_X7_found _) ⟨Nat.le_of_ble_eq_true rfl, Nat.le_of_ble_eq_true rfl, rfl, rfl⟩ (Nat.le_of_ble_eq_true rfl) dX7_table_97 ?_
                  exact v_iretM hC hT (by rw [mfTable, if_pos ⟨h6, h16, h26, h38⟩, tnI (j := i) (by omega), tnI (j := d) (by omega), tnI (j := g) (by omega), if_neg (fun q => q.2.elim (fun q => h73 (nI_le q (by omega))) h91)]) dX7_table_100
        · refine v_aload_0 hC dX7_table_41 ?_
          refine v_ldc hC kX7_62 dX7_table_42 ?_
          refine v_cv1r hC lX7_63 ⟨by decide, 7, _, rfl, rfl, fun _ _ _ => ⟨_, rfl⟩⟩ (k_X7_found _) ⟨Nat.le_of_ble_eq_true rfl, Nat.le_of_ble_eq_true rfl, rfl, rfl⟩ (Nat.le_of_ble_eq_true rfl) dX7_table_44 ?_
          exact v_iretM hC hT (by rw [mfTable, if_neg (fun q => h38 q.2.2.2)]) dX7_table_47
theorem k_X7_rainTable {l : Launch} {E : ET} {σ μ : St} (hwm : WM μ) (g v : Int32) : Ct l E MX7_rainTable [.ref (adr E 54), .int g, .int v] (σ) (μ) (some (.int (mfRainT μ g v).1)) (σ) ((mfRainT μ g v).2) := by
  have h10 := hwm.n10
  have l10 := hwm.l10
  refine Ct.of (L := [some (.ref (adr E 54)), some (.int g), some (.int v), none]) (by decide) rfl (Nat.le_of_ble_eq_true rfl) rfl (fun X hC hT => ?_)
  refine v_iload_1 hC dX7_rainTable_0 ?_
  refine v_iconst hC dX7_rainTable_1 ic_0 ?_
  refine v_bipush hC dX7_rainTable_2 bp_11 ?_
  refine v_cs3r hC lX7_48 (k_X7_in _ _ _) ⟨Nat.le_of_ble_eq_true rfl, Nat.le_of_ble_eq_true rfl, rfl, rfl⟩ (Nat.le_of_ble_eq_true rfl) dX7_rainTable_4 ?_
  refine v_ifeqb (tgt := 21) hC dX7_rainTable_7 (by decide) (fun h7 => ?_) (fun h7 => ?_)
  · refine v_aload_0 hC dX7_rainTable_21 ?_
    refine v_ldc hC kX7_62 dX7_rainTable_22 ?_
    refine v_cv1r hC lX7_63 ⟨by decide, 7, _, rfl, rfl, fun _ _ _ => ⟨_, rfl⟩⟩ (k_X7_found _) ⟨Nat.le_of_ble_eq_true rfl, Nat.le_of_ble_eq_true rfl, rfl, rfl⟩ (Nat.le_of_ble_eq_true rfl) dX7_rainTable_24 ?_
    exact v_iretM hC hT (by rw [mfRainT, if_neg (fun q => h7 q.1)]) dX7_rainTable_27
  · refine v_iload_2 hC dX7_rainTable_10 ?_
    refine v_iconst hC dX7_rainTable_11 ic_0 ?_
    refine v_sipush hC dX7_rainTable_12 sp_1000 ?_
    refine v_cs3r hC lX7_48 (k_X7_in _ _ _) ⟨Nat.le_of_ble_eq_true rfl, Nat.le_of_ble_eq_true rfl, rfl, rfl⟩ (Nat.le_of_ble_eq_true rfl) dX7_rainTable_15 ?_
    refine v_ifneb (tgt := 28) hC dX7_rainTable_18 (by decide) (fun h18 => ?_) (fun h18 => ?_)
    · obtain ⟨g, hg, rfl⟩ := isR_nat (by decide) h7
      refine v_aload_0 hC dX7_rainTable_28 ?_
      refine v_get hC fX7_7 (by decide) rfl rfl dX7_rainTable_29 ?_
      refine v_sipush hC dX7_rainTable_32 sp_530 ?_
      refine v_iload_1 hC dX7_rainTable_35 ?_
      refine v_iaddN hC dX7_rainTable_36 ?_
      refine w_iald (k := 1) hC N_1 (by first | omega | (simp only [mcl, mRd]; omega)) dX7_rainTable_37 ?_
      refine v_istore_3 hC (by decide) rfl dX7_rainTable_38 ?_
      refine v_aload_0 hC dX7_rainTable_39 ?_
      refine v_get hC fX7_7 (by decide) rfl rfl dX7_rainTable_40 ?_
      refine v_sipush hC dX7_rainTable_43 sp_530 ?_
      refine v_iload_1 hC dX7_rainTable_46 ?_
      refine v_iaddN hC dX7_rainTable_47 ?_
      refine v_iload_2 hC dX7_rainTable_48 ?_
      refine w_iast (k := 1) hC N_1 (by first | omega | (simp only [mcl, mRd]; omega)) dX7_rainTable_49 ?_
      refine v_iload_3 hC dX7_rainTable_50 ?_
      exact v_iretM hC hT (by rw [mfRainT, if_pos ⟨h7, h18⟩, tnI (j := g) (by omega)]) dX7_rainTable_51
    · refine v_aload_0 hC dX7_rainTable_21 ?_
      refine v_ldc hC kX7_62 dX7_rainTable_22 ?_
      refine v_cv1r hC lX7_63 ⟨by decide, 7, _, rfl, rfl, fun _ _ _ => ⟨_, rfl⟩⟩ (k_X7_found _) ⟨Nat.le_of_ble_eq_true rfl, Nat.le_of_ble_eq_true rfl, rfl, rfl⟩ (Nat.le_of_ble_eq_true rfl) dX7_rainTable_24 ?_
      exact v_iretM hC hT (by rw [mfRainT, if_neg (fun q => h18 q.2)]) dX7_rainTable_27
theorem k_X7_sheet {l : Launch} {E : ET} {σ μ : St} (hwm : WM μ) (s k n : Int32) : Ct l E MX7_sheet [.ref (adr E 54), .int s, .int k, .int n] (σ) (μ) (some (.int (mfSheet μ s k n).1)) (σ) ((mfSheet μ s k n).2) := by
  have h10 := hwm.n10
  have l10 := hwm.l10
  refine Ct.of (L := [some (.ref (adr E 54)), some (.int s), some (.int k), some (.int n), none]) (by decide) rfl (Nat.le_of_ble_eq_true rfl) rfl (fun X hC hT => ?_)
  refine v_iload_1 hC dX7_sheet_0 ?_
  refine v_cs1r hC lX7_86 (k_X7_isSheet _) ⟨Nat.le_of_ble_eq_true rfl, Nat.le_of_ble_eq_true rfl, rfl, rfl⟩ (Nat.le_of_ble_eq_true rfl) dX7_sheet_1 ?_
  refine v_ifeqb (tgt := 16) hC dX7_sheet_4 (by decide) (fun h4 => ?_) (fun h4 => ?_)
  · refine v_aload_0 hC dX7_sheet_16 ?_
    refine v_ldc hC kX7_62 dX7_sheet_17 ?_
    refine v_cv1r hC lX7_63 ⟨by decide, 7, _, rfl, rfl, fun _ _ _ => ⟨_, rfl⟩⟩ (k_X7_found _) ⟨Nat.le_of_ble_eq_true rfl, Nat.le_of_ble_eq_true rfl, rfl, rfl⟩ (Nat.le_of_ble_eq_true rfl) dX7_sheet_19 ?_
    exact v_iretM hC hT (by rw [mfSheet, if_neg (fun q => h4 q.1)]) dX7_sheet_22
  · refine v_iload_2 hC dX7_sheet_7 ?_
    refine v_iconst hC dX7_sheet_8 ic_0 ?_
    refine v_iconst hC dX7_sheet_9 ic_2 ?_
    refine v_cs3r hC lX7_48 (k_X7_in _ _ _) ⟨Nat.le_of_ble_eq_true rfl, Nat.le_of_ble_eq_true rfl, rfl, rfl⟩ (Nat.le_of_ble_eq_true rfl) dX7_sheet_10 ?_
    refine v_ifneb (tgt := 23) hC dX7_sheet_13 (by decide) (fun h13 => ?_) (fun h13 => ?_)
    · refine v_iload_3 hC dX7_sheet_23 ?_
      refine v_ifge (tgt := 34) hC dX7_sheet_24 (by decide) (fun h24 => ?_) (fun h24 => ?_)
      · refine v_iload_3 hC dX7_sheet_34 ?_
        refine v_bipush hC dX7_sheet_35 bp_24 ?_
        refine v_icle (tgt := 47) hC dX7_sheet_37 (by decide) (fun h37 => ?_) (fun h37 => ?_)
        · obtain ⟨s, hs, rfl⟩ := isR_nat (by decide) h4
          refine v_aload_0 hC dX7_sheet_47 ?_
          refine v_get hC fX7_16 (by decide) rfl rfl dX7_sheet_48 ?_
          refine v_iload_1 hC dX7_sheet_51 ?_
          refine v_iload_2 hC dX7_sheet_52 ?_
          refine w_iast (k := 3) hC N_3 (by first | omega | (simp only [mcl, mRd]; omega)) dX7_sheet_53 ?_
          refine v_aload_0 hC dX7_sheet_54 ?_
          refine v_get hC fX7_19 (by decide) rfl rfl dX7_sheet_55 ?_
          refine v_iload_1 hC dX7_sheet_58 ?_
          refine v_iload_2 hC dX7_sheet_59 ?_
          refine v_ifne (tgt := 67) hC dX7_sheet_60 (by decide) (fun h60 => ?_) (fun h60 => ?_)
          · refine v_iload_3 hC dX7_sheet_67 ?_
            refine v_top (y := if k = 0 then nI 0 else n) (if_neg h60).symm ?_
            refine w_iast (k := 4) hC N_4 (by first | omega | (simp only [mcl, mRd]; omega)) dX7_sheet_68 ?_
            refine v_iconst hC dX7_sheet_69 ic_0 ?_
            refine v_istore_4 hC (by decide) rfl dX7_sheet_70 ?_
            refine up_loop (fun d : Nat => V X E 72 [some (.ref (adr E 54)), some (.int (nI s)), some (.int k), some (.int n), some (.int (nI d))] [] (σ) (it0 (fmSt s) d (mSt0 μ s k n))) (Nat.zero_le (24)) ?_ (fun d _ hd ih => ?_)
            · refine v_iload_4 hC dX7_sheet_72 ?_
              refine v_bipush hC dX7_sheet_74 bp_24 ?_
              refine v_icge (tgt := 98) hC dX7_sheet_76 (by decide) (fun h76 => ?_) (fun h76 => absurd (Int32.le_refl _) h76)
              refine v_aload_0 hC dX7_sheet_98 ?_
              refine v_get hC fX7_19 (by decide) rfl rfl dX7_sheet_99 ?_
              refine v_iload_1 hC dX7_sheet_102 ?_
              refine w_iald (k := 4) hC N_4 (by first | omega | (simp only [mcl, mRd]; omega)) dX7_sheet_103 ?_
              exact v_iretM hC hT (by rw [mfSheet, if_pos ⟨h4, h13⟩, if_pos h24, if_pos h37, tnI (j := s) (by omega), mStart]) dX7_sheet_104
            · refine v_iload_4 hC dX7_sheet_72 ?_
              refine v_bipush hC dX7_sheet_74 bp_24 ?_
              refine v_icge (tgt := 98) hC dX7_sheet_76 (by decide) (fun h76 => absurd h76 (nI_ge hd (by decide))) (fun h76 => ?_)
              refine v_aload_0 hC dX7_sheet_79 ?_
              refine v_get hC fX7_22 (by decide) rfl rfl dX7_sheet_80 ?_
              refine v_bipush hC dX7_sheet_83 bp_24 ?_
              refine v_iload_1 hC dX7_sheet_85 ?_
              refine v_imulN hC dX7_sheet_86 ?_
              refine v_iload_4 hC dX7_sheet_87 ?_
              refine v_iaddN hC dX7_sheet_89 ?_
              refine v_iconst hC dX7_sheet_90 ic_0 ?_
              refine w_iast (k := 5) hC N_5 (by first | omega | (simp only [mcl, mRd]; omega)) dX7_sheet_91 ?_
              refine v_iinc1_4 hC (by decide) rfl dX7_sheet_92 ?_
              refine v_goto (tgt := 72) hC dX7_sheet_95 (by decide) ?_
              exact ih
          · refine v_iconst hC dX7_sheet_63 ic_0 ?_
            refine v_goto (tgt := 68) hC dX7_sheet_64 (by decide) ?_
            refine v_top (y := if k = 0 then nI 0 else n) (if_pos h60).symm ?_
            refine w_iast (k := 4) hC N_4 (by first | omega | (simp only [mcl, mRd]; omega)) dX7_sheet_68 ?_
            refine v_iconst hC dX7_sheet_69 ic_0 ?_
            refine v_istore_4 hC (by decide) rfl dX7_sheet_70 ?_
            refine up_loop (fun d : Nat => V X E 72 [some (.ref (adr E 54)), some (.int (nI s)), some (.int k), some (.int n), some (.int (nI d))] [] (σ) (it0 (fmSt s) d (mSt0 μ s k n))) (Nat.zero_le (24)) ?_ (fun d _ hd ih => ?_)
            · refine v_iload_4 hC dX7_sheet_72 ?_
              refine v_bipush hC dX7_sheet_74 bp_24 ?_
              refine v_icge (tgt := 98) hC dX7_sheet_76 (by decide) (fun h76 => ?_) (fun h76 => absurd (Int32.le_refl _) h76)
              refine v_aload_0 hC dX7_sheet_98 ?_
              refine v_get hC fX7_19 (by decide) rfl rfl dX7_sheet_99 ?_
              refine v_iload_1 hC dX7_sheet_102 ?_
              refine w_iald (k := 4) hC N_4 (by first | omega | (simp only [mcl, mRd]; omega)) dX7_sheet_103 ?_
              exact v_iretM hC hT (by rw [mfSheet, if_pos ⟨h4, h13⟩, if_pos h24, if_pos h37, tnI (j := s) (by omega), mStart]) dX7_sheet_104
            · refine v_iload_4 hC dX7_sheet_72 ?_
              refine v_bipush hC dX7_sheet_74 bp_24 ?_
              refine v_icge (tgt := 98) hC dX7_sheet_76 (by decide) (fun h76 => absurd h76 (nI_ge hd (by decide))) (fun h76 => ?_)
              refine v_aload_0 hC dX7_sheet_79 ?_
              refine v_get hC fX7_22 (by decide) rfl rfl dX7_sheet_80 ?_
              refine v_bipush hC dX7_sheet_83 bp_24 ?_
              refine v_iload_1 hC dX7_sheet_85 ?_
              refine v_imulN hC dX7_sheet_86 ?_
              refine v_iload_4 hC dX7_sheet_87 ?_
              refine v_iaddN hC dX7_sheet_89 ?_
              refine v_iconst hC dX7_sheet_90 ic_0 ?_
              refine w_iast (k := 5) hC N_5 (by first | omega | (simp only [mcl, mRd]; omega)) dX7_sheet_91 ?_
              refine v_iinc1_4 hC (by decide) rfl dX7_sheet_92 ?_
              refine v_goto (tgt := 72) hC dX7_sheet_95 (by decide) ?_
              exact ih
        · refine v_aload_0 hC dX7_sheet_40 ?_
          refine v_ldc hC kX7_62 dX7_sheet_41 ?_
          refine v_cv1r hC lX7_63 ⟨by decide, 7, _, rfl, rfl, fun _ _ _ => ⟨_, rfl⟩⟩ (k_X7_found _) ⟨Nat.le_of_ble_eq_true rfl, Nat.le_of_ble_eq_true rfl, rfl, rfl⟩ (Nat.le_of_ble_eq_true rfl) dX7_sheet_43 ?_
          exact v_iretM hC hT (by rw [mfSheet, if_pos ⟨h4, h13⟩, if_pos h24, if_neg h37]) dX7_sheet_46
      · refine v_aload_0 hC dX7_sheet_27 ?_
        refine v_ldc hC kX7_85 dX7_sheet_28 ?_
        refine v_cv1r hC lX7_63 ⟨by decide, 7, _, rfl, rfl, fun _ _ _ => ⟨_, rfl⟩⟩ (k_X7_found _) ⟨Nat.le_of_ble_eq_true rfl, Nat.le_of_ble_eq_true rfl, rfl, rfl⟩ (Nat.le_of_ble_eq_true rfl) dX7_sheet_30 ?_
        exact v_iretM hC hT (by rw [mfSheet, if_pos ⟨h4, h13⟩, if_neg h24]) dX7_sheet_33
    · refine v_aload_0 hC dX7_sheet_16 ?_
      refine v_ldc hC kX7_62 dX7_sheet_17 ?_
      refine v_cv1r hC lX7_63 ⟨by decide, 7, _, rfl, rfl, fun _ _ _ => ⟨_, rfl⟩⟩ (k_X7_found _) ⟨Nat.le_of_ble_eq_true rfl, Nat.le_of_ble_eq_true rfl, rfl, rfl⟩ (Nat.le_of_ble_eq_true rfl) dX7_sheet_19 ?_
      exact v_iretM hC hT (by rw [mfSheet, if_neg (fun q => h13 q.2)]) dX7_sheet_22
theorem k_X7_put {l : Launch} {E : ET} {σ μ : St} (hwm : WM μ) (s i v : Int32) : Ct l E MX7_put [.ref (adr E 54), .int s, .int i, .int v] (σ) (μ) (some (.int (mfPut μ s i v).1)) (σ) ((mfPut μ s i v).2) := by
  have h10 := hwm.n10
  have l10 := hwm.l10
  refine Ct.of (L := [some (.ref (adr E 54)), some (.int s), some (.int i), some (.int v)]) (by decide) rfl (Nat.le_of_ble_eq_true rfl) rfl (fun X hC hT => ?_)
  refine v_iload_1 hC dX7_put_0 ?_
  refine v_cs1r hC lX7_86 (k_X7_isSheet _) ⟨Nat.le_of_ble_eq_true rfl, Nat.le_of_ble_eq_true rfl, rfl, rfl⟩ (Nat.le_of_ble_eq_true rfl) dX7_put_1 ?_
  refine v_ifneb (tgt := 14) hC dX7_put_4 (by decide) (fun h4 => ?_) (fun h4 => ?_)
  · obtain ⟨s, hs, rfl⟩ := isR_nat (by decide) h4
    refine v_aload_0 hC dX7_put_14 ?_
    refine v_get hC fX7_16 (by decide) rfl rfl dX7_put_15 ?_
    refine v_iload_1 hC dX7_put_18 ?_
    refine w_iald (k := 3) hC N_3 (by first | omega | (simp only [mcl, mRd]; omega)) dX7_put_19 ?_
    refine v_ifne (tgt := 30) hC dX7_put_20 (by decide) (fun h20 => ?_) (fun h20 => ?_)
    · refine v_iload_2 hC dX7_put_30 ?_
      refine v_iconst hC dX7_put_31 ic_0 ?_
      refine v_aload_0 hC dX7_put_32 ?_
      refine v_get hC fX7_19 (by decide) rfl rfl dX7_put_33 ?_
      refine v_iload_1 hC dX7_put_36 ?_
      refine w_iald (k := 4) hC N_4 (by first | omega | (simp only [mcl, mRd]; omega)) dX7_put_37 ?_
      refine v_iconst hC dX7_put_38 ic_1 ?_
      refine v_isub hC dX7_put_39 ?_
      refine v_cs3r hC lX7_48 (k_X7_in _ _ _) ⟨Nat.le_of_ble_eq_true rfl, Nat.le_of_ble_eq_true rfl, rfl, rfl⟩ (Nat.le_of_ble_eq_true rfl) dX7_put_40 ?_
      refine v_ifneb (tgt := 53) hC dX7_put_43 (by decide) (fun h43 => ?_) (fun h43 => ?_)
      · obtain ⟨i, hi, rfl⟩ := isMS_nat hwm (s := s) (by omega) h43
        have hz := (hwm.2.2.2.2 s (by omega)).2
        refine v_aload_0 hC dX7_put_53 ?_
        refine v_get hC fX7_22 (by decide) rfl rfl dX7_put_54 ?_
        refine v_bipush hC dX7_put_57 bp_24 ?_
        refine v_iload_1 hC dX7_put_59 ?_
        refine v_imulN hC dX7_put_60 ?_
        refine v_iload_2 hC dX7_put_61 ?_
        refine v_iaddN hC dX7_put_62 ?_
        refine v_aload_0 hC dX7_put_63 ?_
        refine v_get hC fX7_16 (by decide) rfl rfl dX7_put_64 ?_
        refine v_iload_1 hC dX7_put_67 ?_
        refine w_iald (k := 3) hC N_3 (by first | omega | (simp only [mcl, mRd]; omega)) dX7_put_68 ?_
        refine v_iconst hC dX7_put_69 ic_2 ?_
        refine v_icne (tgt := 85) hC dX7_put_70 (by decide) (fun h70 => ?_) (fun h70 => ?_)
        · refine v_iload_3 hC dX7_put_85 ?_
          refine v_top (y := mPutV μ s v) (if_neg (fun q => h70 q.1)).symm ?_
          refine w_iast (k := 5) hC N_5 (by first | omega | (simp only [mcl, mRd]; omega)) dX7_put_86 ?_
          refine v_iconst hC dX7_put_87 ic_0 ?_
          exact v_iretM hC hT (by rw [mfPut, if_pos h4, tnI (j := s) (by omega), if_neg h20, if_pos h43, tnI (j := i) (by omega)]) dX7_put_88
        · refine v_iload_3 hC dX7_put_73 ?_
          refine v_cs1r hC lX7_92 (k_X7_isNone _) ⟨Nat.le_of_ble_eq_true rfl, Nat.le_of_ble_eq_true rfl, rfl, rfl⟩ (Nat.le_of_ble_eq_true rfl) dX7_put_74 ?_
          refine v_ifeqb (tgt := 85) hC dX7_put_77 (by decide) (fun h77 => ?_) (fun h77 => ?_)
          · refine v_iload_3 hC dX7_put_85 ?_
            refine v_top (y := mPutV μ s v) (if_neg (fun q => h77 q.2)).symm ?_
            refine w_iast (k := 5) hC N_5 (by first | omega | (simp only [mcl, mRd]; omega)) dX7_put_86 ?_
            refine v_iconst hC dX7_put_87 ic_0 ?_
            exact v_iretM hC hT (by rw [mfPut, if_pos h4, tnI (j := s) (by omega), if_neg h20, if_pos h43, tnI (j := i) (by omega)]) dX7_put_88
          · refine v_ldc hC kX7_95 dX7_put_80 ?_
            refine v_goto (tgt := 86) hC dX7_put_82 (by decide) ?_
            refine v_top (y := mPutV μ s v) (if_pos ⟨h70, h77⟩).symm ?_
            refine w_iast (k := 5) hC N_5 (by first | omega | (simp only [mcl, mRd]; omega)) dX7_put_86 ?_
            refine v_iconst hC dX7_put_87 ic_0 ?_
            exact v_iretM hC hT (by rw [mfPut, if_pos h4, tnI (j := s) (by omega), if_neg h20, if_pos h43, tnI (j := i) (by omega)]) dX7_put_88
      · refine v_aload_0 hC dX7_put_46 ?_
        refine v_ldc hC kX7_62 dX7_put_47 ?_
        refine v_cv1r hC lX7_63 ⟨by decide, 7, _, rfl, rfl, fun _ _ _ => ⟨_, rfl⟩⟩ (k_X7_found _) ⟨Nat.le_of_ble_eq_true rfl, Nat.le_of_ble_eq_true rfl, rfl, rfl⟩ (Nat.le_of_ble_eq_true rfl) dX7_put_49 ?_
        exact v_iretM hC hT (by rw [mfPut, if_pos h4, tnI (j := s) (by omega), if_neg h20, if_neg h43]) dX7_put_52
    · refine v_aload_0 hC dX7_put_23 ?_
      refine v_ldc hC kX7_91 dX7_put_24 ?_
      refine v_cv1r hC lX7_63 ⟨by decide, 7, _, rfl, rfl, fun _ _ _ => ⟨_, rfl⟩⟩ (k_X7_found _) ⟨Nat.le_of_ble_eq_true rfl, Nat.le_of_ble_eq_true rfl, rfl, rfl⟩ (Nat.le_of_ble_eq_true rfl) dX7_put_26 ?_
      exact v_iretM hC hT (by rw [mfPut, if_pos h4, tnI (j := s) (by omega), if_pos h20]) dX7_put_29
  · refine v_aload_0 hC dX7_put_7 ?_
    refine v_ldc hC kX7_62 dX7_put_8 ?_
    refine v_cv1r hC lX7_63 ⟨by decide, 7, _, rfl, rfl, fun _ _ _ => ⟨_, rfl⟩⟩ (k_X7_found _) ⟨Nat.le_of_ble_eq_true rfl, Nat.le_of_ble_eq_true rfl, rfl, rfl⟩ (Nat.le_of_ble_eq_true rfl) dX7_put_10 ?_
    exact v_iretM hC hT (by rw [mfPut, if_neg h4]) dX7_put_13
theorem lcm_gt {x y : Int64} : 0 < lg_cmp x y ↔ ¬ x ≤ y := by
  rw [Int64.not_le]
  unfold lg_cmp
  by_cases h : y < x
  · simp [h]
  · have h2 : ¬ x > y := h
    rw [if_neg h2]
    by_cases e : x = y
    · rw [if_pos e]; subst e; simp
    · rw [if_neg e]
      constructor
      · intro q; exact absurd q (by decide)
      · intro q; exact absurd q h
theorem lcm_le {x y : Int64} : lg_cmp x y ≤ 0 ↔ x ≤ y := by
  rw [← Int32.not_lt, lcm_gt, Classical.not_not]
theorem mpart {x : Int32} (hx : Nb x 24) {f n : Nat} (hf : f < 2 ^ 31) (hn : n < 2 ^ 31) (h : (nI f).toInt64 + (nI n).toInt64 ≤ x.toInt64) : f + n ≤ x.toNatClampNeg ∧ x.toNatClampNeg ≤ 24 := by
  obtain ⟨h1, h2⟩ := hx
  rw [h1, nI_l hf, nI_l hn, nI_l (by omega), lN_add, pk_lLE (by omega) (by omega)] at h
  exact ⟨h, h2⟩
theorem k_X7_copy {l : Launch} {E : ET} {σ μ : St} (hwm : WM μ) (s f t g n : Int32) : Ct l E MX7_copy [.ref (adr E 54), .int s, .int f, .int t, .int g, .int n] (σ) (μ) (some (.int (mfCopy μ s f t g n).1)) (σ) ((mfCopy μ s f t g n).2) := by
  have h10 := hwm.n10
  have l10 := hwm.l10
  refine Ct.of (L := [some (.ref (adr E 54)), some (.int s), some (.int f), some (.int t), some (.int g), some (.int n), none]) (by decide) rfl (Nat.le_of_ble_eq_true rfl) rfl (fun X hC hT => ?_)
  refine v_iload_1 hC dX7_copy_0 ?_
  refine v_cs1r hC lX7_86 (k_X7_isSheet _) ⟨Nat.le_of_ble_eq_true rfl, Nat.le_of_ble_eq_true rfl, rfl, rfl⟩ (Nat.le_of_ble_eq_true rfl) dX7_copy_1 ?_
  refine v_ifeqb (tgt := 14) hC dX7_copy_4 (by decide) (fun h4 => ?_) (fun h4 => ?_)
  · refine v_aload_0 hC dX7_copy_14 ?_
    refine v_ldc hC kX7_62 dX7_copy_15 ?_
    refine v_cv1r hC lX7_63 ⟨by decide, 7, _, rfl, rfl, fun _ _ _ => ⟨_, rfl⟩⟩ (k_X7_found _) ⟨Nat.le_of_ble_eq_true rfl, Nat.le_of_ble_eq_true rfl, rfl, rfl⟩ (Nat.le_of_ble_eq_true rfl) dX7_copy_17 ?_
    exact v_iretM hC hT (by rw [mfCopy, if_neg (fun q => h4 q.1)]) dX7_copy_20
  · refine v_iload_3 hC dX7_copy_7 ?_
    refine v_cs1r hC lX7_86 (k_X7_isSheet _) ⟨Nat.le_of_ble_eq_true rfl, Nat.le_of_ble_eq_true rfl, rfl, rfl⟩ (Nat.le_of_ble_eq_true rfl) dX7_copy_8 ?_
    refine v_ifneb (tgt := 21) hC dX7_copy_11 (by decide) (fun h11 => ?_) (fun h11 => ?_)
    · obtain ⟨s, hs, rfl⟩ := isR_nat (by decide) h4
      obtain ⟨t, ht, rfl⟩ := isR_nat (by decide) h11
      refine v_aload_0 hC dX7_copy_21 ?_
      refine v_get hC fX7_16 (by decide) rfl rfl dX7_copy_22 ?_
      refine v_iload_1 hC dX7_copy_25 ?_
      refine w_iald (k := 3) hC N_3 (by first | omega | (simp only [mcl, mRd]; omega)) dX7_copy_26 ?_
      refine v_ifeq (tgt := 39) hC dX7_copy_27 (by decide) (fun h27 => ?_) (fun h27 => ?_)
      · refine v_aload_0 hC dX7_copy_39 ?_
        refine v_ldc hC kX7_91 dX7_copy_40 ?_
        refine v_cv1r hC lX7_63 ⟨by decide, 7, _, rfl, rfl, fun _ _ _ => ⟨_, rfl⟩⟩ (k_X7_found _) ⟨Nat.le_of_ble_eq_true rfl, Nat.le_of_ble_eq_true rfl, rfl, rfl⟩ (Nat.le_of_ble_eq_true rfl) dX7_copy_42 ?_
        exact v_iretM hC hT (by rw [mfCopy, if_pos ⟨h4, h11⟩, tnI (j := s) (by omega), tnI (j := t) (by omega), if_pos (Or.inl h27)]) dX7_copy_45
      · refine v_aload_0 hC dX7_copy_30 ?_
        refine v_get hC fX7_16 (by decide) rfl rfl dX7_copy_31 ?_
        refine v_iload_3 hC dX7_copy_34 ?_
        refine w_iald (k := 3) hC N_3 (by first | omega | (simp only [mcl, mRd]; omega)) dX7_copy_35 ?_
        refine v_ifne (tgt := 46) hC dX7_copy_36 (by decide) (fun h36 => ?_) (fun h36 => ?_)
        · refine v_aload_0 hC dX7_copy_46 ?_
          refine v_get hC fX7_16 (by decide) rfl rfl dX7_copy_47 ?_
          refine v_iload_1 hC dX7_copy_50 ?_
          refine w_iald (k := 3) hC N_3 (by first | omega | (simp only [mcl, mRd]; omega)) dX7_copy_51 ?_
          refine v_aload_0 hC dX7_copy_52 ?_
          refine v_get hC fX7_16 (by decide) rfl rfl dX7_copy_53 ?_
          refine v_iload_3 hC dX7_copy_56 ?_
          refine w_iald (k := 3) hC N_3 (by first | omega | (simp only [mcl, mRd]; omega)) dX7_copy_57 ?_
          refine v_iceq (tgt := 68) hC dX7_copy_58 (by decide) (fun h58 => ?_) (fun h58 => ?_)
          · refine v_iload_2 hC dX7_copy_68 ?_
            refine v_iflt (tgt := 117) hC dX7_copy_69 (by decide) (fun h69 => ?_) (fun h69 => ?_)
            · refine v_aload_0 hC dX7_copy_117 ?_
              refine v_ldc hC kX7_62 dX7_copy_118 ?_
              refine v_cv1r hC lX7_63 ⟨by decide, 7, _, rfl, rfl, fun _ _ _ => ⟨_, rfl⟩⟩ (k_X7_found _) ⟨Nat.le_of_ble_eq_true rfl, Nat.le_of_ble_eq_true rfl, rfl, rfl⟩ (Nat.le_of_ble_eq_true rfl) dX7_copy_120 ?_
              exact v_iretM hC hT (by rw [mfCopy, if_pos ⟨h4, h11⟩, tnI (j := s) (by omega), tnI (j := t) (by omega), if_neg (fun q => q.elim h27 h36), if_pos h58, if_neg (fun q => q.1 h69)]) dX7_copy_123
            · refine v_iload_4 hC dX7_copy_72 ?_
              refine v_iflt (tgt := 117) hC dX7_copy_74 (by decide) (fun h74 => ?_) (fun h74 => ?_)
              · refine v_aload_0 hC dX7_copy_117 ?_
                refine v_ldc hC kX7_62 dX7_copy_118 ?_
                refine v_cv1r hC lX7_63 ⟨by decide, 7, _, rfl, rfl, fun _ _ _ => ⟨_, rfl⟩⟩ (k_X7_found _) ⟨Nat.le_of_ble_eq_true rfl, Nat.le_of_ble_eq_true rfl, rfl, rfl⟩ (Nat.le_of_ble_eq_true rfl) dX7_copy_120 ?_
                exact v_iretM hC hT (by rw [mfCopy, if_pos ⟨h4, h11⟩, tnI (j := s) (by omega), tnI (j := t) (by omega), if_neg (fun q => q.elim h27 h36), if_pos h58, if_neg (fun q => q.2.1 h74)]) dX7_copy_123
              · refine v_iload_5 hC dX7_copy_77 ?_
                refine v_iflt (tgt := 117) hC dX7_copy_79 (by decide) (fun h79 => ?_) (fun h79 => ?_)
                · refine v_aload_0 hC dX7_copy_117 ?_
                  refine v_ldc hC kX7_62 dX7_copy_118 ?_
                  refine v_cv1r hC lX7_63 ⟨by decide, 7, _, rfl, rfl, fun _ _ _ => ⟨_, rfl⟩⟩ (k_X7_found _) ⟨Nat.le_of_ble_eq_true rfl, Nat.le_of_ble_eq_true rfl, rfl, rfl⟩ (Nat.le_of_ble_eq_true rfl) dX7_copy_120 ?_
                  exact v_iretM hC hT (by rw [mfCopy, if_pos ⟨h4, h11⟩, tnI (j := s) (by omega), tnI (j := t) (by omega), if_neg (fun q => q.elim h27 h36), if_pos h58, if_neg (fun q => q.2.2.1 h79)]) dX7_copy_123
                · refine v_iload_2 hC dX7_copy_82 ?_
                  refine v_i2l hC dX7_copy_83 ?_
                  refine v_iload_5 hC dX7_copy_84 ?_
                  refine v_i2l hC dX7_copy_86 ?_
                  refine v_ladd hC dX7_copy_87 ?_
                  refine v_aload_0 hC dX7_copy_88 ?_
                  refine v_get hC fX7_19 (by decide) rfl rfl dX7_copy_89 ?_
                  refine v_iload_1 hC dX7_copy_92 ?_
                  refine w_iald (k := 4) hC N_4 (by first | omega | (simp only [mcl, mRd]; omega)) dX7_copy_93 ?_
                  refine v_i2l hC dX7_copy_94 ?_
                  refine v_lcmp hC dX7_copy_95 ?_
                  refine v_ifgt (tgt := 117) hC dX7_copy_96 (by decide) (fun h96 => ?_) (fun h96 => ?_)
                  · refine v_aload_0 hC dX7_copy_117 ?_
                    refine v_ldc hC kX7_62 dX7_copy_118 ?_
                    refine v_cv1r hC lX7_63 ⟨by decide, 7, _, rfl, rfl, fun _ _ _ => ⟨_, rfl⟩⟩ (k_X7_found _) ⟨Nat.le_of_ble_eq_true rfl, Nat.le_of_ble_eq_true rfl, rfl, rfl⟩ (Nat.le_of_ble_eq_true rfl) dX7_copy_120 ?_
                    exact v_iretM hC hT (by rw [mfCopy, if_pos ⟨h4, h11⟩, tnI (j := s) (by omega), tnI (j := t) (by omega), if_neg (fun q => q.elim h27 h36), if_pos h58, if_neg (fun q => lcm_gt.mp h96 q.2.2.2.1)]) dX7_copy_123
                  · refine v_iload_4 hC dX7_copy_99 ?_
                    refine v_i2l hC dX7_copy_101 ?_
                    refine v_iload_5 hC dX7_copy_102 ?_
                    refine v_i2l hC dX7_copy_104 ?_
                    refine v_ladd hC dX7_copy_105 ?_
                    refine v_aload_0 hC dX7_copy_106 ?_
                    refine v_get hC fX7_19 (by decide) rfl rfl dX7_copy_107 ?_
                    refine v_iload_3 hC dX7_copy_110 ?_
                    refine w_iald (k := 4) hC N_4 (by first | omega | (simp only [mcl, mRd]; omega)) dX7_copy_111 ?_
                    refine v_i2l hC dX7_copy_112 ?_
                    refine v_lcmp hC dX7_copy_113 ?_
                    refine v_ifle (tgt := 124) hC dX7_copy_114 (by decide) (fun h114 => ?_) (fun h114 => ?_)
                    · have hall := (⟨h69, h74, h79, Classical.not_not.mp (fun z => h96 (lcm_gt.mpr z)), lcm_le.mp h114⟩ : mHasP μ s t f g n)
                      obtain ⟨f, hf, rfl⟩ := nI_of h69
                      obtain ⟨g, hg, rfl⟩ := nI_of h74
                      obtain ⟨n, hn, rfl⟩ := nI_of h79
                      have hp1 := mpart (hwm.2.2.2.2 s (by omega)) hf hn hall.2.2.2.1
                      have hp2 := mpart (hwm.2.2.2.2 t (by omega)) hg hn hall.2.2.2.2
                      refine v_iconst hC dX7_copy_124 ic_0 ?_
                      refine v_istore_6 hC (by decide) rfl dX7_copy_125 ?_
                      refine up_loop (fun d : Nat => V X E 127 [some (.ref (adr E 54)), some (.int (nI s)), some (.int (nI f)), some (.int (nI t)), some (.int (nI g)), some (.int (nI n)), some (.int (nI d))] [] (σ) (it0 (fmC1 s f) d μ)) (Nat.zero_le (n)) ?_ (fun d _ hd ih => ?_)
                      · refine v_iload_6 hC dX7_copy_127 ?_
                        refine v_iload_5 hC dX7_copy_129 ?_
                        refine v_icge (tgt := 161) hC dX7_copy_131 (by decide) (fun h131 => ?_) (fun h131 => absurd (Int32.le_refl _) h131)
                        refine v_iconst hC dX7_copy_161 ic_0 ?_
                        refine v_istore_6 hC (by decide) rfl dX7_copy_162 ?_
                        refine up_loop (fun d : Nat => V X E 164 [some (.ref (adr E 54)), some (.int (nI s)), some (.int (nI f)), some (.int (nI t)), some (.int (nI g)), some (.int (nI n)), some (.int (nI d))] [] (σ) (it0 (fmC2 t g) d (it0 (fmC1 s f) n μ))) (Nat.zero_le (n)) ?_ (fun d _ hd ih => ?_)
                        · refine v_iload_6 hC dX7_copy_164 ?_
                          refine v_iload_5 hC dX7_copy_166 ?_
                          refine v_icge (tgt := 199) hC dX7_copy_168 (by decide) (fun h168 => ?_) (fun h168 => absurd (Int32.le_refl _) h168)
                          refine v_iload_5 hC dX7_copy_199 ?_
                          exact v_iretM hC hT (by rw [mfCopy, if_pos ⟨h4, h11⟩, tnI (j := s) (by omega), tnI (j := t) (by omega), if_neg (fun q => q.elim h27 h36), if_pos h58, if_pos hall, tnI (j := g) (by omega), tnI (j := n) (by omega), tnI (j := f) (by omega)]) dX7_copy_201
                        · refine v_iload_6 hC dX7_copy_164 ?_
                          refine v_iload_5 hC dX7_copy_166 ?_
                          refine v_icge (tgt := 199) hC dX7_copy_168 (by decide) (fun h168 => absurd h168 (nI_ge hd (by omega))) (fun h168 => ?_)
                          refine v_aload_0 hC dX7_copy_171 ?_
                          refine v_get hC fX7_22 (by decide) rfl rfl dX7_copy_172 ?_
                          refine v_bipush hC dX7_copy_175 bp_24 ?_
                          refine v_iload_3 hC dX7_copy_177 ?_
                          refine v_imulN hC dX7_copy_178 ?_
                          refine v_iload_4 hC dX7_copy_179 ?_
                          refine v_iaddN hC dX7_copy_181 ?_
                          refine v_iload_6 hC dX7_copy_182 ?_
                          refine v_iaddN hC dX7_copy_184 ?_
                          refine v_aload_0 hC dX7_copy_185 ?_
                          refine v_get hC fX7_25 (by decide) rfl rfl dX7_copy_186 ?_
                          refine v_iload_6 hC dX7_copy_189 ?_
                          refine w_iald (k := 6) hC N_6 (by first | omega | (simp only [mcl, mRd]; omega)) dX7_copy_191 ?_
                          refine w_iast (k := 5) hC N_5 (by first | omega | (simp only [mcl, mRd]; omega)) dX7_copy_192 ?_
                          refine v_iinc1_6 hC (by decide) rfl dX7_copy_193 ?_
                          refine v_goto (tgt := 164) hC dX7_copy_196 (by decide) ?_
                          exact ih
                      · refine v_iload_6 hC dX7_copy_127 ?_
                        refine v_iload_5 hC dX7_copy_129 ?_
                        refine v_icge (tgt := 161) hC dX7_copy_131 (by decide) (fun h131 => absurd h131 (nI_ge hd (by omega))) (fun h131 => ?_)
                        refine v_aload_0 hC dX7_copy_134 ?_
                        refine v_get hC fX7_25 (by decide) rfl rfl dX7_copy_135 ?_
                        refine v_iload_6 hC dX7_copy_138 ?_
                        refine v_aload_0 hC dX7_copy_140 ?_
                        refine v_get hC fX7_22 (by decide) rfl rfl dX7_copy_141 ?_
                        refine v_bipush hC dX7_copy_144 bp_24 ?_
                        refine v_iload_1 hC dX7_copy_146 ?_
                        refine v_imulN hC dX7_copy_147 ?_
                        refine v_iload_2 hC dX7_copy_148 ?_
                        refine v_iaddN hC dX7_copy_149 ?_
                        refine v_iload_6 hC dX7_copy_150 ?_
                        refine v_iaddN hC dX7_copy_152 ?_
                        refine w_iald (k := 5) hC N_5 (by first | omega | (simp only [mcl, mRd]; omega)) dX7_copy_153 ?_
                        refine w_iast (k := 6) hC N_6 (by first | omega | (simp only [mcl, mRd]; omega)) dX7_copy_154 ?_
                        refine v_iinc1_6 hC (by decide) rfl dX7_copy_155 ?_
                        refine v_goto (tgt := 127) hC dX7_copy_158 (by decide) ?_
                        exact ih
                    · refine v_aload_0 hC dX7_copy_117 ?_
                      refine v_ldc hC kX7_62 dX7_copy_118 ?_
                      refine v_cv1r hC lX7_63 ⟨by decide, 7, _, rfl, rfl, fun _ _ _ => ⟨_, rfl⟩⟩ (k_X7_found _) ⟨Nat.le_of_ble_eq_true rfl, Nat.le_of_ble_eq_true rfl, rfl, rfl⟩ (Nat.le_of_ble_eq_true rfl) dX7_copy_120 ?_
                      exact v_iretM hC hT (by rw [mfCopy, if_pos ⟨h4, h11⟩, tnI (j := s) (by omega), tnI (j := t) (by omega), if_neg (fun q => q.elim h27 h36), if_pos h58, if_neg (fun q => h114 (lcm_le.mpr q.2.2.2.2))]) dX7_copy_123
          · refine v_aload_0 hC dX7_copy_61 ?_
            refine v_ldc hC kX7_74 dX7_copy_62 ?_
            refine v_cv1r hC lX7_63 ⟨by decide, 7, _, rfl, rfl, fun _ _ _ => ⟨_, rfl⟩⟩ (k_X7_found _) ⟨Nat.le_of_ble_eq_true rfl, Nat.le_of_ble_eq_true rfl, rfl, rfl⟩ (Nat.le_of_ble_eq_true rfl) dX7_copy_64 ?_
            exact v_iretM hC hT (by rw [mfCopy, if_pos ⟨h4, h11⟩, tnI (j := s) (by omega), tnI (j := t) (by omega), if_neg (fun q => q.elim h27 h36), if_neg h58]) dX7_copy_67
        · refine v_aload_0 hC dX7_copy_39 ?_
          refine v_ldc hC kX7_91 dX7_copy_40 ?_
          refine v_cv1r hC lX7_63 ⟨by decide, 7, _, rfl, rfl, fun _ _ _ => ⟨_, rfl⟩⟩ (k_X7_found _) ⟨Nat.le_of_ble_eq_true rfl, Nat.le_of_ble_eq_true rfl, rfl, rfl⟩ (Nat.le_of_ble_eq_true rfl) dX7_copy_42 ?_
          exact v_iretM hC hT (by rw [mfCopy, if_pos ⟨h4, h11⟩, tnI (j := s) (by omega), tnI (j := t) (by omega), if_pos (Or.inr h36)]) dX7_copy_45
    · refine v_aload_0 hC dX7_copy_14 ?_
      refine v_ldc hC kX7_62 dX7_copy_15 ?_
      refine v_cv1r hC lX7_63 ⟨by decide, 7, _, rfl, rfl, fun _ _ _ => ⟨_, rfl⟩⟩ (k_X7_found _) ⟨Nat.le_of_ble_eq_true rfl, Nat.le_of_ble_eq_true rfl, rfl, rfl⟩ (Nat.le_of_ble_eq_true rfl) dX7_copy_17 ?_
      exact v_iretM hC hT (by rw [mfCopy, if_neg (fun q => h11 q.2)]) dX7_copy_20
theorem mdrN_top {μ : St} (hwm : WM μ) {m s : Nat} (hm : m ≤ 23) (hs : s ≤ 3) : (nI (24 - m) ≤ μ 4 s → nI (24 - m) = nI (mdrN μ m s)) ∧ (¬ nI (24 - m) ≤ μ 4 s → μ 4 s = nI (mdrN μ m s)) := by
  obtain ⟨h1, h2⟩ := hwm.2.2.2.2 s (by omega)
  unfold mdrN
  constructor
  · intro h
    rw [h1] at h
    have := (nI_leI (by omega) (by omega)).mp h
    rw [Nat.min_eq_right this]
  · intro h
    rw [h1] at h
    have : ¬ 24 - m ≤ (μ 4 s).toNatClampNeg := fun q => h (nI_le q (by omega))
    rw [Nat.min_eq_left (by omega)]
    exact h1
def fl (μ : St) (s : Nat) : Nat := if μ 3 s = nI 2 then 1 else 0
theorem carOff (s : Nat) (μ : St) (n : Nat) : Offs [6] μ (it0 (fmCar s) n μ) := it0_inv (Offs [6] μ) n Offs.rf (fun _ _ _ h => h.wr (by decide))
theorem k_X7_draws {l : Launch} {E : ET} {σ μ : St} (hwm : WM μ) (w m s : Int32) : Ct l E MX7_draws [.ref (adr E 54), .int w, .int m, .int s] (σ) (μ) (some (.int (mfDraws μ w m s).1)) (σ) ((mfDraws μ w m s).2) := by
  have h10 := hwm.n10
  have l10 := hwm.l10
  refine Ct.of (L := [some (.ref (adr E 54)), some (.int w), some (.int m), some (.int s), none, none, none]) (by decide) rfl (Nat.le_of_ble_eq_true rfl) rfl (fun X hC hT => ?_)
  refine v_aload_0 hC dX7_draws_0 ?_
  refine v_iload_1 hC dX7_draws_1 ?_
  refine v_cv1r hC lX7_68 ⟨by decide, 7, _, rfl, rfl, fun _ _ _ => ⟨_, rfl⟩⟩ (k_X7_isWell _) ⟨Nat.le_of_ble_eq_true rfl, Nat.le_of_ble_eq_true rfl, rfl, rfl⟩ (Nat.le_of_ble_eq_true rfl) dX7_draws_2 ?_
  refine v_ifeqb (tgt := 22) hC dX7_draws_5 (by decide) (fun h5 => ?_) (fun h5 => ?_)
  · refine v_aload_0 hC dX7_draws_22 ?_
    refine v_ldc hC kX7_62 dX7_draws_23 ?_
    refine v_cv1r hC lX7_63 ⟨by decide, 7, _, rfl, rfl, fun _ _ _ => ⟨_, rfl⟩⟩ (k_X7_found _) ⟨Nat.le_of_ble_eq_true rfl, Nat.le_of_ble_eq_true rfl, rfl, rfl⟩ (Nat.le_of_ble_eq_true rfl) dX7_draws_25 ?_
    exact v_iretM hC hT (by rw [mfDraws, if_neg (fun q => h5 q.1)]) dX7_draws_28
  · refine v_iload_2 hC dX7_draws_8 ?_
    refine v_cs1r hC lX7_98 (k_X7_isMonth _) ⟨Nat.le_of_ble_eq_true rfl, Nat.le_of_ble_eq_true rfl, rfl, rfl⟩ (Nat.le_of_ble_eq_true rfl) dX7_draws_9 ?_
    refine v_ifeqb (tgt := 22) hC dX7_draws_12 (by decide) (fun h12 => ?_) (fun h12 => ?_)
    · refine v_aload_0 hC dX7_draws_22 ?_
      refine v_ldc hC kX7_62 dX7_draws_23 ?_
      refine v_cv1r hC lX7_63 ⟨by decide, 7, _, rfl, rfl, fun _ _ _ => ⟨_, rfl⟩⟩ (k_X7_found _) ⟨Nat.le_of_ble_eq_true rfl, Nat.le_of_ble_eq_true rfl, rfl, rfl⟩ (Nat.le_of_ble_eq_true rfl) dX7_draws_25 ?_
      exact v_iretM hC hT (by rw [mfDraws, if_neg (fun q => h12 q.2.1)]) dX7_draws_28
    · refine v_iload_3 hC dX7_draws_15 ?_
      refine v_cs1r hC lX7_86 (k_X7_isSheet _) ⟨Nat.le_of_ble_eq_true rfl, Nat.le_of_ble_eq_true rfl, rfl, rfl⟩ (Nat.le_of_ble_eq_true rfl) dX7_draws_16 ?_
      refine v_ifneb (tgt := 29) hC dX7_draws_19 (by decide) (fun h19 => ?_) (fun h19 => ?_)
      · obtain ⟨w, hw, rfl⟩ := isMW_nat hwm h5
        obtain ⟨m, hm, rfl⟩ := isR_nat (by decide) h12
        obtain ⟨s, hs, rfl⟩ := isR_nat (by decide) h19
        have hz := (hwm.2.2.2.2 s (by omega)).2
        have hdr : mdrN μ m s ≤ 24 - m := Nat.min_le_right _ _
        refine v_aload_0 hC dX7_draws_29 ?_
        refine v_iload_1 hC dX7_draws_30 ?_
        refine v_cv1r hC lX7_71 ⟨by decide, 7, _, rfl, rfl, fun _ _ _ => ⟨_, rfl⟩⟩ (k_X7_kindOf (by omega)) ⟨Nat.le_of_ble_eq_true rfl, Nat.le_of_ble_eq_true rfl, rfl, rfl⟩ (Nat.le_of_ble_eq_true rfl) dX7_draws_31 ?_
        refine v_iconst hC dX7_draws_34 ic_5 ?_
        refine v_icne (tgt := 45) hC dX7_draws_35 (by decide) (fun h35 => ?_) (fun h35 => ?_)
        · refine v_aload_0 hC dX7_draws_45 ?_
          refine v_get hC fX7_16 (by decide) rfl rfl dX7_draws_46 ?_
          refine v_iload_3 hC dX7_draws_49 ?_
          refine w_iald (k := 3) hC N_3 (by first | omega | (simp only [mcl, mRd]; omega)) dX7_draws_50 ?_
          refine v_ifne (tgt := 61) hC dX7_draws_51 (by decide) (fun h51 => ?_) (fun h51 => ?_)
          · refine v_aload_0 hC dX7_draws_61 ?_
            refine v_get hC fX7_19 (by decide) rfl rfl dX7_draws_62 ?_
            refine v_iload_3 hC dX7_draws_65 ?_
            refine w_iald (k := 4) hC N_4 (by first | omega | (simp only [mcl, mRd]; omega)) dX7_draws_66 ?_
            refine v_bipush hC dX7_draws_67 bp_24 ?_
            refine v_iload_2 hC dX7_draws_69 ?_
            refine v_isubN hC dX7_draws_70 (by omega) ?_
            refine v_icge (tgt := 83) hC dX7_draws_71 (by decide) (fun h71 => ?_) (fun h71 => ?_)
            · refine v_bipush hC dX7_draws_83 bp_24 ?_
              refine v_iload_2 hC dX7_draws_85 ?_
              refine v_isubN hC dX7_draws_86 (by omega) ?_
              refine v_top ((mdrN_top hwm hm hs).1 h71) ?_
              refine v_istore_4 hC (by decide) rfl dX7_draws_87 ?_
              refine v_aload_0 hC dX7_draws_89 ?_
              refine v_get hC fX7_16 (by decide) rfl rfl dX7_draws_90 ?_
              refine v_iload_3 hC dX7_draws_93 ?_
              refine w_iald (k := 3) hC N_3 (by first | omega | (simp only [mcl, mRd]; omega)) dX7_draws_94 ?_
              refine v_iconst hC dX7_draws_95 ic_2 ?_
              refine v_icne (tgt := 103) hC dX7_draws_96 (by decide) (fun h96 => ?_) (fun h96 => ?_)
              · refine v_iconst hC dX7_draws_103 ic_0 ?_
                refine v_top (y := nI (fl μ s)) (by rw [fl, if_neg h96]) ?_
                refine v_istore_5 hC (by decide) rfl dX7_draws_104 ?_
                refine v_iconst hC dX7_draws_106 ic_0 ?_
                refine v_istore_6 hC (by decide) rfl dX7_draws_107 ?_
                refine up_loop (fun d : Nat => (∀ i, i < d → ¬ (μ 3 s = nI 2 ∧ noNum (μ 5 (24 * s + i)))) → V X E 109 [some (.ref (adr E 54)), some (.int (nI w)), some (.int (nI m)), some (.int (nI s)), some (.int (nI (mdrN μ m s))), some (.int (nI (fl μ s))), some (.int (nI d))] [] (σ) (μ)) (Nat.zero_le (mdrN μ m s)) (fun hx => ?_) (fun d _ hd ih hx => ?_) (fun i hi => absurd hi (Nat.not_lt_zero i))
                · have hsw : mswn μ s (mdrN μ m s) := hx
                  refine v_iload_6 hC dX7_draws_109 ?_
                  refine v_iload_4 hC dX7_draws_111 ?_
                  refine v_icge (tgt := 152) hC dX7_draws_113 (by decide) (fun h113 => ?_) (fun h113 => absurd (Int32.le_refl _) h113)
                  refine v_iconst hC dX7_draws_152 ic_0 ?_
                  refine v_istore_6 hC (by decide) rfl dX7_draws_153 ?_
                  refine up_loop (fun d : Nat => (scan (fun i => decide (¬ isR (mWhole (it0 (fmCar s) i μ) s i) 1000)) 0 (mdrN μ m s) = scan (fun i => decide (¬ isR (mWhole (it0 (fmCar s) i μ) s i) 1000)) d (mdrN μ m s - d)) → V X E 155 [some (.ref (adr E 54)), some (.int (nI w)), some (.int (nI m)), some (.int (nI s)), some (.int (nI (mdrN μ m s))), some (.int (nI (fl μ s))), some (.int (nI d))] [] (σ) (it0 (fmCar s) d μ)) (Nat.zero_le (mdrN μ m s)) (fun hx => ?_) (fun d _ hd ih hx => ?_) rfl
                  · have hbad : mBad μ s (mdrN μ m s) = none := hx.trans (scan_0 (by omega))
                    refine v_iload_6 hC dX7_draws_155 ?_
                    refine v_iload_4 hC dX7_draws_157 ?_
                    refine v_icge (tgt := 234) hC dX7_draws_159 (by decide) (fun h159 => ?_) (fun h159 => absurd (Int32.le_refl _) h159)
                    refine v_iconst hC dX7_draws_234 ic_0 ?_
                    refine v_istore_6 hC (by decide) rfl dX7_draws_235 ?_
                    refine up_loop (fun d : Nat => V X E 237 [some (.ref (adr E 54)), some (.int (nI w)), some (.int (nI m)), some (.int (nI s)), some (.int (nI (mdrN μ m s))), some (.int (nI (fl μ s))), some (.int (nI d))] [] (σ) (it0 (fmDrw w m) d (it0 (fmCar s) (mdrN μ m s) μ))) (Nat.zero_le (mdrN μ m s)) ?_ (fun d _ hd ih => ?_)
                    · refine v_iload_6 hC dX7_draws_237 ?_
                      refine v_iload_4 hC dX7_draws_239 ?_
                      refine v_icge (tgt := 274) hC dX7_draws_241 (by decide) (fun h241 => ?_) (fun h241 => absurd (Int32.le_refl _) h241)
                      refine v_iload_4 hC dX7_draws_274 ?_
                      exact v_iretM hC hT (by rw [mfDraws, if_pos ⟨h5, h12, h19⟩, tnI (j := w) (by omega), tnI (j := m) (by omega), tnI (j := s) (by omega), if_neg h35, if_neg h51, if_pos hsw, mDrws, hbad]) dX7_draws_276
                    · refine v_iload_6 hC dX7_draws_237 ?_
                      refine v_iload_4 hC dX7_draws_239 ?_
                      refine v_icge (tgt := 274) hC dX7_draws_241 (by decide) (fun h241 => absurd h241 (nI_ge hd (by omega))) (fun h241 => ?_)
                      refine v_aload_0 hC dX7_draws_244 ?_
                      refine v_get hC fX7_7 (by decide) rfl rfl dX7_draws_245 ?_
                      refine v_bipush hC dX7_draws_248 bp_50 ?_
                      refine v_bipush hC dX7_draws_250 bp_24 ?_
                      refine v_iload_1 hC dX7_draws_252 ?_
                      refine v_imulN hC dX7_draws_253 ?_
                      refine v_iaddN hC dX7_draws_254 ?_
                      refine v_iload_2 hC dX7_draws_255 ?_
                      refine v_iaddN hC dX7_draws_256 ?_
                      refine v_iload_6 hC dX7_draws_257 ?_
                      refine v_iaddN hC dX7_draws_259 ?_
                      refine v_aload_0 hC dX7_draws_260 ?_
                      refine v_get hC fX7_25 (by decide) rfl rfl dX7_draws_261 ?_
                      refine v_iload_6 hC dX7_draws_264 ?_
                      refine w_iald (k := 6) hC N_6 (by first | omega | (simp only [mcl, mRd]; omega)) dX7_draws_266 ?_
                      refine w_iast (k := 1) hC N_1 (by first | omega | (simp only [mcl, mRd]; omega)) dX7_draws_267 ?_
                      refine v_iinc1_6 hC (by decide) rfl dX7_draws_268 ?_
                      refine v_goto (tgt := 237) hC dX7_draws_271 (by decide) ?_
                      exact ih
                  · refine v_iload_6 hC dX7_draws_155 ?_
                    refine v_iload_4 hC dX7_draws_157 ?_
                    refine v_icge (tgt := 234) hC dX7_draws_159 (by decide) (fun h159 => absurd h159 (nI_ge hd (by omega))) (fun h159 => ?_)
                    refine v_aload_0 hC dX7_draws_162 ?_
                    refine v_get hC fX7_25 (by decide) rfl rfl dX7_draws_163 ?_
                    refine v_iload_6 hC dX7_draws_166 ?_
                    refine v_iload_5 hC dX7_draws_168 ?_
                    refine v_ifeq (tgt := 191) hC dX7_draws_170 (by decide) (fun h170 => ?_) (fun h170 => ?_)
                    · refine v_aload_0 hC dX7_draws_191 ?_
                      refine v_get hC fX7_22 (by decide) rfl rfl dX7_draws_192 ?_
                      refine v_bipush hC dX7_draws_195 bp_24 ?_
                      refine v_iload_3 hC dX7_draws_197 ?_
                      refine v_imulN hC dX7_draws_198 ?_
                      refine v_iload_6 hC dX7_draws_199 ?_
                      refine v_iaddN hC dX7_draws_201 ?_
                      refine w_iald (k := 5) hC N_5 (by first | omega | (simp only [mcl, mRd]; omega)) dX7_draws_202 ?_
                      refine v_top (y := mWhole (it0 (fmCar s) d μ) s d) (by rw [mWhole, carOff s μ d 3 (by decide), if_neg (fun q => by rw [fl, if_pos q] at h170; exact absurd h170 (by decide))]) ?_
                      refine w_iast (k := 6) hC N_6 (by first | omega | (simp only [mcl, mRd]; omega)) dX7_draws_203 ?_
                      refine v_aload_0 hC dX7_draws_204 ?_
                      refine v_get hC fX7_25 (by decide) rfl rfl dX7_draws_205 ?_
                      refine v_iload_6 hC dX7_draws_208 ?_
                      refine w_iald (k := 6) hC N_6 (by first | omega | (simp only [mcl, mRd]; omega)) dX7_draws_210 ?_
                      refine v_iconst hC dX7_draws_211 ic_0 ?_
                      refine v_sipush hC dX7_draws_212 sp_1000 ?_
                      refine v_cs3r hC lX7_48 (k_X7_in _ _ _) ⟨Nat.le_of_ble_eq_true rfl, Nat.le_of_ble_eq_true rfl, rfl, rfl⟩ (Nat.le_of_ble_eq_true rfl) dX7_draws_215 ?_
                      rw [show wr (it0 (fmCar s) d μ) 6 d (mWhole (it0 (fmCar s) d μ) s d) 6 d = mWhole (it0 (fmCar s) d μ) s d from wr_in]
                      refine v_ifneb (tgt := 228) hC dX7_draws_218 (by decide) (fun h218 => ?_) (fun h218 => ?_)
                      · have h218x := h218
                        refine v_iinc1_6 hC (by decide) rfl dX7_draws_228 ?_
                        refine v_goto (tgt := 155) hC dX7_draws_231 (by decide) ?_
                        exact ih (hx.trans (scan_f (by simpa using h218x) (by omega)))
                      · refine v_aload_0 hC dX7_draws_221 ?_
                        refine v_ldc hC kX7_62 dX7_draws_222 ?_
                        refine v_cv1r hC lX7_63 ⟨by decide, 7, _, rfl, rfl, fun _ _ _ => ⟨_, rfl⟩⟩ (k_X7_found _) ⟨Nat.le_of_ble_eq_true rfl, Nat.le_of_ble_eq_true rfl, rfl, rfl⟩ (Nat.le_of_ble_eq_true rfl) dX7_draws_224 ?_
                        exact v_iretM hC hT (by rw [mfDraws, if_pos ⟨h5, h12, h19⟩, tnI (j := w) (by omega), tnI (j := m) (by omega), tnI (j := s) (by omega), if_neg h35, if_neg h51, if_pos hsw, mDrws, show mBad μ s (mdrN μ m s) = some d from hx.trans (scan_t (decide_eq_true h218) (by omega))]; rfl) dX7_draws_227
                    · refine v_aload_0 hC dX7_draws_173 ?_
                      refine v_get hC fX7_22 (by decide) rfl rfl dX7_draws_174 ?_
                      refine v_bipush hC dX7_draws_177 bp_24 ?_
                      refine v_iload_3 hC dX7_draws_179 ?_
                      refine v_imulN hC dX7_draws_180 ?_
                      refine v_iload_6 hC dX7_draws_181 ?_
                      refine v_iaddN hC dX7_draws_183 ?_
                      refine w_iald (k := 5) hC N_5 (by first | omega | (simp only [mcl, mRd]; omega)) dX7_draws_184 ?_
                      refine v_cs1r hC lX7_102 (k_X7_cut _) ⟨Nat.le_of_ble_eq_true rfl, Nat.le_of_ble_eq_true rfl, rfl, rfl⟩ (Nat.le_of_ble_eq_true rfl) dX7_draws_185 ?_
                      refine v_goto (tgt := 203) hC dX7_draws_188 (by decide) ?_
                      refine v_top (y := mWhole (it0 (fmCar s) d μ) s d) (by rw [mWhole, carOff s μ d 3 (by decide), if_pos (by by_cases q : μ 3 s = nI 2; exact q; exact absurd (by rw [fl, if_neg q]; decide) h170)]) ?_
                      refine w_iast (k := 6) hC N_6 (by first | omega | (simp only [mcl, mRd]; omega)) dX7_draws_203 ?_
                      refine v_aload_0 hC dX7_draws_204 ?_
                      refine v_get hC fX7_25 (by decide) rfl rfl dX7_draws_205 ?_
                      refine v_iload_6 hC dX7_draws_208 ?_
                      refine w_iald (k := 6) hC N_6 (by first | omega | (simp only [mcl, mRd]; omega)) dX7_draws_210 ?_
                      refine v_iconst hC dX7_draws_211 ic_0 ?_
                      refine v_sipush hC dX7_draws_212 sp_1000 ?_
                      refine v_cs3r hC lX7_48 (k_X7_in _ _ _) ⟨Nat.le_of_ble_eq_true rfl, Nat.le_of_ble_eq_true rfl, rfl, rfl⟩ (Nat.le_of_ble_eq_true rfl) dX7_draws_215 ?_
                      rw [show wr (it0 (fmCar s) d μ) 6 d (mWhole (it0 (fmCar s) d μ) s d) 6 d = mWhole (it0 (fmCar s) d μ) s d from wr_in]
                      refine v_ifneb (tgt := 228) hC dX7_draws_218 (by decide) (fun h218 => ?_) (fun h218 => ?_)
                      · have h218x := h218
                        refine v_iinc1_6 hC (by decide) rfl dX7_draws_228 ?_
                        refine v_goto (tgt := 155) hC dX7_draws_231 (by decide) ?_
                        exact ih (hx.trans (scan_f (by simpa using h218x) (by omega)))
                      · refine v_aload_0 hC dX7_draws_221 ?_
                        refine v_ldc hC kX7_62 dX7_draws_222 ?_
                        refine v_cv1r hC lX7_63 ⟨by decide, 7, _, rfl, rfl, fun _ _ _ => ⟨_, rfl⟩⟩ (k_X7_found _) ⟨Nat.le_of_ble_eq_true rfl, Nat.le_of_ble_eq_true rfl, rfl, rfl⟩ (Nat.le_of_ble_eq_true rfl) dX7_draws_224 ?_
                        exact v_iretM hC hT (by rw [mfDraws, if_pos ⟨h5, h12, h19⟩, tnI (j := w) (by omega), tnI (j := m) (by omega), tnI (j := s) (by omega), if_neg h35, if_neg h51, if_pos hsw, mDrws, show mBad μ s (mdrN μ m s) = some d from hx.trans (scan_t (decide_eq_true h218) (by omega))]; rfl) dX7_draws_227
                · refine v_iload_6 hC dX7_draws_109 ?_
                  refine v_iload_4 hC dX7_draws_111 ?_
                  refine v_icge (tgt := 152) hC dX7_draws_113 (by decide) (fun h113 => absurd h113 (nI_ge hd (by omega))) (fun h113 => ?_)
                  refine v_iload_5 hC dX7_draws_116 ?_
                  refine v_ifeq (tgt := 152) hC dX7_draws_118 (by decide) (fun h118 => ?_) (fun h118 => ?_)
                  · have hsw : mswn μ s (mdrN μ m s) := fun i _ q => by rw [fl, if_pos q.1] at h118; exact absurd h118 (by decide)
                    refine v_iconst hC dX7_draws_152 ic_0 ?_
                    refine v_istore_6 hC (by decide) rfl dX7_draws_153 ?_
                    refine up_loop (fun d : Nat => (scan (fun i => decide (¬ isR (mWhole (it0 (fmCar s) i μ) s i) 1000)) 0 (mdrN μ m s) = scan (fun i => decide (¬ isR (mWhole (it0 (fmCar s) i μ) s i) 1000)) d (mdrN μ m s - d)) → V X E 155 [some (.ref (adr E 54)), some (.int (nI w)), some (.int (nI m)), some (.int (nI s)), some (.int (nI (mdrN μ m s))), some (.int (nI (fl μ s))), some (.int (nI d))] [] (σ) (it0 (fmCar s) d μ)) (Nat.zero_le (mdrN μ m s)) (fun hx => ?_) (fun d _ hd ih hx => ?_) rfl
                    · have hbad : mBad μ s (mdrN μ m s) = none := hx.trans (scan_0 (by omega))
                      refine v_iload_6 hC dX7_draws_155 ?_
                      refine v_iload_4 hC dX7_draws_157 ?_
                      refine v_icge (tgt := 234) hC dX7_draws_159 (by decide) (fun h159 => ?_) (fun h159 => absurd (Int32.le_refl _) h159)
                      refine v_iconst hC dX7_draws_234 ic_0 ?_
                      refine v_istore_6 hC (by decide) rfl dX7_draws_235 ?_
                      refine up_loop (fun d : Nat => V X E 237 [some (.ref (adr E 54)), some (.int (nI w)), some (.int (nI m)), some (.int (nI s)), some (.int (nI (mdrN μ m s))), some (.int (nI (fl μ s))), some (.int (nI d))] [] (σ) (it0 (fmDrw w m) d (it0 (fmCar s) (mdrN μ m s) μ))) (Nat.zero_le (mdrN μ m s)) ?_ (fun d _ hd ih => ?_)
                      · refine v_iload_6 hC dX7_draws_237 ?_
                        refine v_iload_4 hC dX7_draws_239 ?_
                        refine v_icge (tgt := 274) hC dX7_draws_241 (by decide) (fun h241 => ?_) (fun h241 => absurd (Int32.le_refl _) h241)
                        refine v_iload_4 hC dX7_draws_274 ?_
                        exact v_iretM hC hT (by rw [mfDraws, if_pos ⟨h5, h12, h19⟩, tnI (j := w) (by omega), tnI (j := m) (by omega), tnI (j := s) (by omega), if_neg h35, if_neg h51, if_pos hsw, mDrws, hbad]) dX7_draws_276
                      · refine v_iload_6 hC dX7_draws_237 ?_
                        refine v_iload_4 hC dX7_draws_239 ?_
                        refine v_icge (tgt := 274) hC dX7_draws_241 (by decide) (fun h241 => absurd h241 (nI_ge hd (by omega))) (fun h241 => ?_)
                        refine v_aload_0 hC dX7_draws_244 ?_
                        refine v_get hC fX7_7 (by decide) rfl rfl dX7_draws_245 ?_
                        refine v_bipush hC dX7_draws_248 bp_50 ?_
                        refine v_bipush hC dX7_draws_250 bp_24 ?_
                        refine v_iload_1 hC dX7_draws_252 ?_
                        refine v_imulN hC dX7_draws_253 ?_
                        refine v_iaddN hC dX7_draws_254 ?_
                        refine v_iload_2 hC dX7_draws_255 ?_
                        refine v_iaddN hC dX7_draws_256 ?_
                        refine v_iload_6 hC dX7_draws_257 ?_
                        refine v_iaddN hC dX7_draws_259 ?_
                        refine v_aload_0 hC dX7_draws_260 ?_
                        refine v_get hC fX7_25 (by decide) rfl rfl dX7_draws_261 ?_
                        refine v_iload_6 hC dX7_draws_264 ?_
                        refine w_iald (k := 6) hC N_6 (by first | omega | (simp only [mcl, mRd]; omega)) dX7_draws_266 ?_
                        refine w_iast (k := 1) hC N_1 (by first | omega | (simp only [mcl, mRd]; omega)) dX7_draws_267 ?_
                        refine v_iinc1_6 hC (by decide) rfl dX7_draws_268 ?_
                        refine v_goto (tgt := 237) hC dX7_draws_271 (by decide) ?_
                        exact ih
                    · refine v_iload_6 hC dX7_draws_155 ?_
                      refine v_iload_4 hC dX7_draws_157 ?_
                      refine v_icge (tgt := 234) hC dX7_draws_159 (by decide) (fun h159 => absurd h159 (nI_ge hd (by omega))) (fun h159 => ?_)
                      refine v_aload_0 hC dX7_draws_162 ?_
                      refine v_get hC fX7_25 (by decide) rfl rfl dX7_draws_163 ?_
                      refine v_iload_6 hC dX7_draws_166 ?_
                      refine v_iload_5 hC dX7_draws_168 ?_
                      refine v_ifeq (tgt := 191) hC dX7_draws_170 (by decide) (fun h170 => ?_) (fun h170 => ?_)
                      · refine v_aload_0 hC dX7_draws_191 ?_
                        refine v_get hC fX7_22 (by decide) rfl rfl dX7_draws_192 ?_
                        refine v_bipush hC dX7_draws_195 bp_24 ?_
                        refine v_iload_3 hC dX7_draws_197 ?_
                        refine v_imulN hC dX7_draws_198 ?_
                        refine v_iload_6 hC dX7_draws_199 ?_
                        refine v_iaddN hC dX7_draws_201 ?_
                        refine w_iald (k := 5) hC N_5 (by first | omega | (simp only [mcl, mRd]; omega)) dX7_draws_202 ?_
                        refine v_top (y := mWhole (it0 (fmCar s) d μ) s d) (by rw [mWhole, carOff s μ d 3 (by decide), if_neg (fun q => by rw [fl, if_pos q] at h170; exact absurd h170 (by decide))]) ?_
                        refine w_iast (k := 6) hC N_6 (by first | omega | (simp only [mcl, mRd]; omega)) dX7_draws_203 ?_
                        refine v_aload_0 hC dX7_draws_204 ?_
                        refine v_get hC fX7_25 (by decide) rfl rfl dX7_draws_205 ?_
                        refine v_iload_6 hC dX7_draws_208 ?_
                        refine w_iald (k := 6) hC N_6 (by first | omega | (simp only [mcl, mRd]; omega)) dX7_draws_210 ?_
                        refine v_iconst hC dX7_draws_211 ic_0 ?_
                        refine v_sipush hC dX7_draws_212 sp_1000 ?_
                        refine v_cs3r hC lX7_48 (k_X7_in _ _ _) ⟨Nat.le_of_ble_eq_true rfl, Nat.le_of_ble_eq_true rfl, rfl, rfl⟩ (Nat.le_of_ble_eq_true rfl) dX7_draws_215 ?_
                        rw [show wr (it0 (fmCar s) d μ) 6 d (mWhole (it0 (fmCar s) d μ) s d) 6 d = mWhole (it0 (fmCar s) d μ) s d from wr_in]
                        refine v_ifneb (tgt := 228) hC dX7_draws_218 (by decide) (fun h218 => ?_) (fun h218 => ?_)
                        · have h218x := h218
                          refine v_iinc1_6 hC (by decide) rfl dX7_draws_228 ?_
                          refine v_goto (tgt := 155) hC dX7_draws_231 (by decide) ?_
                          exact ih (hx.trans (scan_f (by simpa using h218x) (by omega)))
                        · refine v_aload_0 hC dX7_draws_221 ?_
                          refine v_ldc hC kX7_62 dX7_draws_222 ?_
                          refine v_cv1r hC lX7_63 ⟨by decide, 7, _, rfl, rfl, fun _ _ _ => ⟨_, rfl⟩⟩ (k_X7_found _) ⟨Nat.le_of_ble_eq_true rfl, Nat.le_of_ble_eq_true rfl, rfl, rfl⟩ (Nat.le_of_ble_eq_true rfl) dX7_draws_224 ?_
                          exact v_iretM hC hT (by rw [mfDraws, if_pos ⟨h5, h12, h19⟩, tnI (j := w) (by omega), tnI (j := m) (by omega), tnI (j := s) (by omega), if_neg h35, if_neg h51, if_pos hsw, mDrws, show mBad μ s (mdrN μ m s) = some d from hx.trans (scan_t (decide_eq_true h218) (by omega))]; rfl) dX7_draws_227
                      · refine v_aload_0 hC dX7_draws_173 ?_
                        refine v_get hC fX7_22 (by decide) rfl rfl dX7_draws_174 ?_
                        refine v_bipush hC dX7_draws_177 bp_24 ?_
                        refine v_iload_3 hC dX7_draws_179 ?_
                        refine v_imulN hC dX7_draws_180 ?_
                        refine v_iload_6 hC dX7_draws_181 ?_
                        refine v_iaddN hC dX7_draws_183 ?_
                        refine w_iald (k := 5) hC N_5 (by first | omega | (simp only [mcl, mRd]; omega)) dX7_draws_184 ?_
                        refine v_cs1r hC lX7_102 (k_X7_cut _) ⟨Nat.le_of_ble_eq_true rfl, Nat.le_of_ble_eq_true rfl, rfl, rfl⟩ (Nat.le_of_ble_eq_true rfl) dX7_draws_185 ?_
                        refine v_goto (tgt := 203) hC dX7_draws_188 (by decide) ?_
                        refine v_top (y := mWhole (it0 (fmCar s) d μ) s d) (by rw [mWhole, carOff s μ d 3 (by decide), if_pos (by by_cases q : μ 3 s = nI 2; exact q; exact absurd (by rw [fl, if_neg q]; decide) h170)]) ?_
                        refine w_iast (k := 6) hC N_6 (by first | omega | (simp only [mcl, mRd]; omega)) dX7_draws_203 ?_
                        refine v_aload_0 hC dX7_draws_204 ?_
                        refine v_get hC fX7_25 (by decide) rfl rfl dX7_draws_205 ?_
                        refine v_iload_6 hC dX7_draws_208 ?_
                        refine w_iald (k := 6) hC N_6 (by first | omega | (simp only [mcl, mRd]; omega)) dX7_draws_210 ?_
                        refine v_iconst hC dX7_draws_211 ic_0 ?_
                        refine v_sipush hC dX7_draws_212 sp_1000 ?_
                        refine v_cs3r hC lX7_48 (k_X7_in _ _ _) ⟨Nat.le_of_ble_eq_true rfl, Nat.le_of_ble_eq_true rfl, rfl, rfl⟩ (Nat.le_of_ble_eq_true rfl) dX7_draws_215 ?_
                        rw [show wr (it0 (fmCar s) d μ) 6 d (mWhole (it0 (fmCar s) d μ) s d) 6 d = mWhole (it0 (fmCar s) d μ) s d from wr_in]
                        refine v_ifneb (tgt := 228) hC dX7_draws_218 (by decide) (fun h218 => ?_) (fun h218 => ?_)
                        · have h218x := h218
                          refine v_iinc1_6 hC (by decide) rfl dX7_draws_228 ?_
                          refine v_goto (tgt := 155) hC dX7_draws_231 (by decide) ?_
                          exact ih (hx.trans (scan_f (by simpa using h218x) (by omega)))
                        · refine v_aload_0 hC dX7_draws_221 ?_
                          refine v_ldc hC kX7_62 dX7_draws_222 ?_
                          refine v_cv1r hC lX7_63 ⟨by decide, 7, _, rfl, rfl, fun _ _ _ => ⟨_, rfl⟩⟩ (k_X7_found _) ⟨Nat.le_of_ble_eq_true rfl, Nat.le_of_ble_eq_true rfl, rfl, rfl⟩ (Nat.le_of_ble_eq_true rfl) dX7_draws_224 ?_
                          exact v_iretM hC hT (by rw [mfDraws, if_pos ⟨h5, h12, h19⟩, tnI (j := w) (by omega), tnI (j := m) (by omega), tnI (j := s) (by omega), if_neg h35, if_neg h51, if_pos hsw, mDrws, show mBad μ s (mdrN μ m s) = some d from hx.trans (scan_t (decide_eq_true h218) (by omega))]; rfl) dX7_draws_227
                  · refine v_aload_0 hC dX7_draws_121 ?_
                    refine v_get hC fX7_22 (by decide) rfl rfl dX7_draws_122 ?_
                    refine v_bipush hC dX7_draws_125 bp_24 ?_
                    refine v_iload_3 hC dX7_draws_127 ?_
                    refine v_imulN hC dX7_draws_128 ?_
                    refine v_iload_6 hC dX7_draws_129 ?_
                    refine v_iaddN hC dX7_draws_131 ?_
                    refine w_iald (k := 5) hC N_5 (by first | omega | (simp only [mcl, mRd]; omega)) dX7_draws_132 ?_
                    refine v_cs1r hC lX7_92 (k_X7_isNone _) ⟨Nat.le_of_ble_eq_true rfl, Nat.le_of_ble_eq_true rfl, rfl, rfl⟩ (Nat.le_of_ble_eq_true rfl) dX7_draws_133 ?_
                    refine v_ifeqb (tgt := 146) hC dX7_draws_136 (by decide) (fun h136 => ?_) (fun h136 => ?_)
                    · refine v_iinc1_6 hC (by decide) rfl dX7_draws_146 ?_
                      refine v_goto (tgt := 109) hC dX7_draws_149 (by decide) ?_
                      exact ih (all_s hx (fun q => h136 q.2))
                    · refine v_aload_0 hC dX7_draws_139 ?_
                      refine v_ldc hC kX7_101 dX7_draws_140 ?_
                      refine v_cv1r hC lX7_63 ⟨by decide, 7, _, rfl, rfl, fun _ _ _ => ⟨_, rfl⟩⟩ (k_X7_found _) ⟨Nat.le_of_ble_eq_true rfl, Nat.le_of_ble_eq_true rfl, rfl, rfl⟩ (Nat.le_of_ble_eq_true rfl) dX7_draws_142 ?_
                      exact v_iretM hC hT (by rw [mfDraws, if_pos ⟨h5, h12, h19⟩, tnI (j := w) (by omega), tnI (j := m) (by omega), tnI (j := s) (by omega), if_neg h35, if_neg h51, if_neg (fun q => q d hd ⟨by by_cases z : μ 3 s = nI 2; exact z; exact absurd (by rw [fl, if_neg z]; decide) h118, h136⟩)]) dX7_draws_145
              · refine v_iconst hC dX7_draws_99 ic_1 ?_
                refine v_goto (tgt := 104) hC dX7_draws_100 (by decide) ?_
                refine v_top (y := nI (fl μ s)) (by rw [fl, if_pos h96]) ?_
                refine v_istore_5 hC (by decide) rfl dX7_draws_104 ?_
                refine v_iconst hC dX7_draws_106 ic_0 ?_
                refine v_istore_6 hC (by decide) rfl dX7_draws_107 ?_
                refine up_loop (fun d : Nat => (∀ i, i < d → ¬ (μ 3 s = nI 2 ∧ noNum (μ 5 (24 * s + i)))) → V X E 109 [some (.ref (adr E 54)), some (.int (nI w)), some (.int (nI m)), some (.int (nI s)), some (.int (nI (mdrN μ m s))), some (.int (nI (fl μ s))), some (.int (nI d))] [] (σ) (μ)) (Nat.zero_le (mdrN μ m s)) (fun hx => ?_) (fun d _ hd ih hx => ?_) (fun i hi => absurd hi (Nat.not_lt_zero i))
                · have hsw : mswn μ s (mdrN μ m s) := hx
                  refine v_iload_6 hC dX7_draws_109 ?_
                  refine v_iload_4 hC dX7_draws_111 ?_
                  refine v_icge (tgt := 152) hC dX7_draws_113 (by decide) (fun h113 => ?_) (fun h113 => absurd (Int32.le_refl _) h113)
                  refine v_iconst hC dX7_draws_152 ic_0 ?_
                  refine v_istore_6 hC (by decide) rfl dX7_draws_153 ?_
                  refine up_loop (fun d : Nat => (scan (fun i => decide (¬ isR (mWhole (it0 (fmCar s) i μ) s i) 1000)) 0 (mdrN μ m s) = scan (fun i => decide (¬ isR (mWhole (it0 (fmCar s) i μ) s i) 1000)) d (mdrN μ m s - d)) → V X E 155 [some (.ref (adr E 54)), some (.int (nI w)), some (.int (nI m)), some (.int (nI s)), some (.int (nI (mdrN μ m s))), some (.int (nI (fl μ s))), some (.int (nI d))] [] (σ) (it0 (fmCar s) d μ)) (Nat.zero_le (mdrN μ m s)) (fun hx => ?_) (fun d _ hd ih hx => ?_) rfl
                  · have hbad : mBad μ s (mdrN μ m s) = none := hx.trans (scan_0 (by omega))
                    refine v_iload_6 hC dX7_draws_155 ?_
                    refine v_iload_4 hC dX7_draws_157 ?_
                    refine v_icge (tgt := 234) hC dX7_draws_159 (by decide) (fun h159 => ?_) (fun h159 => absurd (Int32.le_refl _) h159)
                    refine v_iconst hC dX7_draws_234 ic_0 ?_
                    refine v_istore_6 hC (by decide) rfl dX7_draws_235 ?_
                    refine up_loop (fun d : Nat => V X E 237 [some (.ref (adr E 54)), some (.int (nI w)), some (.int (nI m)), some (.int (nI s)), some (.int (nI (mdrN μ m s))), some (.int (nI (fl μ s))), some (.int (nI d))] [] (σ) (it0 (fmDrw w m) d (it0 (fmCar s) (mdrN μ m s) μ))) (Nat.zero_le (mdrN μ m s)) ?_ (fun d _ hd ih => ?_)
                    · refine v_iload_6 hC dX7_draws_237 ?_
                      refine v_iload_4 hC dX7_draws_239 ?_
                      refine v_icge (tgt := 274) hC dX7_draws_241 (by decide) (fun h241 => ?_) (fun h241 => absurd (Int32.le_refl _) h241)
                      refine v_iload_4 hC dX7_draws_274 ?_
                      exact v_iretM hC hT (by rw [mfDraws, if_pos ⟨h5, h12, h19⟩, tnI (j := w) (by omega), tnI (j := m) (by omega), tnI (j := s) (by omega), if_neg h35, if_neg h51, if_pos hsw, mDrws, hbad]) dX7_draws_276
                    · refine v_iload_6 hC dX7_draws_237 ?_
                      refine v_iload_4 hC dX7_draws_239 ?_
                      refine v_icge (tgt := 274) hC dX7_draws_241 (by decide) (fun h241 => absurd h241 (nI_ge hd (by omega))) (fun h241 => ?_)
                      refine v_aload_0 hC dX7_draws_244 ?_
                      refine v_get hC fX7_7 (by decide) rfl rfl dX7_draws_245 ?_
                      refine v_bipush hC dX7_draws_248 bp_50 ?_
                      refine v_bipush hC dX7_draws_250 bp_24 ?_
                      refine v_iload_1 hC dX7_draws_252 ?_
                      refine v_imulN hC dX7_draws_253 ?_
                      refine v_iaddN hC dX7_draws_254 ?_
                      refine v_iload_2 hC dX7_draws_255 ?_
                      refine v_iaddN hC dX7_draws_256 ?_
                      refine v_iload_6 hC dX7_draws_257 ?_
                      refine v_iaddN hC dX7_draws_259 ?_
                      refine v_aload_0 hC dX7_draws_260 ?_
                      refine v_get hC fX7_25 (by decide) rfl rfl dX7_draws_261 ?_
                      refine v_iload_6 hC dX7_draws_264 ?_
                      refine w_iald (k := 6) hC N_6 (by first | omega | (simp only [mcl, mRd]; omega)) dX7_draws_266 ?_
                      refine w_iast (k := 1) hC N_1 (by first | omega | (simp only [mcl, mRd]; omega)) dX7_draws_267 ?_
                      refine v_iinc1_6 hC (by decide) rfl dX7_draws_268 ?_
                      refine v_goto (tgt := 237) hC dX7_draws_271 (by decide) ?_
                      exact ih
                  · refine v_iload_6 hC dX7_draws_155 ?_
                    refine v_iload_4 hC dX7_draws_157 ?_
                    refine v_icge (tgt := 234) hC dX7_draws_159 (by decide) (fun h159 => absurd h159 (nI_ge hd (by omega))) (fun h159 => ?_)
                    refine v_aload_0 hC dX7_draws_162 ?_
                    refine v_get hC fX7_25 (by decide) rfl rfl dX7_draws_163 ?_
                    refine v_iload_6 hC dX7_draws_166 ?_
                    refine v_iload_5 hC dX7_draws_168 ?_
                    refine v_ifeq (tgt := 191) hC dX7_draws_170 (by decide) (fun h170 => ?_) (fun h170 => ?_)
                    · refine v_aload_0 hC dX7_draws_191 ?_
                      refine v_get hC fX7_22 (by decide) rfl rfl dX7_draws_192 ?_
                      refine v_bipush hC dX7_draws_195 bp_24 ?_
                      refine v_iload_3 hC dX7_draws_197 ?_
                      refine v_imulN hC dX7_draws_198 ?_
                      refine v_iload_6 hC dX7_draws_199 ?_
                      refine v_iaddN hC dX7_draws_201 ?_
                      refine w_iald (k := 5) hC N_5 (by first | omega | (simp only [mcl, mRd]; omega)) dX7_draws_202 ?_
                      refine v_top (y := mWhole (it0 (fmCar s) d μ) s d) (by rw [mWhole, carOff s μ d 3 (by decide), if_neg (fun q => by rw [fl, if_pos q] at h170; exact absurd h170 (by decide))]) ?_
                      refine w_iast (k := 6) hC N_6 (by first | omega | (simp only [mcl, mRd]; omega)) dX7_draws_203 ?_
                      refine v_aload_0 hC dX7_draws_204 ?_
                      refine v_get hC fX7_25 (by decide) rfl rfl dX7_draws_205 ?_
                      refine v_iload_6 hC dX7_draws_208 ?_
                      refine w_iald (k := 6) hC N_6 (by first | omega | (simp only [mcl, mRd]; omega)) dX7_draws_210 ?_
                      refine v_iconst hC dX7_draws_211 ic_0 ?_
                      refine v_sipush hC dX7_draws_212 sp_1000 ?_
                      refine v_cs3r hC lX7_48 (k_X7_in _ _ _) ⟨Nat.le_of_ble_eq_true rfl, Nat.le_of_ble_eq_true rfl, rfl, rfl⟩ (Nat.le_of_ble_eq_true rfl) dX7_draws_215 ?_
                      rw [show wr (it0 (fmCar s) d μ) 6 d (mWhole (it0 (fmCar s) d μ) s d) 6 d = mWhole (it0 (fmCar s) d μ) s d from wr_in]
                      refine v_ifneb (tgt := 228) hC dX7_draws_218 (by decide) (fun h218 => ?_) (fun h218 => ?_)
                      · have h218x := h218
                        refine v_iinc1_6 hC (by decide) rfl dX7_draws_228 ?_
                        refine v_goto (tgt := 155) hC dX7_draws_231 (by decide) ?_
                        exact ih (hx.trans (scan_f (by simpa using h218x) (by omega)))
                      · refine v_aload_0 hC dX7_draws_221 ?_
                        refine v_ldc hC kX7_62 dX7_draws_222 ?_
                        refine v_cv1r hC lX7_63 ⟨by decide, 7, _, rfl, rfl, fun _ _ _ => ⟨_, rfl⟩⟩ (k_X7_found _) ⟨Nat.le_of_ble_eq_true rfl, Nat.le_of_ble_eq_true rfl, rfl, rfl⟩ (Nat.le_of_ble_eq_true rfl) dX7_draws_224 ?_
                        exact v_iretM hC hT (by rw [mfDraws, if_pos ⟨h5, h12, h19⟩, tnI (j := w) (by omega), tnI (j := m) (by omega), tnI (j := s) (by omega), if_neg h35, if_neg h51, if_pos hsw, mDrws, show mBad μ s (mdrN μ m s) = some d from hx.trans (scan_t (decide_eq_true h218) (by omega))]; rfl) dX7_draws_227
                    · refine v_aload_0 hC dX7_draws_173 ?_
                      refine v_get hC fX7_22 (by decide) rfl rfl dX7_draws_174 ?_
                      refine v_bipush hC dX7_draws_177 bp_24 ?_
                      refine v_iload_3 hC dX7_draws_179 ?_
                      refine v_imulN hC dX7_draws_180 ?_
                      refine v_iload_6 hC dX7_draws_181 ?_
                      refine v_iaddN hC dX7_draws_183 ?_
                      refine w_iald (k := 5) hC N_5 (by first | omega | (simp only [mcl, mRd]; omega)) dX7_draws_184 ?_
                      refine v_cs1r hC lX7_102 (k_X7_cut _) ⟨Nat.le_of_ble_eq_true rfl, Nat.le_of_ble_eq_true rfl, rfl, rfl⟩ (Nat.le_of_ble_eq_true rfl) dX7_draws_185 ?_
                      refine v_goto (tgt := 203) hC dX7_draws_188 (by decide) ?_
                      refine v_top (y := mWhole (it0 (fmCar s) d μ) s d) (by rw [mWhole, carOff s μ d 3 (by decide), if_pos (by by_cases q : μ 3 s = nI 2; exact q; exact absurd (by rw [fl, if_neg q]; decide) h170)]) ?_
                      refine w_iast (k := 6) hC N_6 (by first | omega | (simp only [mcl, mRd]; omega)) dX7_draws_203 ?_
                      refine v_aload_0 hC dX7_draws_204 ?_
                      refine v_get hC fX7_25 (by decide) rfl rfl dX7_draws_205 ?_
                      refine v_iload_6 hC dX7_draws_208 ?_
                      refine w_iald (k := 6) hC N_6 (by first | omega | (simp only [mcl, mRd]; omega)) dX7_draws_210 ?_
                      refine v_iconst hC dX7_draws_211 ic_0 ?_
                      refine v_sipush hC dX7_draws_212 sp_1000 ?_
                      refine v_cs3r hC lX7_48 (k_X7_in _ _ _) ⟨Nat.le_of_ble_eq_true rfl, Nat.le_of_ble_eq_true rfl, rfl, rfl⟩ (Nat.le_of_ble_eq_true rfl) dX7_draws_215 ?_
                      rw [show wr (it0 (fmCar s) d μ) 6 d (mWhole (it0 (fmCar s) d μ) s d) 6 d = mWhole (it0 (fmCar s) d μ) s d from wr_in]
                      refine v_ifneb (tgt := 228) hC dX7_draws_218 (by decide) (fun h218 => ?_) (fun h218 => ?_)
                      · have h218x := h218
                        refine v_iinc1_6 hC (by decide) rfl dX7_draws_228 ?_
                        refine v_goto (tgt := 155) hC dX7_draws_231 (by decide) ?_
                        exact ih (hx.trans (scan_f (by simpa using h218x) (by omega)))
                      · refine v_aload_0 hC dX7_draws_221 ?_
                        refine v_ldc hC kX7_62 dX7_draws_222 ?_
                        refine v_cv1r hC lX7_63 ⟨by decide, 7, _, rfl, rfl, fun _ _ _ => ⟨_, rfl⟩⟩ (k_X7_found _) ⟨Nat.le_of_ble_eq_true rfl, Nat.le_of_ble_eq_true rfl, rfl, rfl⟩ (Nat.le_of_ble_eq_true rfl) dX7_draws_224 ?_
                        exact v_iretM hC hT (by rw [mfDraws, if_pos ⟨h5, h12, h19⟩, tnI (j := w) (by omega), tnI (j := m) (by omega), tnI (j := s) (by omega), if_neg h35, if_neg h51, if_pos hsw, mDrws, show mBad μ s (mdrN μ m s) = some d from hx.trans (scan_t (decide_eq_true h218) (by omega))]; rfl) dX7_draws_227
                · refine v_iload_6 hC dX7_draws_109 ?_
                  refine v_iload_4 hC dX7_draws_111 ?_
                  refine v_icge (tgt := 152) hC dX7_draws_113 (by decide) (fun h113 => absurd h113 (nI_ge hd (by omega))) (fun h113 => ?_)
                  refine v_iload_5 hC dX7_draws_116 ?_
                  refine v_ifeq (tgt := 152) hC dX7_draws_118 (by decide) (fun h118 => ?_) (fun h118 => ?_)
                  · have hsw : mswn μ s (mdrN μ m s) := fun i _ q => by rw [fl, if_pos q.1] at h118; exact absurd h118 (by decide)
                    refine v_iconst hC dX7_draws_152 ic_0 ?_
                    refine v_istore_6 hC (by decide) rfl dX7_draws_153 ?_
                    refine up_loop (fun d : Nat => (scan (fun i => decide (¬ isR (mWhole (it0 (fmCar s) i μ) s i) 1000)) 0 (mdrN μ m s) = scan (fun i => decide (¬ isR (mWhole (it0 (fmCar s) i μ) s i) 1000)) d (mdrN μ m s - d)) → V X E 155 [some (.ref (adr E 54)), some (.int (nI w)), some (.int (nI m)), some (.int (nI s)), some (.int (nI (mdrN μ m s))), some (.int (nI (fl μ s))), some (.int (nI d))] [] (σ) (it0 (fmCar s) d μ)) (Nat.zero_le (mdrN μ m s)) (fun hx => ?_) (fun d _ hd ih hx => ?_) rfl
                    · have hbad : mBad μ s (mdrN μ m s) = none := hx.trans (scan_0 (by omega))
                      refine v_iload_6 hC dX7_draws_155 ?_
                      refine v_iload_4 hC dX7_draws_157 ?_
                      refine v_icge (tgt := 234) hC dX7_draws_159 (by decide) (fun h159 => ?_) (fun h159 => absurd (Int32.le_refl _) h159)
                      refine v_iconst hC dX7_draws_234 ic_0 ?_
                      refine v_istore_6 hC (by decide) rfl dX7_draws_235 ?_
                      refine up_loop (fun d : Nat => V X E 237 [some (.ref (adr E 54)), some (.int (nI w)), some (.int (nI m)), some (.int (nI s)), some (.int (nI (mdrN μ m s))), some (.int (nI (fl μ s))), some (.int (nI d))] [] (σ) (it0 (fmDrw w m) d (it0 (fmCar s) (mdrN μ m s) μ))) (Nat.zero_le (mdrN μ m s)) ?_ (fun d _ hd ih => ?_)
                      · refine v_iload_6 hC dX7_draws_237 ?_
                        refine v_iload_4 hC dX7_draws_239 ?_
                        refine v_icge (tgt := 274) hC dX7_draws_241 (by decide) (fun h241 => ?_) (fun h241 => absurd (Int32.le_refl _) h241)
                        refine v_iload_4 hC dX7_draws_274 ?_
                        exact v_iretM hC hT (by rw [mfDraws, if_pos ⟨h5, h12, h19⟩, tnI (j := w) (by omega), tnI (j := m) (by omega), tnI (j := s) (by omega), if_neg h35, if_neg h51, if_pos hsw, mDrws, hbad]) dX7_draws_276
                      · refine v_iload_6 hC dX7_draws_237 ?_
                        refine v_iload_4 hC dX7_draws_239 ?_
                        refine v_icge (tgt := 274) hC dX7_draws_241 (by decide) (fun h241 => absurd h241 (nI_ge hd (by omega))) (fun h241 => ?_)
                        refine v_aload_0 hC dX7_draws_244 ?_
                        refine v_get hC fX7_7 (by decide) rfl rfl dX7_draws_245 ?_
                        refine v_bipush hC dX7_draws_248 bp_50 ?_
                        refine v_bipush hC dX7_draws_250 bp_24 ?_
                        refine v_iload_1 hC dX7_draws_252 ?_
                        refine v_imulN hC dX7_draws_253 ?_
                        refine v_iaddN hC dX7_draws_254 ?_
                        refine v_iload_2 hC dX7_draws_255 ?_
                        refine v_iaddN hC dX7_draws_256 ?_
                        refine v_iload_6 hC dX7_draws_257 ?_
                        refine v_iaddN hC dX7_draws_259 ?_
                        refine v_aload_0 hC dX7_draws_260 ?_
                        refine v_get hC fX7_25 (by decide) rfl rfl dX7_draws_261 ?_
                        refine v_iload_6 hC dX7_draws_264 ?_
                        refine w_iald (k := 6) hC N_6 (by first | omega | (simp only [mcl, mRd]; omega)) dX7_draws_266 ?_
                        refine w_iast (k := 1) hC N_1 (by first | omega | (simp only [mcl, mRd]; omega)) dX7_draws_267 ?_
                        refine v_iinc1_6 hC (by decide) rfl dX7_draws_268 ?_
                        refine v_goto (tgt := 237) hC dX7_draws_271 (by decide) ?_
                        exact ih
                    · refine v_iload_6 hC dX7_draws_155 ?_
                      refine v_iload_4 hC dX7_draws_157 ?_
                      refine v_icge (tgt := 234) hC dX7_draws_159 (by decide) (fun h159 => absurd h159 (nI_ge hd (by omega))) (fun h159 => ?_)
                      refine v_aload_0 hC dX7_draws_162 ?_
                      refine v_get hC fX7_25 (by decide) rfl rfl dX7_draws_163 ?_
                      refine v_iload_6 hC dX7_draws_166 ?_
                      refine v_iload_5 hC dX7_draws_168 ?_
                      refine v_ifeq (tgt := 191) hC dX7_draws_170 (by decide) (fun h170 => ?_) (fun h170 => ?_)
                      · refine v_aload_0 hC dX7_draws_191 ?_
                        refine v_get hC fX7_22 (by decide) rfl rfl dX7_draws_192 ?_
                        refine v_bipush hC dX7_draws_195 bp_24 ?_
                        refine v_iload_3 hC dX7_draws_197 ?_
                        refine v_imulN hC dX7_draws_198 ?_
                        refine v_iload_6 hC dX7_draws_199 ?_
                        refine v_iaddN hC dX7_draws_201 ?_
                        refine w_iald (k := 5) hC N_5 (by first | omega | (simp only [mcl, mRd]; omega)) dX7_draws_202 ?_
                        refine v_top (y := mWhole (it0 (fmCar s) d μ) s d) (by rw [mWhole, carOff s μ d 3 (by decide), if_neg (fun q => by rw [fl, if_pos q] at h170; exact absurd h170 (by decide))]) ?_
                        refine w_iast (k := 6) hC N_6 (by first | omega | (simp only [mcl, mRd]; omega)) dX7_draws_203 ?_
                        refine v_aload_0 hC dX7_draws_204 ?_
                        refine v_get hC fX7_25 (by decide) rfl rfl dX7_draws_205 ?_
                        refine v_iload_6 hC dX7_draws_208 ?_
                        refine w_iald (k := 6) hC N_6 (by first | omega | (simp only [mcl, mRd]; omega)) dX7_draws_210 ?_
                        refine v_iconst hC dX7_draws_211 ic_0 ?_
                        refine v_sipush hC dX7_draws_212 sp_1000 ?_
                        refine v_cs3r hC lX7_48 (k_X7_in _ _ _) ⟨Nat.le_of_ble_eq_true rfl, Nat.le_of_ble_eq_true rfl, rfl, rfl⟩ (Nat.le_of_ble_eq_true rfl) dX7_draws_215 ?_
                        rw [show wr (it0 (fmCar s) d μ) 6 d (mWhole (it0 (fmCar s) d μ) s d) 6 d = mWhole (it0 (fmCar s) d μ) s d from wr_in]
                        refine v_ifneb (tgt := 228) hC dX7_draws_218 (by decide) (fun h218 => ?_) (fun h218 => ?_)
                        · have h218x := h218
                          refine v_iinc1_6 hC (by decide) rfl dX7_draws_228 ?_
                          refine v_goto (tgt := 155) hC dX7_draws_231 (by decide) ?_
                          exact ih (hx.trans (scan_f (by simpa using h218x) (by omega)))
                        · refine v_aload_0 hC dX7_draws_221 ?_
                          refine v_ldc hC kX7_62 dX7_draws_222 ?_
                          refine v_cv1r hC lX7_63 ⟨by decide, 7, _, rfl, rfl, fun _ _ _ => ⟨_, rfl⟩⟩ (k_X7_found _) ⟨Nat.le_of_ble_eq_true rfl, Nat.le_of_ble_eq_true rfl, rfl, rfl⟩ (Nat.le_of_ble_eq_true rfl) dX7_draws_224 ?_
                          exact v_iretM hC hT (by rw [mfDraws, if_pos ⟨h5, h12, h19⟩, tnI (j := w) (by omega), tnI (j := m) (by omega), tnI (j := s) (by omega), if_neg h35, if_neg h51, if_pos hsw, mDrws, show mBad μ s (mdrN μ m s) = some d from hx.trans (scan_t (decide_eq_true h218) (by omega))]; rfl) dX7_draws_227
                      · refine v_aload_0 hC dX7_draws_173 ?_
                        refine v_get hC fX7_22 (by decide) rfl rfl dX7_draws_174 ?_
                        refine v_bipush hC dX7_draws_177 bp_24 ?_
                        refine v_iload_3 hC dX7_draws_179 ?_
                        refine v_imulN hC dX7_draws_180 ?_
                        refine v_iload_6 hC dX7_draws_181 ?_
                        refine v_iaddN hC dX7_draws_183 ?_
                        refine w_iald (k := 5) hC N_5 (by first | omega | (simp only [mcl, mRd]; omega)) dX7_draws_184 ?_
                        refine v_cs1r hC lX7_102 (k_X7_cut _) ⟨Nat.le_of_ble_eq_true rfl, Nat.le_of_ble_eq_true rfl, rfl, rfl⟩ (Nat.le_of_ble_eq_true rfl) dX7_draws_185 ?_
                        refine v_goto (tgt := 203) hC dX7_draws_188 (by decide) ?_
                        refine v_top (y := mWhole (it0 (fmCar s) d μ) s d) (by rw [mWhole, carOff s μ d 3 (by decide), if_pos (by by_cases q : μ 3 s = nI 2; exact q; exact absurd (by rw [fl, if_neg q]; decide) h170)]) ?_
                        refine w_iast (k := 6) hC N_6 (by first | omega | (simp only [mcl, mRd]; omega)) dX7_draws_203 ?_
                        refine v_aload_0 hC dX7_draws_204 ?_
                        refine v_get hC fX7_25 (by decide) rfl rfl dX7_draws_205 ?_
                        refine v_iload_6 hC dX7_draws_208 ?_
                        refine w_iald (k := 6) hC N_6 (by first | omega | (simp only [mcl, mRd]; omega)) dX7_draws_210 ?_
                        refine v_iconst hC dX7_draws_211 ic_0 ?_
                        refine v_sipush hC dX7_draws_212 sp_1000 ?_
                        refine v_cs3r hC lX7_48 (k_X7_in _ _ _) ⟨Nat.le_of_ble_eq_true rfl, Nat.le_of_ble_eq_true rfl, rfl, rfl⟩ (Nat.le_of_ble_eq_true rfl) dX7_draws_215 ?_
                        rw [show wr (it0 (fmCar s) d μ) 6 d (mWhole (it0 (fmCar s) d μ) s d) 6 d = mWhole (it0 (fmCar s) d μ) s d from wr_in]
                        refine v_ifneb (tgt := 228) hC dX7_draws_218 (by decide) (fun h218 => ?_) (fun h218 => ?_)
                        · have h218x := h218
                          refine v_iinc1_6 hC (by decide) rfl dX7_draws_228 ?_
                          refine v_goto (tgt := 155) hC dX7_draws_231 (by decide) ?_
                          exact ih (hx.trans (scan_f (by simpa using h218x) (by omega)))
                        · refine v_aload_0 hC dX7_draws_221 ?_
                          refine v_ldc hC kX7_62 dX7_draws_222 ?_
                          refine v_cv1r hC lX7_63 ⟨by decide, 7, _, rfl, rfl, fun _ _ _ => ⟨_, rfl⟩⟩ (k_X7_found _) ⟨Nat.le_of_ble_eq_true rfl, Nat.le_of_ble_eq_true rfl, rfl, rfl⟩ (Nat.le_of_ble_eq_true rfl) dX7_draws_224 ?_
                          exact v_iretM hC hT (by rw [mfDraws, if_pos ⟨h5, h12, h19⟩, tnI (j := w) (by omega), tnI (j := m) (by omega), tnI (j := s) (by omega), if_neg h35, if_neg h51, if_pos hsw, mDrws, show mBad μ s (mdrN μ m s) = some d from hx.trans (scan_t (decide_eq_true h218) (by omega))]; rfl) dX7_draws_227
                  · refine v_aload_0 hC dX7_draws_121 ?_
                    refine v_get hC fX7_22 (by decide) rfl rfl dX7_draws_122 ?_
                    refine v_bipush hC dX7_draws_125 bp_24 ?_
                    refine v_iload_3 hC dX7_draws_127 ?_
                    refine v_imulN hC dX7_draws_128 ?_
                    refine v_iload_6 hC dX7_draws_129 ?_
                    refine v_iaddN hC dX7_draws_131 ?_
                    refine w_iald (k := 5) hC N_5 (by first | omega | (simp only [mcl, mRd]; omega)) dX7_draws_132 ?_
                    refine v_cs1r hC lX7_92 (k_X7_isNone _) ⟨Nat.le_of_ble_eq_true rfl, Nat.le_of_ble_eq_true rfl, rfl, rfl⟩ (Nat.le_of_ble_eq_true rfl) dX7_draws_133 ?_
                    refine v_ifeqb (tgt := 146) hC dX7_draws_136 (by decide) (fun h136 => ?_) (fun h136 => ?_)
                    · refine v_iinc1_6 hC (by decide) rfl dX7_draws_146 ?_
                      refine v_goto (tgt := 109) hC dX7_draws_149 (by decide) ?_
                      exact ih (all_s hx (fun q => h136 q.2))
                    · refine v_aload_0 hC dX7_draws_139 ?_
                      refine v_ldc hC kX7_101 dX7_draws_140 ?_
                      refine v_cv1r hC lX7_63 ⟨by decide, 7, _, rfl, rfl, fun _ _ _ => ⟨_, rfl⟩⟩ (k_X7_found _) ⟨Nat.le_of_ble_eq_true rfl, Nat.le_of_ble_eq_true rfl, rfl, rfl⟩ (Nat.le_of_ble_eq_true rfl) dX7_draws_142 ?_
                      exact v_iretM hC hT (by rw [mfDraws, if_pos ⟨h5, h12, h19⟩, tnI (j := w) (by omega), tnI (j := m) (by omega), tnI (j := s) (by omega), if_neg h35, if_neg h51, if_neg (fun q => q d hd ⟨by by_cases z : μ 3 s = nI 2; exact z; exact absurd (by rw [fl, if_neg z]; decide) h118, h136⟩)]) dX7_draws_145
            · refine v_aload_0 hC dX7_draws_74 ?_
              refine v_get hC fX7_19 (by decide) rfl rfl dX7_draws_75 ?_
              refine v_iload_3 hC dX7_draws_78 ?_
              refine w_iald (k := 4) hC N_4 (by first | omega | (simp only [mcl, mRd]; omega)) dX7_draws_79 ?_
              refine v_goto (tgt := 87) hC dX7_draws_80 (by decide) ?_
              refine v_top ((mdrN_top hwm hm hs).2 h71) ?_
              refine v_istore_4 hC (by decide) rfl dX7_draws_87 ?_
              refine v_aload_0 hC dX7_draws_89 ?_
              refine v_get hC fX7_16 (by decide) rfl rfl dX7_draws_90 ?_
              refine v_iload_3 hC dX7_draws_93 ?_
              refine w_iald (k := 3) hC N_3 (by first | omega | (simp only [mcl, mRd]; omega)) dX7_draws_94 ?_
              refine v_iconst hC dX7_draws_95 ic_2 ?_
              refine v_icne (tgt := 103) hC dX7_draws_96 (by decide) (fun h96 => ?_) (fun h96 => ?_)
              · refine v_iconst hC dX7_draws_103 ic_0 ?_
                refine v_top (y := nI (fl μ s)) (by rw [fl, if_neg h96]) ?_
                refine v_istore_5 hC (by decide) rfl dX7_draws_104 ?_
                refine v_iconst hC dX7_draws_106 ic_0 ?_
                refine v_istore_6 hC (by decide) rfl dX7_draws_107 ?_
                refine up_loop (fun d : Nat => (∀ i, i < d → ¬ (μ 3 s = nI 2 ∧ noNum (μ 5 (24 * s + i)))) → V X E 109 [some (.ref (adr E 54)), some (.int (nI w)), some (.int (nI m)), some (.int (nI s)), some (.int (nI (mdrN μ m s))), some (.int (nI (fl μ s))), some (.int (nI d))] [] (σ) (μ)) (Nat.zero_le (mdrN μ m s)) (fun hx => ?_) (fun d _ hd ih hx => ?_) (fun i hi => absurd hi (Nat.not_lt_zero i))
                · have hsw : mswn μ s (mdrN μ m s) := hx
                  refine v_iload_6 hC dX7_draws_109 ?_
                  refine v_iload_4 hC dX7_draws_111 ?_
                  refine v_icge (tgt := 152) hC dX7_draws_113 (by decide) (fun h113 => ?_) (fun h113 => absurd (Int32.le_refl _) h113)
                  refine v_iconst hC dX7_draws_152 ic_0 ?_
                  refine v_istore_6 hC (by decide) rfl dX7_draws_153 ?_
                  refine up_loop (fun d : Nat => (scan (fun i => decide (¬ isR (mWhole (it0 (fmCar s) i μ) s i) 1000)) 0 (mdrN μ m s) = scan (fun i => decide (¬ isR (mWhole (it0 (fmCar s) i μ) s i) 1000)) d (mdrN μ m s - d)) → V X E 155 [some (.ref (adr E 54)), some (.int (nI w)), some (.int (nI m)), some (.int (nI s)), some (.int (nI (mdrN μ m s))), some (.int (nI (fl μ s))), some (.int (nI d))] [] (σ) (it0 (fmCar s) d μ)) (Nat.zero_le (mdrN μ m s)) (fun hx => ?_) (fun d _ hd ih hx => ?_) rfl
                  · have hbad : mBad μ s (mdrN μ m s) = none := hx.trans (scan_0 (by omega))
                    refine v_iload_6 hC dX7_draws_155 ?_
                    refine v_iload_4 hC dX7_draws_157 ?_
                    refine v_icge (tgt := 234) hC dX7_draws_159 (by decide) (fun h159 => ?_) (fun h159 => absurd (Int32.le_refl _) h159)
                    refine v_iconst hC dX7_draws_234 ic_0 ?_
                    refine v_istore_6 hC (by decide) rfl dX7_draws_235 ?_
                    refine up_loop (fun d : Nat => V X E 237 [some (.ref (adr E 54)), some (.int (nI w)), some (.int (nI m)), some (.int (nI s)), some (.int (nI (mdrN μ m s))), some (.int (nI (fl μ s))), some (.int (nI d))] [] (σ) (it0 (fmDrw w m) d (it0 (fmCar s) (mdrN μ m s) μ))) (Nat.zero_le (mdrN μ m s)) ?_ (fun d _ hd ih => ?_)
                    · refine v_iload_6 hC dX7_draws_237 ?_
                      refine v_iload_4 hC dX7_draws_239 ?_
                      refine v_icge (tgt := 274) hC dX7_draws_241 (by decide) (fun h241 => ?_) (fun h241 => absurd (Int32.le_refl _) h241)
                      refine v_iload_4 hC dX7_draws_274 ?_
                      exact v_iretM hC hT (by rw [mfDraws, if_pos ⟨h5, h12, h19⟩, tnI (j := w) (by omega), tnI (j := m) (by omega), tnI (j := s) (by omega), if_neg h35, if_neg h51, if_pos hsw, mDrws, hbad]) dX7_draws_276
                    · refine v_iload_6 hC dX7_draws_237 ?_
                      refine v_iload_4 hC dX7_draws_239 ?_
                      refine v_icge (tgt := 274) hC dX7_draws_241 (by decide) (fun h241 => absurd h241 (nI_ge hd (by omega))) (fun h241 => ?_)
                      refine v_aload_0 hC dX7_draws_244 ?_
                      refine v_get hC fX7_7 (by decide) rfl rfl dX7_draws_245 ?_
                      refine v_bipush hC dX7_draws_248 bp_50 ?_
                      refine v_bipush hC dX7_draws_250 bp_24 ?_
                      refine v_iload_1 hC dX7_draws_252 ?_
                      refine v_imulN hC dX7_draws_253 ?_
                      refine v_iaddN hC dX7_draws_254 ?_
                      refine v_iload_2 hC dX7_draws_255 ?_
                      refine v_iaddN hC dX7_draws_256 ?_
                      refine v_iload_6 hC dX7_draws_257 ?_
                      refine v_iaddN hC dX7_draws_259 ?_
                      refine v_aload_0 hC dX7_draws_260 ?_
                      refine v_get hC fX7_25 (by decide) rfl rfl dX7_draws_261 ?_
                      refine v_iload_6 hC dX7_draws_264 ?_
                      refine w_iald (k := 6) hC N_6 (by first | omega | (simp only [mcl, mRd]; omega)) dX7_draws_266 ?_
                      refine w_iast (k := 1) hC N_1 (by first | omega | (simp only [mcl, mRd]; omega)) dX7_draws_267 ?_
                      refine v_iinc1_6 hC (by decide) rfl dX7_draws_268 ?_
                      refine v_goto (tgt := 237) hC dX7_draws_271 (by decide) ?_
                      exact ih
                  · refine v_iload_6 hC dX7_draws_155 ?_
                    refine v_iload_4 hC dX7_draws_157 ?_
                    refine v_icge (tgt := 234) hC dX7_draws_159 (by decide) (fun h159 => absurd h159 (nI_ge hd (by omega))) (fun h159 => ?_)
                    refine v_aload_0 hC dX7_draws_162 ?_
                    refine v_get hC fX7_25 (by decide) rfl rfl dX7_draws_163 ?_
                    refine v_iload_6 hC dX7_draws_166 ?_
                    refine v_iload_5 hC dX7_draws_168 ?_
                    refine v_ifeq (tgt := 191) hC dX7_draws_170 (by decide) (fun h170 => ?_) (fun h170 => ?_)
                    · refine v_aload_0 hC dX7_draws_191 ?_
                      refine v_get hC fX7_22 (by decide) rfl rfl dX7_draws_192 ?_
                      refine v_bipush hC dX7_draws_195 bp_24 ?_
                      refine v_iload_3 hC dX7_draws_197 ?_
                      refine v_imulN hC dX7_draws_198 ?_
                      refine v_iload_6 hC dX7_draws_199 ?_
                      refine v_iaddN hC dX7_draws_201 ?_
                      refine w_iald (k := 5) hC N_5 (by first | omega | (simp only [mcl, mRd]; omega)) dX7_draws_202 ?_
                      refine v_top (y := mWhole (it0 (fmCar s) d μ) s d) (by rw [mWhole, carOff s μ d 3 (by decide), if_neg (fun q => by rw [fl, if_pos q] at h170; exact absurd h170 (by decide))]) ?_
                      refine w_iast (k := 6) hC N_6 (by first | omega | (simp only [mcl, mRd]; omega)) dX7_draws_203 ?_
                      refine v_aload_0 hC dX7_draws_204 ?_
                      refine v_get hC fX7_25 (by decide) rfl rfl dX7_draws_205 ?_
                      refine v_iload_6 hC dX7_draws_208 ?_
                      refine w_iald (k := 6) hC N_6 (by first | omega | (simp only [mcl, mRd]; omega)) dX7_draws_210 ?_
                      refine v_iconst hC dX7_draws_211 ic_0 ?_
                      refine v_sipush hC dX7_draws_212 sp_1000 ?_
                      refine v_cs3r hC lX7_48 (k_X7_in _ _ _) ⟨Nat.le_of_ble_eq_true rfl, Nat.le_of_ble_eq_true rfl, rfl, rfl⟩ (Nat.le_of_ble_eq_true rfl) dX7_draws_215 ?_
                      rw [show wr (it0 (fmCar s) d μ) 6 d (mWhole (it0 (fmCar s) d μ) s d) 6 d = mWhole (it0 (fmCar s) d μ) s d from wr_in]
                      refine v_ifneb (tgt := 228) hC dX7_draws_218 (by decide) (fun h218 => ?_) (fun h218 => ?_)
                      · have h218x := h218
                        refine v_iinc1_6 hC (by decide) rfl dX7_draws_228 ?_
                        refine v_goto (tgt := 155) hC dX7_draws_231 (by decide) ?_
                        exact ih (hx.trans (scan_f (by simpa using h218x) (by omega)))
                      · refine v_aload_0 hC dX7_draws_221 ?_
                        refine v_ldc hC kX7_62 dX7_draws_222 ?_
                        refine v_cv1r hC lX7_63 ⟨by decide, 7, _, rfl, rfl, fun _ _ _ => ⟨_, rfl⟩⟩ (k_X7_found _) ⟨Nat.le_of_ble_eq_true rfl, Nat.le_of_ble_eq_true rfl, rfl, rfl⟩ (Nat.le_of_ble_eq_true rfl) dX7_draws_224 ?_
                        exact v_iretM hC hT (by rw [mfDraws, if_pos ⟨h5, h12, h19⟩, tnI (j := w) (by omega), tnI (j := m) (by omega), tnI (j := s) (by omega), if_neg h35, if_neg h51, if_pos hsw, mDrws, show mBad μ s (mdrN μ m s) = some d from hx.trans (scan_t (decide_eq_true h218) (by omega))]; rfl) dX7_draws_227
                    · refine v_aload_0 hC dX7_draws_173 ?_
                      refine v_get hC fX7_22 (by decide) rfl rfl dX7_draws_174 ?_
                      refine v_bipush hC dX7_draws_177 bp_24 ?_
                      refine v_iload_3 hC dX7_draws_179 ?_
                      refine v_imulN hC dX7_draws_180 ?_
                      refine v_iload_6 hC dX7_draws_181 ?_
                      refine v_iaddN hC dX7_draws_183 ?_
                      refine w_iald (k := 5) hC N_5 (by first | omega | (simp only [mcl, mRd]; omega)) dX7_draws_184 ?_
                      refine v_cs1r hC lX7_102 (k_X7_cut _) ⟨Nat.le_of_ble_eq_true rfl, Nat.le_of_ble_eq_true rfl, rfl, rfl⟩ (Nat.le_of_ble_eq_true rfl) dX7_draws_185 ?_
                      refine v_goto (tgt := 203) hC dX7_draws_188 (by decide) ?_
                      refine v_top (y := mWhole (it0 (fmCar s) d μ) s d) (by rw [mWhole, carOff s μ d 3 (by decide), if_pos (by by_cases q : μ 3 s = nI 2; exact q; exact absurd (by rw [fl, if_neg q]; decide) h170)]) ?_
                      refine w_iast (k := 6) hC N_6 (by first | omega | (simp only [mcl, mRd]; omega)) dX7_draws_203 ?_
                      refine v_aload_0 hC dX7_draws_204 ?_
                      refine v_get hC fX7_25 (by decide) rfl rfl dX7_draws_205 ?_
                      refine v_iload_6 hC dX7_draws_208 ?_
                      refine w_iald (k := 6) hC N_6 (by first | omega | (simp only [mcl, mRd]; omega)) dX7_draws_210 ?_
                      refine v_iconst hC dX7_draws_211 ic_0 ?_
                      refine v_sipush hC dX7_draws_212 sp_1000 ?_
                      refine v_cs3r hC lX7_48 (k_X7_in _ _ _) ⟨Nat.le_of_ble_eq_true rfl, Nat.le_of_ble_eq_true rfl, rfl, rfl⟩ (Nat.le_of_ble_eq_true rfl) dX7_draws_215 ?_
                      rw [show wr (it0 (fmCar s) d μ) 6 d (mWhole (it0 (fmCar s) d μ) s d) 6 d = mWhole (it0 (fmCar s) d μ) s d from wr_in]
                      refine v_ifneb (tgt := 228) hC dX7_draws_218 (by decide) (fun h218 => ?_) (fun h218 => ?_)
                      · have h218x := h218
                        refine v_iinc1_6 hC (by decide) rfl dX7_draws_228 ?_
                        refine v_goto (tgt := 155) hC dX7_draws_231 (by decide) ?_
                        exact ih (hx.trans (scan_f (by simpa using h218x) (by omega)))
                      · refine v_aload_0 hC dX7_draws_221 ?_
                        refine v_ldc hC kX7_62 dX7_draws_222 ?_
                        refine v_cv1r hC lX7_63 ⟨by decide, 7, _, rfl, rfl, fun _ _ _ => ⟨_, rfl⟩⟩ (k_X7_found _) ⟨Nat.le_of_ble_eq_true rfl, Nat.le_of_ble_eq_true rfl, rfl, rfl⟩ (Nat.le_of_ble_eq_true rfl) dX7_draws_224 ?_
                        exact v_iretM hC hT (by rw [mfDraws, if_pos ⟨h5, h12, h19⟩, tnI (j := w) (by omega), tnI (j := m) (by omega), tnI (j := s) (by omega), if_neg h35, if_neg h51, if_pos hsw, mDrws, show mBad μ s (mdrN μ m s) = some d from hx.trans (scan_t (decide_eq_true h218) (by omega))]; rfl) dX7_draws_227
                · refine v_iload_6 hC dX7_draws_109 ?_
                  refine v_iload_4 hC dX7_draws_111 ?_
                  refine v_icge (tgt := 152) hC dX7_draws_113 (by decide) (fun h113 => absurd h113 (nI_ge hd (by omega))) (fun h113 => ?_)
                  refine v_iload_5 hC dX7_draws_116 ?_
                  refine v_ifeq (tgt := 152) hC dX7_draws_118 (by decide) (fun h118 => ?_) (fun h118 => ?_)
                  · have hsw : mswn μ s (mdrN μ m s) := fun i _ q => by rw [fl, if_pos q.1] at h118; exact absurd h118 (by decide)
                    refine v_iconst hC dX7_draws_152 ic_0 ?_
                    refine v_istore_6 hC (by decide) rfl dX7_draws_153 ?_
                    refine up_loop (fun d : Nat => (scan (fun i => decide (¬ isR (mWhole (it0 (fmCar s) i μ) s i) 1000)) 0 (mdrN μ m s) = scan (fun i => decide (¬ isR (mWhole (it0 (fmCar s) i μ) s i) 1000)) d (mdrN μ m s - d)) → V X E 155 [some (.ref (adr E 54)), some (.int (nI w)), some (.int (nI m)), some (.int (nI s)), some (.int (nI (mdrN μ m s))), some (.int (nI (fl μ s))), some (.int (nI d))] [] (σ) (it0 (fmCar s) d μ)) (Nat.zero_le (mdrN μ m s)) (fun hx => ?_) (fun d _ hd ih hx => ?_) rfl
                    · have hbad : mBad μ s (mdrN μ m s) = none := hx.trans (scan_0 (by omega))
                      refine v_iload_6 hC dX7_draws_155 ?_
                      refine v_iload_4 hC dX7_draws_157 ?_
                      refine v_icge (tgt := 234) hC dX7_draws_159 (by decide) (fun h159 => ?_) (fun h159 => absurd (Int32.le_refl _) h159)
                      refine v_iconst hC dX7_draws_234 ic_0 ?_
                      refine v_istore_6 hC (by decide) rfl dX7_draws_235 ?_
                      refine up_loop (fun d : Nat => V X E 237 [some (.ref (adr E 54)), some (.int (nI w)), some (.int (nI m)), some (.int (nI s)), some (.int (nI (mdrN μ m s))), some (.int (nI (fl μ s))), some (.int (nI d))] [] (σ) (it0 (fmDrw w m) d (it0 (fmCar s) (mdrN μ m s) μ))) (Nat.zero_le (mdrN μ m s)) ?_ (fun d _ hd ih => ?_)
                      · refine v_iload_6 hC dX7_draws_237 ?_
                        refine v_iload_4 hC dX7_draws_239 ?_
                        refine v_icge (tgt := 274) hC dX7_draws_241 (by decide) (fun h241 => ?_) (fun h241 => absurd (Int32.le_refl _) h241)
                        refine v_iload_4 hC dX7_draws_274 ?_
                        exact v_iretM hC hT (by rw [mfDraws, if_pos ⟨h5, h12, h19⟩, tnI (j := w) (by omega), tnI (j := m) (by omega), tnI (j := s) (by omega), if_neg h35, if_neg h51, if_pos hsw, mDrws, hbad]) dX7_draws_276
                      · refine v_iload_6 hC dX7_draws_237 ?_
                        refine v_iload_4 hC dX7_draws_239 ?_
                        refine v_icge (tgt := 274) hC dX7_draws_241 (by decide) (fun h241 => absurd h241 (nI_ge hd (by omega))) (fun h241 => ?_)
                        refine v_aload_0 hC dX7_draws_244 ?_
                        refine v_get hC fX7_7 (by decide) rfl rfl dX7_draws_245 ?_
                        refine v_bipush hC dX7_draws_248 bp_50 ?_
                        refine v_bipush hC dX7_draws_250 bp_24 ?_
                        refine v_iload_1 hC dX7_draws_252 ?_
                        refine v_imulN hC dX7_draws_253 ?_
                        refine v_iaddN hC dX7_draws_254 ?_
                        refine v_iload_2 hC dX7_draws_255 ?_
                        refine v_iaddN hC dX7_draws_256 ?_
                        refine v_iload_6 hC dX7_draws_257 ?_
                        refine v_iaddN hC dX7_draws_259 ?_
                        refine v_aload_0 hC dX7_draws_260 ?_
                        refine v_get hC fX7_25 (by decide) rfl rfl dX7_draws_261 ?_
                        refine v_iload_6 hC dX7_draws_264 ?_
                        refine w_iald (k := 6) hC N_6 (by first | omega | (simp only [mcl, mRd]; omega)) dX7_draws_266 ?_
                        refine w_iast (k := 1) hC N_1 (by first | omega | (simp only [mcl, mRd]; omega)) dX7_draws_267 ?_
                        refine v_iinc1_6 hC (by decide) rfl dX7_draws_268 ?_
                        refine v_goto (tgt := 237) hC dX7_draws_271 (by decide) ?_
                        exact ih
                    · refine v_iload_6 hC dX7_draws_155 ?_
                      refine v_iload_4 hC dX7_draws_157 ?_
                      refine v_icge (tgt := 234) hC dX7_draws_159 (by decide) (fun h159 => absurd h159 (nI_ge hd (by omega))) (fun h159 => ?_)
                      refine v_aload_0 hC dX7_draws_162 ?_
                      refine v_get hC fX7_25 (by decide) rfl rfl dX7_draws_163 ?_
                      refine v_iload_6 hC dX7_draws_166 ?_
                      refine v_iload_5 hC dX7_draws_168 ?_
                      refine v_ifeq (tgt := 191) hC dX7_draws_170 (by decide) (fun h170 => ?_) (fun h170 => ?_)
                      · refine v_aload_0 hC dX7_draws_191 ?_
                        refine v_get hC fX7_22 (by decide) rfl rfl dX7_draws_192 ?_
                        refine v_bipush hC dX7_draws_195 bp_24 ?_
                        refine v_iload_3 hC dX7_draws_197 ?_
                        refine v_imulN hC dX7_draws_198 ?_
                        refine v_iload_6 hC dX7_draws_199 ?_
                        refine v_iaddN hC dX7_draws_201 ?_
                        refine w_iald (k := 5) hC N_5 (by first | omega | (simp only [mcl, mRd]; omega)) dX7_draws_202 ?_
                        refine v_top (y := mWhole (it0 (fmCar s) d μ) s d) (by rw [mWhole, carOff s μ d 3 (by decide), if_neg (fun q => by rw [fl, if_pos q] at h170; exact absurd h170 (by decide))]) ?_
                        refine w_iast (k := 6) hC N_6 (by first | omega | (simp only [mcl, mRd]; omega)) dX7_draws_203 ?_
                        refine v_aload_0 hC dX7_draws_204 ?_
                        refine v_get hC fX7_25 (by decide) rfl rfl dX7_draws_205 ?_
                        refine v_iload_6 hC dX7_draws_208 ?_
                        refine w_iald (k := 6) hC N_6 (by first | omega | (simp only [mcl, mRd]; omega)) dX7_draws_210 ?_
                        refine v_iconst hC dX7_draws_211 ic_0 ?_
                        refine v_sipush hC dX7_draws_212 sp_1000 ?_
                        refine v_cs3r hC lX7_48 (k_X7_in _ _ _) ⟨Nat.le_of_ble_eq_true rfl, Nat.le_of_ble_eq_true rfl, rfl, rfl⟩ (Nat.le_of_ble_eq_true rfl) dX7_draws_215 ?_
                        rw [show wr (it0 (fmCar s) d μ) 6 d (mWhole (it0 (fmCar s) d μ) s d) 6 d = mWhole (it0 (fmCar s) d μ) s d from wr_in]
                        refine v_ifneb (tgt := 228) hC dX7_draws_218 (by decide) (fun h218 => ?_) (fun h218 => ?_)
                        · have h218x := h218
                          refine v_iinc1_6 hC (by decide) rfl dX7_draws_228 ?_
                          refine v_goto (tgt := 155) hC dX7_draws_231 (by decide) ?_
                          exact ih (hx.trans (scan_f (by simpa using h218x) (by omega)))
                        · refine v_aload_0 hC dX7_draws_221 ?_
                          refine v_ldc hC kX7_62 dX7_draws_222 ?_
                          refine v_cv1r hC lX7_63 ⟨by decide, 7, _, rfl, rfl, fun _ _ _ => ⟨_, rfl⟩⟩ (k_X7_found _) ⟨Nat.le_of_ble_eq_true rfl, Nat.le_of_ble_eq_true rfl, rfl, rfl⟩ (Nat.le_of_ble_eq_true rfl) dX7_draws_224 ?_
                          exact v_iretM hC hT (by rw [mfDraws, if_pos ⟨h5, h12, h19⟩, tnI (j := w) (by omega), tnI (j := m) (by omega), tnI (j := s) (by omega), if_neg h35, if_neg h51, if_pos hsw, mDrws, show mBad μ s (mdrN μ m s) = some d from hx.trans (scan_t (decide_eq_true h218) (by omega))]; rfl) dX7_draws_227
                      · refine v_aload_0 hC dX7_draws_173 ?_
                        refine v_get hC fX7_22 (by decide) rfl rfl dX7_draws_174 ?_
                        refine v_bipush hC dX7_draws_177 bp_24 ?_
                        refine v_iload_3 hC dX7_draws_179 ?_
                        refine v_imulN hC dX7_draws_180 ?_
                        refine v_iload_6 hC dX7_draws_181 ?_
                        refine v_iaddN hC dX7_draws_183 ?_
                        refine w_iald (k := 5) hC N_5 (by first | omega | (simp only [mcl, mRd]; omega)) dX7_draws_184 ?_
                        refine v_cs1r hC lX7_102 (k_X7_cut _) ⟨Nat.le_of_ble_eq_true rfl, Nat.le_of_ble_eq_true rfl, rfl, rfl⟩ (Nat.le_of_ble_eq_true rfl) dX7_draws_185 ?_
                        refine v_goto (tgt := 203) hC dX7_draws_188 (by decide) ?_
                        refine v_top (y := mWhole (it0 (fmCar s) d μ) s d) (by rw [mWhole, carOff s μ d 3 (by decide), if_pos (by by_cases q : μ 3 s = nI 2; exact q; exact absurd (by rw [fl, if_neg q]; decide) h170)]) ?_
                        refine w_iast (k := 6) hC N_6 (by first | omega | (simp only [mcl, mRd]; omega)) dX7_draws_203 ?_
                        refine v_aload_0 hC dX7_draws_204 ?_
                        refine v_get hC fX7_25 (by decide) rfl rfl dX7_draws_205 ?_
                        refine v_iload_6 hC dX7_draws_208 ?_
                        refine w_iald (k := 6) hC N_6 (by first | omega | (simp only [mcl, mRd]; omega)) dX7_draws_210 ?_
                        refine v_iconst hC dX7_draws_211 ic_0 ?_
                        refine v_sipush hC dX7_draws_212 sp_1000 ?_
                        refine v_cs3r hC lX7_48 (k_X7_in _ _ _) ⟨Nat.le_of_ble_eq_true rfl, Nat.le_of_ble_eq_true rfl, rfl, rfl⟩ (Nat.le_of_ble_eq_true rfl) dX7_draws_215 ?_
                        rw [show wr (it0 (fmCar s) d μ) 6 d (mWhole (it0 (fmCar s) d μ) s d) 6 d = mWhole (it0 (fmCar s) d μ) s d from wr_in]
                        refine v_ifneb (tgt := 228) hC dX7_draws_218 (by decide) (fun h218 => ?_) (fun h218 => ?_)
                        · have h218x := h218
                          refine v_iinc1_6 hC (by decide) rfl dX7_draws_228 ?_
                          refine v_goto (tgt := 155) hC dX7_draws_231 (by decide) ?_
                          exact ih (hx.trans (scan_f (by simpa using h218x) (by omega)))
                        · refine v_aload_0 hC dX7_draws_221 ?_
                          refine v_ldc hC kX7_62 dX7_draws_222 ?_
                          refine v_cv1r hC lX7_63 ⟨by decide, 7, _, rfl, rfl, fun _ _ _ => ⟨_, rfl⟩⟩ (k_X7_found _) ⟨Nat.le_of_ble_eq_true rfl, Nat.le_of_ble_eq_true rfl, rfl, rfl⟩ (Nat.le_of_ble_eq_true rfl) dX7_draws_224 ?_
                          exact v_iretM hC hT (by rw [mfDraws, if_pos ⟨h5, h12, h19⟩, tnI (j := w) (by omega), tnI (j := m) (by omega), tnI (j := s) (by omega), if_neg h35, if_neg h51, if_pos hsw, mDrws, show mBad μ s (mdrN μ m s) = some d from hx.trans (scan_t (decide_eq_true h218) (by omega))]; rfl) dX7_draws_227
                  · refine v_aload_0 hC dX7_draws_121 ?_
                    refine v_get hC fX7_22 (by decide) rfl rfl dX7_draws_122 ?_
                    refine v_bipush hC dX7_draws_125 bp_24 ?_
                    refine v_iload_3 hC dX7_draws_127 ?_
                    refine v_imulN hC dX7_draws_128 ?_
                    refine v_iload_6 hC dX7_draws_129 ?_
                    refine v_iaddN hC dX7_draws_131 ?_
                    refine w_iald (k := 5) hC N_5 (by first | omega | (simp only [mcl, mRd]; omega)) dX7_draws_132 ?_
                    refine v_cs1r hC lX7_92 (k_X7_isNone _) ⟨Nat.le_of_ble_eq_true rfl, Nat.le_of_ble_eq_true rfl, rfl, rfl⟩ (Nat.le_of_ble_eq_true rfl) dX7_draws_133 ?_
                    refine v_ifeqb (tgt := 146) hC dX7_draws_136 (by decide) (fun h136 => ?_) (fun h136 => ?_)
                    · refine v_iinc1_6 hC (by decide) rfl dX7_draws_146 ?_
                      refine v_goto (tgt := 109) hC dX7_draws_149 (by decide) ?_
                      exact ih (all_s hx (fun q => h136 q.2))
                    · refine v_aload_0 hC dX7_draws_139 ?_
                      refine v_ldc hC kX7_101 dX7_draws_140 ?_
                      refine v_cv1r hC lX7_63 ⟨by decide, 7, _, rfl, rfl, fun _ _ _ => ⟨_, rfl⟩⟩ (k_X7_found _) ⟨Nat.le_of_ble_eq_true rfl, Nat.le_of_ble_eq_true rfl, rfl, rfl⟩ (Nat.le_of_ble_eq_true rfl) dX7_draws_142 ?_
                      exact v_iretM hC hT (by rw [mfDraws, if_pos ⟨h5, h12, h19⟩, tnI (j := w) (by omega), tnI (j := m) (by omega), tnI (j := s) (by omega), if_neg h35, if_neg h51, if_neg (fun q => q d hd ⟨by by_cases z : μ 3 s = nI 2; exact z; exact absurd (by rw [fl, if_neg z]; decide) h118, h136⟩)]) dX7_draws_145
              · refine v_iconst hC dX7_draws_99 ic_1 ?_
                refine v_goto (tgt := 104) hC dX7_draws_100 (by decide) ?_
                refine v_top (y := nI (fl μ s)) (by rw [fl, if_pos h96]) ?_
                refine v_istore_5 hC (by decide) rfl dX7_draws_104 ?_
                refine v_iconst hC dX7_draws_106 ic_0 ?_
                refine v_istore_6 hC (by decide) rfl dX7_draws_107 ?_
                refine up_loop (fun d : Nat => (∀ i, i < d → ¬ (μ 3 s = nI 2 ∧ noNum (μ 5 (24 * s + i)))) → V X E 109 [some (.ref (adr E 54)), some (.int (nI w)), some (.int (nI m)), some (.int (nI s)), some (.int (nI (mdrN μ m s))), some (.int (nI (fl μ s))), some (.int (nI d))] [] (σ) (μ)) (Nat.zero_le (mdrN μ m s)) (fun hx => ?_) (fun d _ hd ih hx => ?_) (fun i hi => absurd hi (Nat.not_lt_zero i))
                · have hsw : mswn μ s (mdrN μ m s) := hx
                  refine v_iload_6 hC dX7_draws_109 ?_
                  refine v_iload_4 hC dX7_draws_111 ?_
                  refine v_icge (tgt := 152) hC dX7_draws_113 (by decide) (fun h113 => ?_) (fun h113 => absurd (Int32.le_refl _) h113)
                  refine v_iconst hC dX7_draws_152 ic_0 ?_
                  refine v_istore_6 hC (by decide) rfl dX7_draws_153 ?_
                  refine up_loop (fun d : Nat => (scan (fun i => decide (¬ isR (mWhole (it0 (fmCar s) i μ) s i) 1000)) 0 (mdrN μ m s) = scan (fun i => decide (¬ isR (mWhole (it0 (fmCar s) i μ) s i) 1000)) d (mdrN μ m s - d)) → V X E 155 [some (.ref (adr E 54)), some (.int (nI w)), some (.int (nI m)), some (.int (nI s)), some (.int (nI (mdrN μ m s))), some (.int (nI (fl μ s))), some (.int (nI d))] [] (σ) (it0 (fmCar s) d μ)) (Nat.zero_le (mdrN μ m s)) (fun hx => ?_) (fun d _ hd ih hx => ?_) rfl
                  · have hbad : mBad μ s (mdrN μ m s) = none := hx.trans (scan_0 (by omega))
                    refine v_iload_6 hC dX7_draws_155 ?_
                    refine v_iload_4 hC dX7_draws_157 ?_
                    refine v_icge (tgt := 234) hC dX7_draws_159 (by decide) (fun h159 => ?_) (fun h159 => absurd (Int32.le_refl _) h159)
                    refine v_iconst hC dX7_draws_234 ic_0 ?_
                    refine v_istore_6 hC (by decide) rfl dX7_draws_235 ?_
                    refine up_loop (fun d : Nat => V X E 237 [some (.ref (adr E 54)), some (.int (nI w)), some (.int (nI m)), some (.int (nI s)), some (.int (nI (mdrN μ m s))), some (.int (nI (fl μ s))), some (.int (nI d))] [] (σ) (it0 (fmDrw w m) d (it0 (fmCar s) (mdrN μ m s) μ))) (Nat.zero_le (mdrN μ m s)) ?_ (fun d _ hd ih => ?_)
                    · refine v_iload_6 hC dX7_draws_237 ?_
                      refine v_iload_4 hC dX7_draws_239 ?_
                      refine v_icge (tgt := 274) hC dX7_draws_241 (by decide) (fun h241 => ?_) (fun h241 => absurd (Int32.le_refl _) h241)
                      refine v_iload_4 hC dX7_draws_274 ?_
                      exact v_iretM hC hT (by rw [mfDraws, if_pos ⟨h5, h12, h19⟩, tnI (j := w) (by omega), tnI (j := m) (by omega), tnI (j := s) (by omega), if_neg h35, if_neg h51, if_pos hsw, mDrws, hbad]) dX7_draws_276
                    · refine v_iload_6 hC dX7_draws_237 ?_
                      refine v_iload_4 hC dX7_draws_239 ?_
                      refine v_icge (tgt := 274) hC dX7_draws_241 (by decide) (fun h241 => absurd h241 (nI_ge hd (by omega))) (fun h241 => ?_)
                      refine v_aload_0 hC dX7_draws_244 ?_
                      refine v_get hC fX7_7 (by decide) rfl rfl dX7_draws_245 ?_
                      refine v_bipush hC dX7_draws_248 bp_50 ?_
                      refine v_bipush hC dX7_draws_250 bp_24 ?_
                      refine v_iload_1 hC dX7_draws_252 ?_
                      refine v_imulN hC dX7_draws_253 ?_
                      refine v_iaddN hC dX7_draws_254 ?_
                      refine v_iload_2 hC dX7_draws_255 ?_
                      refine v_iaddN hC dX7_draws_256 ?_
                      refine v_iload_6 hC dX7_draws_257 ?_
                      refine v_iaddN hC dX7_draws_259 ?_
                      refine v_aload_0 hC dX7_draws_260 ?_
                      refine v_get hC fX7_25 (by decide) rfl rfl dX7_draws_261 ?_
                      refine v_iload_6 hC dX7_draws_264 ?_
                      refine w_iald (k := 6) hC N_6 (by first | omega | (simp only [mcl, mRd]; omega)) dX7_draws_266 ?_
                      refine w_iast (k := 1) hC N_1 (by first | omega | (simp only [mcl, mRd]; omega)) dX7_draws_267 ?_
                      refine v_iinc1_6 hC (by decide) rfl dX7_draws_268 ?_
                      refine v_goto (tgt := 237) hC dX7_draws_271 (by decide) ?_
                      exact ih
                  · refine v_iload_6 hC dX7_draws_155 ?_
                    refine v_iload_4 hC dX7_draws_157 ?_
                    refine v_icge (tgt := 234) hC dX7_draws_159 (by decide) (fun h159 => absurd h159 (nI_ge hd (by omega))) (fun h159 => ?_)
                    refine v_aload_0 hC dX7_draws_162 ?_
                    refine v_get hC fX7_25 (by decide) rfl rfl dX7_draws_163 ?_
                    refine v_iload_6 hC dX7_draws_166 ?_
                    refine v_iload_5 hC dX7_draws_168 ?_
                    refine v_ifeq (tgt := 191) hC dX7_draws_170 (by decide) (fun h170 => ?_) (fun h170 => ?_)
                    · refine v_aload_0 hC dX7_draws_191 ?_
                      refine v_get hC fX7_22 (by decide) rfl rfl dX7_draws_192 ?_
                      refine v_bipush hC dX7_draws_195 bp_24 ?_
                      refine v_iload_3 hC dX7_draws_197 ?_
                      refine v_imulN hC dX7_draws_198 ?_
                      refine v_iload_6 hC dX7_draws_199 ?_
                      refine v_iaddN hC dX7_draws_201 ?_
                      refine w_iald (k := 5) hC N_5 (by first | omega | (simp only [mcl, mRd]; omega)) dX7_draws_202 ?_
                      refine v_top (y := mWhole (it0 (fmCar s) d μ) s d) (by rw [mWhole, carOff s μ d 3 (by decide), if_neg (fun q => by rw [fl, if_pos q] at h170; exact absurd h170 (by decide))]) ?_
                      refine w_iast (k := 6) hC N_6 (by first | omega | (simp only [mcl, mRd]; omega)) dX7_draws_203 ?_
                      refine v_aload_0 hC dX7_draws_204 ?_
                      refine v_get hC fX7_25 (by decide) rfl rfl dX7_draws_205 ?_
                      refine v_iload_6 hC dX7_draws_208 ?_
                      refine w_iald (k := 6) hC N_6 (by first | omega | (simp only [mcl, mRd]; omega)) dX7_draws_210 ?_
                      refine v_iconst hC dX7_draws_211 ic_0 ?_
                      refine v_sipush hC dX7_draws_212 sp_1000 ?_
                      refine v_cs3r hC lX7_48 (k_X7_in _ _ _) ⟨Nat.le_of_ble_eq_true rfl, Nat.le_of_ble_eq_true rfl, rfl, rfl⟩ (Nat.le_of_ble_eq_true rfl) dX7_draws_215 ?_
                      rw [show wr (it0 (fmCar s) d μ) 6 d (mWhole (it0 (fmCar s) d μ) s d) 6 d = mWhole (it0 (fmCar s) d μ) s d from wr_in]
                      refine v_ifneb (tgt := 228) hC dX7_draws_218 (by decide) (fun h218 => ?_) (fun h218 => ?_)
                      · have h218x := h218
                        refine v_iinc1_6 hC (by decide) rfl dX7_draws_228 ?_
                        refine v_goto (tgt := 155) hC dX7_draws_231 (by decide) ?_
                        exact ih (hx.trans (scan_f (by simpa using h218x) (by omega)))
                      · refine v_aload_0 hC dX7_draws_221 ?_
                        refine v_ldc hC kX7_62 dX7_draws_222 ?_
                        refine v_cv1r hC lX7_63 ⟨by decide, 7, _, rfl, rfl, fun _ _ _ => ⟨_, rfl⟩⟩ (k_X7_found _) ⟨Nat.le_of_ble_eq_true rfl, Nat.le_of_ble_eq_true rfl, rfl, rfl⟩ (Nat.le_of_ble_eq_true rfl) dX7_draws_224 ?_
                        exact v_iretM hC hT (by rw [mfDraws, if_pos ⟨h5, h12, h19⟩, tnI (j := w) (by omega), tnI (j := m) (by omega), tnI (j := s) (by omega), if_neg h35, if_neg h51, if_pos hsw, mDrws, show mBad μ s (mdrN μ m s) = some d from hx.trans (scan_t (decide_eq_true h218) (by omega))]; rfl) dX7_draws_227
                    · refine v_aload_0 hC dX7_draws_173 ?_
                      refine v_get hC fX7_22 (by decide) rfl rfl dX7_draws_174 ?_
                      refine v_bipush hC dX7_draws_177 bp_24 ?_
                      refine v_iload_3 hC dX7_draws_179 ?_
                      refine v_imulN hC dX7_draws_180 ?_
                      refine v_iload_6 hC dX7_draws_181 ?_
                      refine v_iaddN hC dX7_draws_183 ?_
                      refine w_iald (k := 5) hC N_5 (by first | omega | (simp only [mcl, mRd]; omega)) dX7_draws_184 ?_
                      refine v_cs1r hC lX7_102 (k_X7_cut _) ⟨Nat.le_of_ble_eq_true rfl, Nat.le_of_ble_eq_true rfl, rfl, rfl⟩ (Nat.le_of_ble_eq_true rfl) dX7_draws_185 ?_
                      refine v_goto (tgt := 203) hC dX7_draws_188 (by decide) ?_
                      refine v_top (y := mWhole (it0 (fmCar s) d μ) s d) (by rw [mWhole, carOff s μ d 3 (by decide), if_pos (by by_cases q : μ 3 s = nI 2; exact q; exact absurd (by rw [fl, if_neg q]; decide) h170)]) ?_
                      refine w_iast (k := 6) hC N_6 (by first | omega | (simp only [mcl, mRd]; omega)) dX7_draws_203 ?_
                      refine v_aload_0 hC dX7_draws_204 ?_
                      refine v_get hC fX7_25 (by decide) rfl rfl dX7_draws_205 ?_
                      refine v_iload_6 hC dX7_draws_208 ?_
                      refine w_iald (k := 6) hC N_6 (by first | omega | (simp only [mcl, mRd]; omega)) dX7_draws_210 ?_
                      refine v_iconst hC dX7_draws_211 ic_0 ?_
                      refine v_sipush hC dX7_draws_212 sp_1000 ?_
                      refine v_cs3r hC lX7_48 (k_X7_in _ _ _) ⟨Nat.le_of_ble_eq_true rfl, Nat.le_of_ble_eq_true rfl, rfl, rfl⟩ (Nat.le_of_ble_eq_true rfl) dX7_draws_215 ?_
                      rw [show wr (it0 (fmCar s) d μ) 6 d (mWhole (it0 (fmCar s) d μ) s d) 6 d = mWhole (it0 (fmCar s) d μ) s d from wr_in]
                      refine v_ifneb (tgt := 228) hC dX7_draws_218 (by decide) (fun h218 => ?_) (fun h218 => ?_)
                      · have h218x := h218
                        refine v_iinc1_6 hC (by decide) rfl dX7_draws_228 ?_
                        refine v_goto (tgt := 155) hC dX7_draws_231 (by decide) ?_
                        exact ih (hx.trans (scan_f (by simpa using h218x) (by omega)))
                      · refine v_aload_0 hC dX7_draws_221 ?_
                        refine v_ldc hC kX7_62 dX7_draws_222 ?_
                        refine v_cv1r hC lX7_63 ⟨by decide, 7, _, rfl, rfl, fun _ _ _ => ⟨_, rfl⟩⟩ (k_X7_found _) ⟨Nat.le_of_ble_eq_true rfl, Nat.le_of_ble_eq_true rfl, rfl, rfl⟩ (Nat.le_of_ble_eq_true rfl) dX7_draws_224 ?_
                        exact v_iretM hC hT (by rw [mfDraws, if_pos ⟨h5, h12, h19⟩, tnI (j := w) (by omega), tnI (j := m) (by omega), tnI (j := s) (by omega), if_neg h35, if_neg h51, if_pos hsw, mDrws, show mBad μ s (mdrN μ m s) = some d from hx.trans (scan_t (decide_eq_true h218) (by omega))]; rfl) dX7_draws_227
                · refine v_iload_6 hC dX7_draws_109 ?_
                  refine v_iload_4 hC dX7_draws_111 ?_
                  refine v_icge (tgt := 152) hC dX7_draws_113 (by decide) (fun h113 => absurd h113 (nI_ge hd (by omega))) (fun h113 => ?_)
                  refine v_iload_5 hC dX7_draws_116 ?_
                  refine v_ifeq (tgt := 152) hC dX7_draws_118 (by decide) (fun h118 => ?_) (fun h118 => ?_)
                  · have hsw : mswn μ s (mdrN μ m s) := fun i _ q => by rw [fl, if_pos q.1] at h118; exact absurd h118 (by decide)
                    refine v_iconst hC dX7_draws_152 ic_0 ?_
                    refine v_istore_6 hC (by decide) rfl dX7_draws_153 ?_
                    refine up_loop (fun d : Nat => (scan (fun i => decide (¬ isR (mWhole (it0 (fmCar s) i μ) s i) 1000)) 0 (mdrN μ m s) = scan (fun i => decide (¬ isR (mWhole (it0 (fmCar s) i μ) s i) 1000)) d (mdrN μ m s - d)) → V X E 155 [some (.ref (adr E 54)), some (.int (nI w)), some (.int (nI m)), some (.int (nI s)), some (.int (nI (mdrN μ m s))), some (.int (nI (fl μ s))), some (.int (nI d))] [] (σ) (it0 (fmCar s) d μ)) (Nat.zero_le (mdrN μ m s)) (fun hx => ?_) (fun d _ hd ih hx => ?_) rfl
                    · have hbad : mBad μ s (mdrN μ m s) = none := hx.trans (scan_0 (by omega))
                      refine v_iload_6 hC dX7_draws_155 ?_
                      refine v_iload_4 hC dX7_draws_157 ?_
                      refine v_icge (tgt := 234) hC dX7_draws_159 (by decide) (fun h159 => ?_) (fun h159 => absurd (Int32.le_refl _) h159)
                      refine v_iconst hC dX7_draws_234 ic_0 ?_
                      refine v_istore_6 hC (by decide) rfl dX7_draws_235 ?_
                      refine up_loop (fun d : Nat => V X E 237 [some (.ref (adr E 54)), some (.int (nI w)), some (.int (nI m)), some (.int (nI s)), some (.int (nI (mdrN μ m s))), some (.int (nI (fl μ s))), some (.int (nI d))] [] (σ) (it0 (fmDrw w m) d (it0 (fmCar s) (mdrN μ m s) μ))) (Nat.zero_le (mdrN μ m s)) ?_ (fun d _ hd ih => ?_)
                      · refine v_iload_6 hC dX7_draws_237 ?_
                        refine v_iload_4 hC dX7_draws_239 ?_
                        refine v_icge (tgt := 274) hC dX7_draws_241 (by decide) (fun h241 => ?_) (fun h241 => absurd (Int32.le_refl _) h241)
                        refine v_iload_4 hC dX7_draws_274 ?_
                        exact v_iretM hC hT (by rw [mfDraws, if_pos ⟨h5, h12, h19⟩, tnI (j := w) (by omega), tnI (j := m) (by omega), tnI (j := s) (by omega), if_neg h35, if_neg h51, if_pos hsw, mDrws, hbad]) dX7_draws_276
                      · refine v_iload_6 hC dX7_draws_237 ?_
                        refine v_iload_4 hC dX7_draws_239 ?_
                        refine v_icge (tgt := 274) hC dX7_draws_241 (by decide) (fun h241 => absurd h241 (nI_ge hd (by omega))) (fun h241 => ?_)
                        refine v_aload_0 hC dX7_draws_244 ?_
                        refine v_get hC fX7_7 (by decide) rfl rfl dX7_draws_245 ?_
                        refine v_bipush hC dX7_draws_248 bp_50 ?_
                        refine v_bipush hC dX7_draws_250 bp_24 ?_
                        refine v_iload_1 hC dX7_draws_252 ?_
                        refine v_imulN hC dX7_draws_253 ?_
                        refine v_iaddN hC dX7_draws_254 ?_
                        refine v_iload_2 hC dX7_draws_255 ?_
                        refine v_iaddN hC dX7_draws_256 ?_
                        refine v_iload_6 hC dX7_draws_257 ?_
                        refine v_iaddN hC dX7_draws_259 ?_
                        refine v_aload_0 hC dX7_draws_260 ?_
                        refine v_get hC fX7_25 (by decide) rfl rfl dX7_draws_261 ?_
                        refine v_iload_6 hC dX7_draws_264 ?_
                        refine w_iald (k := 6) hC N_6 (by first | omega | (simp only [mcl, mRd]; omega)) dX7_draws_266 ?_
                        refine w_iast (k := 1) hC N_1 (by first | omega | (simp only [mcl, mRd]; omega)) dX7_draws_267 ?_
                        refine v_iinc1_6 hC (by decide) rfl dX7_draws_268 ?_
                        refine v_goto (tgt := 237) hC dX7_draws_271 (by decide) ?_
                        exact ih
                    · refine v_iload_6 hC dX7_draws_155 ?_
                      refine v_iload_4 hC dX7_draws_157 ?_
                      refine v_icge (tgt := 234) hC dX7_draws_159 (by decide) (fun h159 => absurd h159 (nI_ge hd (by omega))) (fun h159 => ?_)
                      refine v_aload_0 hC dX7_draws_162 ?_
                      refine v_get hC fX7_25 (by decide) rfl rfl dX7_draws_163 ?_
                      refine v_iload_6 hC dX7_draws_166 ?_
                      refine v_iload_5 hC dX7_draws_168 ?_
                      refine v_ifeq (tgt := 191) hC dX7_draws_170 (by decide) (fun h170 => ?_) (fun h170 => ?_)
                      · refine v_aload_0 hC dX7_draws_191 ?_
                        refine v_get hC fX7_22 (by decide) rfl rfl dX7_draws_192 ?_
                        refine v_bipush hC dX7_draws_195 bp_24 ?_
                        refine v_iload_3 hC dX7_draws_197 ?_
                        refine v_imulN hC dX7_draws_198 ?_
                        refine v_iload_6 hC dX7_draws_199 ?_
                        refine v_iaddN hC dX7_draws_201 ?_
                        refine w_iald (k := 5) hC N_5 (by first | omega | (simp only [mcl, mRd]; omega)) dX7_draws_202 ?_
                        refine v_top (y := mWhole (it0 (fmCar s) d μ) s d) (by rw [mWhole, carOff s μ d 3 (by decide), if_neg (fun q => by rw [fl, if_pos q] at h170; exact absurd h170 (by decide))]) ?_
                        refine w_iast (k := 6) hC N_6 (by first | omega | (simp only [mcl, mRd]; omega)) dX7_draws_203 ?_
                        refine v_aload_0 hC dX7_draws_204 ?_
                        refine v_get hC fX7_25 (by decide) rfl rfl dX7_draws_205 ?_
                        refine v_iload_6 hC dX7_draws_208 ?_
                        refine w_iald (k := 6) hC N_6 (by first | omega | (simp only [mcl, mRd]; omega)) dX7_draws_210 ?_
                        refine v_iconst hC dX7_draws_211 ic_0 ?_
                        refine v_sipush hC dX7_draws_212 sp_1000 ?_
                        refine v_cs3r hC lX7_48 (k_X7_in _ _ _) ⟨Nat.le_of_ble_eq_true rfl, Nat.le_of_ble_eq_true rfl, rfl, rfl⟩ (Nat.le_of_ble_eq_true rfl) dX7_draws_215 ?_
                        rw [show wr (it0 (fmCar s) d μ) 6 d (mWhole (it0 (fmCar s) d μ) s d) 6 d = mWhole (it0 (fmCar s) d μ) s d from wr_in]
                        refine v_ifneb (tgt := 228) hC dX7_draws_218 (by decide) (fun h218 => ?_) (fun h218 => ?_)
                        · have h218x := h218
                          refine v_iinc1_6 hC (by decide) rfl dX7_draws_228 ?_
                          refine v_goto (tgt := 155) hC dX7_draws_231 (by decide) ?_
                          exact ih (hx.trans (scan_f (by simpa using h218x) (by omega)))
                        · refine v_aload_0 hC dX7_draws_221 ?_
                          refine v_ldc hC kX7_62 dX7_draws_222 ?_
                          refine v_cv1r hC lX7_63 ⟨by decide, 7, _, rfl, rfl, fun _ _ _ => ⟨_, rfl⟩⟩ (k_X7_found _) ⟨Nat.le_of_ble_eq_true rfl, Nat.le_of_ble_eq_true rfl, rfl, rfl⟩ (Nat.le_of_ble_eq_true rfl) dX7_draws_224 ?_
                          exact v_iretM hC hT (by rw [mfDraws, if_pos ⟨h5, h12, h19⟩, tnI (j := w) (by omega), tnI (j := m) (by omega), tnI (j := s) (by omega), if_neg h35, if_neg h51, if_pos hsw, mDrws, show mBad μ s (mdrN μ m s) = some d from hx.trans (scan_t (decide_eq_true h218) (by omega))]; rfl) dX7_draws_227
                      · refine v_aload_0 hC dX7_draws_173 ?_
                        refine v_get hC fX7_22 (by decide) rfl rfl dX7_draws_174 ?_
                        refine v_bipush hC dX7_draws_177 bp_24 ?_
                        refine v_iload_3 hC dX7_draws_179 ?_
                        refine v_imulN hC dX7_draws_180 ?_
                        refine v_iload_6 hC dX7_draws_181 ?_
                        refine v_iaddN hC dX7_draws_183 ?_
                        refine w_iald (k := 5) hC N_5 (by first | omega | (simp only [mcl, mRd]; omega)) dX7_draws_184 ?_
                        refine v_cs1r hC lX7_102 (k_X7_cut _) ⟨Nat.le_of_ble_eq_true rfl, Nat.le_of_ble_eq_true rfl, rfl, rfl⟩ (Nat.le_of_ble_eq_true rfl) dX7_draws_185 ?_
                        refine v_goto (tgt := 203) hC dX7_draws_188 (by decide) ?_
                        refine v_top (y := mWhole (it0 (fmCar s) d μ) s d) (by rw [mWhole, carOff s μ d 3 (by decide), if_pos (by by_cases q : μ 3 s = nI 2; exact q; exact absurd (by rw [fl, if_neg q]; decide) h170)]) ?_
                        refine w_iast (k := 6) hC N_6 (by first | omega | (simp only [mcl, mRd]; omega)) dX7_draws_203 ?_
                        refine v_aload_0 hC dX7_draws_204 ?_
                        refine v_get hC fX7_25 (by decide) rfl rfl dX7_draws_205 ?_
                        refine v_iload_6 hC dX7_draws_208 ?_
                        refine w_iald (k := 6) hC N_6 (by first | omega | (simp only [mcl, mRd]; omega)) dX7_draws_210 ?_
                        refine v_iconst hC dX7_draws_211 ic_0 ?_
                        refine v_sipush hC dX7_draws_212 sp_1000 ?_
                        refine v_cs3r hC lX7_48 (k_X7_in _ _ _) ⟨Nat.le_of_ble_eq_true rfl, Nat.le_of_ble_eq_true rfl, rfl, rfl⟩ (Nat.le_of_ble_eq_true rfl) dX7_draws_215 ?_
                        rw [show wr (it0 (fmCar s) d μ) 6 d (mWhole (it0 (fmCar s) d μ) s d) 6 d = mWhole (it0 (fmCar s) d μ) s d from wr_in]
                        refine v_ifneb (tgt := 228) hC dX7_draws_218 (by decide) (fun h218 => ?_) (fun h218 => ?_)
                        · have h218x := h218
                          refine v_iinc1_6 hC (by decide) rfl dX7_draws_228 ?_
                          refine v_goto (tgt := 155) hC dX7_draws_231 (by decide) ?_
                          exact ih (hx.trans (scan_f (by simpa using h218x) (by omega)))
                        · refine v_aload_0 hC dX7_draws_221 ?_
                          refine v_ldc hC kX7_62 dX7_draws_222 ?_
                          refine v_cv1r hC lX7_63 ⟨by decide, 7, _, rfl, rfl, fun _ _ _ => ⟨_, rfl⟩⟩ (k_X7_found _) ⟨Nat.le_of_ble_eq_true rfl, Nat.le_of_ble_eq_true rfl, rfl, rfl⟩ (Nat.le_of_ble_eq_true rfl) dX7_draws_224 ?_
                          exact v_iretM hC hT (by rw [mfDraws, if_pos ⟨h5, h12, h19⟩, tnI (j := w) (by omega), tnI (j := m) (by omega), tnI (j := s) (by omega), if_neg h35, if_neg h51, if_pos hsw, mDrws, show mBad μ s (mdrN μ m s) = some d from hx.trans (scan_t (decide_eq_true h218) (by omega))]; rfl) dX7_draws_227
                  · refine v_aload_0 hC dX7_draws_121 ?_
                    refine v_get hC fX7_22 (by decide) rfl rfl dX7_draws_122 ?_
                    refine v_bipush hC dX7_draws_125 bp_24 ?_
                    refine v_iload_3 hC dX7_draws_127 ?_
                    refine v_imulN hC dX7_draws_128 ?_
                    refine v_iload_6 hC dX7_draws_129 ?_
                    refine v_iaddN hC dX7_draws_131 ?_
                    refine w_iald (k := 5) hC N_5 (by first | omega | (simp only [mcl, mRd]; omega)) dX7_draws_132 ?_
                    refine v_cs1r hC lX7_92 (k_X7_isNone _) ⟨Nat.le_of_ble_eq_true rfl, Nat.le_of_ble_eq_true rfl, rfl, rfl⟩ (Nat.le_of_ble_eq_true rfl) dX7_draws_133 ?_
                    refine v_ifeqb (tgt := 146) hC dX7_draws_136 (by decide) (fun h136 => ?_) (fun h136 => ?_)
                    · refine v_iinc1_6 hC (by decide) rfl dX7_draws_146 ?_
                      refine v_goto (tgt := 109) hC dX7_draws_149 (by decide) ?_
                      exact ih (all_s hx (fun q => h136 q.2))
                    · refine v_aload_0 hC dX7_draws_139 ?_
                      refine v_ldc hC kX7_101 dX7_draws_140 ?_
                      refine v_cv1r hC lX7_63 ⟨by decide, 7, _, rfl, rfl, fun _ _ _ => ⟨_, rfl⟩⟩ (k_X7_found _) ⟨Nat.le_of_ble_eq_true rfl, Nat.le_of_ble_eq_true rfl, rfl, rfl⟩ (Nat.le_of_ble_eq_true rfl) dX7_draws_142 ?_
                      exact v_iretM hC hT (by rw [mfDraws, if_pos ⟨h5, h12, h19⟩, tnI (j := w) (by omega), tnI (j := m) (by omega), tnI (j := s) (by omega), if_neg h35, if_neg h51, if_neg (fun q => q d hd ⟨by by_cases z : μ 3 s = nI 2; exact z; exact absurd (by rw [fl, if_neg z]; decide) h118, h136⟩)]) dX7_draws_145
          · refine v_aload_0 hC dX7_draws_54 ?_
            refine v_ldc hC kX7_91 dX7_draws_55 ?_
            refine v_cv1r hC lX7_63 ⟨by decide, 7, _, rfl, rfl, fun _ _ _ => ⟨_, rfl⟩⟩ (k_X7_found _) ⟨Nat.le_of_ble_eq_true rfl, Nat.le_of_ble_eq_true rfl, rfl, rfl⟩ (Nat.le_of_ble_eq_true rfl) dX7_draws_57 ?_
            exact v_iretM hC hT (by rw [mfDraws, if_pos ⟨h5, h12, h19⟩, tnI (j := w) (by omega), tnI (j := m) (by omega), tnI (j := s) (by omega), if_neg h35, if_pos h51]) dX7_draws_60
        · refine v_aload_0 hC dX7_draws_38 ?_
          refine v_ldc hC kX7_74 dX7_draws_39 ?_
          refine v_cv1r hC lX7_63 ⟨by decide, 7, _, rfl, rfl, fun _ _ _ => ⟨_, rfl⟩⟩ (k_X7_found _) ⟨Nat.le_of_ble_eq_true rfl, Nat.le_of_ble_eq_true rfl, rfl, rfl⟩ (Nat.le_of_ble_eq_true rfl) dX7_draws_41 ?_
          exact v_iretM hC hT (by rw [mfDraws, if_pos ⟨h5, h12, h19⟩, tnI (j := w) (by omega), tnI (j := m) (by omega), tnI (j := s) (by omega), if_pos h35]) dX7_draws_44
      · refine v_aload_0 hC dX7_draws_22 ?_
        refine v_ldc hC kX7_62 dX7_draws_23 ?_
        refine v_cv1r hC lX7_63 ⟨by decide, 7, _, rfl, rfl, fun _ _ _ => ⟨_, rfl⟩⟩ (k_X7_found _) ⟨Nat.le_of_ble_eq_true rfl, Nat.le_of_ble_eq_true rfl, rfl, rfl⟩ (Nat.le_of_ble_eq_true rfl) dX7_draws_25 ?_
        exact v_iretM hC hT (by rw [mfDraws, if_neg (fun q => h19 q.2.2)]) dX7_draws_28
theorem k_X7_draw {l : Launch} {E : ET} {σ μ : St} (hwm : WM μ) (w m v : Int32) : Ct l E MX7_draw [.ref (adr E 54), .int w, .int m, .int v] (σ) (μ) (some (.int (mfDraw μ w m v).1)) (σ) ((mfDraw μ w m v).2) := by
  have h10 := hwm.n10
  have l10 := hwm.l10
  refine Ct.of (L := [some (.ref (adr E 54)), some (.int w), some (.int m), some (.int v), none]) (by decide) rfl (Nat.le_of_ble_eq_true rfl) rfl (fun X hC hT => ?_)
  refine v_aload_0 hC dX7_draw_0 ?_
  refine v_iload_1 hC dX7_draw_1 ?_
  refine v_cv1r hC lX7_68 ⟨by decide, 7, _, rfl, rfl, fun _ _ _ => ⟨_, rfl⟩⟩ (k_X7_isWell _) ⟨Nat.le_of_ble_eq_true rfl, Nat.le_of_ble_eq_true rfl, rfl, rfl⟩ (Nat.le_of_ble_eq_true rfl) dX7_draw_2 ?_
  refine v_ifeqb (tgt := 26) hC dX7_draw_5 (by decide) (fun h5 => ?_) (fun h5 => ?_)
  · refine v_aload_0 hC dX7_draw_26 ?_
    refine v_ldc hC kX7_62 dX7_draw_27 ?_
    refine v_cv1r hC lX7_63 ⟨by decide, 7, _, rfl, rfl, fun _ _ _ => ⟨_, rfl⟩⟩ (k_X7_found _) ⟨Nat.le_of_ble_eq_true rfl, Nat.le_of_ble_eq_true rfl, rfl, rfl⟩ (Nat.le_of_ble_eq_true rfl) dX7_draw_29 ?_
    exact v_iretM hC hT (by rw [mfDraw, if_neg (fun q => h5 q.1)]) dX7_draw_32
  · refine v_iload_2 hC dX7_draw_8 ?_
    refine v_cs1r hC lX7_98 (k_X7_isMonth _) ⟨Nat.le_of_ble_eq_true rfl, Nat.le_of_ble_eq_true rfl, rfl, rfl⟩ (Nat.le_of_ble_eq_true rfl) dX7_draw_9 ?_
    refine v_ifeqb (tgt := 26) hC dX7_draw_12 (by decide) (fun h12 => ?_) (fun h12 => ?_)
    · refine v_aload_0 hC dX7_draw_26 ?_
      refine v_ldc hC kX7_62 dX7_draw_27 ?_
      refine v_cv1r hC lX7_63 ⟨by decide, 7, _, rfl, rfl, fun _ _ _ => ⟨_, rfl⟩⟩ (k_X7_found _) ⟨Nat.le_of_ble_eq_true rfl, Nat.le_of_ble_eq_true rfl, rfl, rfl⟩ (Nat.le_of_ble_eq_true rfl) dX7_draw_29 ?_
      exact v_iretM hC hT (by rw [mfDraw, if_neg (fun q => h12 q.2.1)]) dX7_draw_32
    · refine v_iload_3 hC dX7_draw_15 ?_
      refine v_iconst hC dX7_draw_16 ic_0 ?_
      refine v_sipush hC dX7_draw_17 sp_1000 ?_
      refine v_cs3r hC lX7_48 (k_X7_in _ _ _) ⟨Nat.le_of_ble_eq_true rfl, Nat.le_of_ble_eq_true rfl, rfl, rfl⟩ (Nat.le_of_ble_eq_true rfl) dX7_draw_20 ?_
      refine v_ifneb (tgt := 33) hC dX7_draw_23 (by decide) (fun h23 => ?_) (fun h23 => ?_)
      · obtain ⟨w, hw, rfl⟩ := isMW_nat hwm h5
        obtain ⟨m, hm, rfl⟩ := isR_nat (by decide) h12
        refine v_aload_0 hC dX7_draw_33 ?_
        refine v_iload_1 hC dX7_draw_34 ?_
        refine v_cv1r hC lX7_71 ⟨by decide, 7, _, rfl, rfl, fun _ _ _ => ⟨_, rfl⟩⟩ (k_X7_kindOf (by omega)) ⟨Nat.le_of_ble_eq_true rfl, Nat.le_of_ble_eq_true rfl, rfl, rfl⟩ (Nat.le_of_ble_eq_true rfl) dX7_draw_35 ?_
        refine v_iconst hC dX7_draw_38 ic_5 ?_
        refine v_icne (tgt := 49) hC dX7_draw_39 (by decide) (fun h39 => ?_) (fun h39 => ?_)
        · refine v_aload_0 hC dX7_draw_49 ?_
          refine v_iload_1 hC dX7_draw_50 ?_
          refine v_iload_2 hC dX7_draw_51 ?_
          refine v_cv2r hC lX7_75 ⟨by decide, 7, _, rfl, rfl, fun _ _ _ => ⟨_, rfl⟩⟩ (k_X7_drawOf (by omega) (by omega)) ⟨Nat.le_of_ble_eq_true rfl, Nat.le_of_ble_eq_true rfl, rfl, rfl⟩ (Nat.le_of_ble_eq_true rfl) dX7_draw_52 ?_
          refine v_istore_4 hC (by decide) rfl dX7_draw_55 ?_
          refine v_aload_0 hC dX7_draw_57 ?_
          refine v_get hC fX7_7 (by decide) rfl rfl dX7_draw_58 ?_
          refine v_bipush hC dX7_draw_61 bp_50 ?_
          refine v_bipush hC dX7_draw_63 bp_24 ?_
          refine v_iload_1 hC dX7_draw_65 ?_
          refine v_imulN hC dX7_draw_66 ?_
          refine v_iaddN hC dX7_draw_67 ?_
          refine v_iload_2 hC dX7_draw_68 ?_
          refine v_iaddN hC dX7_draw_69 ?_
          refine v_iload_3 hC dX7_draw_70 ?_
          refine w_iast (k := 1) hC N_1 (by first | omega | (simp only [mcl, mRd]; omega)) dX7_draw_71 ?_
          refine v_iload_4 hC dX7_draw_72 ?_
          exact v_iretM hC hT (by rw [mfDraw, if_pos ⟨h5, h12, h23⟩, tnI (j := w) (by omega), tnI (j := m) (by omega), if_neg h39]) dX7_draw_74
        · refine v_aload_0 hC dX7_draw_42 ?_
          refine v_ldc hC kX7_74 dX7_draw_43 ?_
          refine v_cv1r hC lX7_63 ⟨by decide, 7, _, rfl, rfl, fun _ _ _ => ⟨_, rfl⟩⟩ (k_X7_found _) ⟨Nat.le_of_ble_eq_true rfl, Nat.le_of_ble_eq_true rfl, rfl, rfl⟩ (Nat.le_of_ble_eq_true rfl) dX7_draw_45 ?_
          exact v_iretM hC hT (by rw [mfDraw, if_pos ⟨h5, h12, h23⟩, tnI (j := w) (by omega), tnI (j := m) (by omega), if_pos h39]) dX7_draw_48
      · refine v_aload_0 hC dX7_draw_26 ?_
        refine v_ldc hC kX7_62 dX7_draw_27 ?_
        refine v_cv1r hC lX7_63 ⟨by decide, 7, _, rfl, rfl, fun _ _ _ => ⟨_, rfl⟩⟩ (k_X7_found _) ⟨Nat.le_of_ble_eq_true rfl, Nat.le_of_ble_eq_true rfl, rfl, rfl⟩ (Nat.le_of_ble_eq_true rfl) dX7_draw_29 ?_
        exact v_iretM hC hT (by rw [mfDraw, if_neg (fun q => h23 q.2.2)]) dX7_draw_32
theorem k_X7_counts {l : Launch} {E : ET} {σ μ : St} (hwm : WM μ) (w m : Int32) : Ct l E MX7_counts [.ref (adr E 54), .int w, .int m] (σ) (μ) (some (.int (mfCounts μ w m).1)) (σ) ((mfCounts μ w m).2) := by
  have h10 := hwm.n10
  have l10 := hwm.l10
  refine Ct.of (L := [some (.ref (adr E 54)), some (.int w), some (.int m)]) (by decide) rfl (Nat.le_of_ble_eq_true rfl) rfl (fun X hC hT => ?_)
  refine v_aload_0 hC dX7_counts_0 ?_
  refine v_iload_1 hC dX7_counts_1 ?_
  refine v_cv1r hC lX7_68 ⟨by decide, 7, _, rfl, rfl, fun _ _ _ => ⟨_, rfl⟩⟩ (k_X7_isWell _) ⟨Nat.le_of_ble_eq_true rfl, Nat.le_of_ble_eq_true rfl, rfl, rfl⟩ (Nat.le_of_ble_eq_true rfl) dX7_counts_2 ?_
  refine v_ifeqb (tgt := 31) hC dX7_counts_5 (by decide) (fun h5 => ?_) (fun h5 => ?_)
  · refine v_aload_0 hC dX7_counts_31 ?_
    refine v_ldc hC kX7_62 dX7_counts_32 ?_
    refine v_cv1r hC lX7_63 ⟨by decide, 7, _, rfl, rfl, fun _ _ _ => ⟨_, rfl⟩⟩ (k_X7_found _) ⟨Nat.le_of_ble_eq_true rfl, Nat.le_of_ble_eq_true rfl, rfl, rfl⟩ (Nat.le_of_ble_eq_true rfl) dX7_counts_34 ?_
    exact v_iretM hC hT (by rw [mfCounts, if_neg (fun q => h5 q.1)]) dX7_counts_37
  · refine v_iload_2 hC dX7_counts_8 ?_
    refine v_cs1r hC lX7_98 (k_X7_isMonth _) ⟨Nat.le_of_ble_eq_true rfl, Nat.le_of_ble_eq_true rfl, rfl, rfl⟩ (Nat.le_of_ble_eq_true rfl) dX7_counts_9 ?_
    refine v_ifeqb (tgt := 31) hC dX7_counts_12 (by decide) (fun h12 => ?_) (fun h12 => ?_)
    · refine v_aload_0 hC dX7_counts_31 ?_
      refine v_ldc hC kX7_62 dX7_counts_32 ?_
      refine v_cv1r hC lX7_63 ⟨by decide, 7, _, rfl, rfl, fun _ _ _ => ⟨_, rfl⟩⟩ (k_X7_found _) ⟨Nat.le_of_ble_eq_true rfl, Nat.le_of_ble_eq_true rfl, rfl, rfl⟩ (Nat.le_of_ble_eq_true rfl) dX7_counts_34 ?_
      exact v_iretM hC hT (by rw [mfCounts, if_neg (fun q => h12 q.2)]) dX7_counts_37
    · obtain ⟨w, hw, rfl⟩ := isMW_nat hwm h5
      obtain ⟨m, hm, rfl⟩ := isR_nat (by decide) h12
      refine v_aload_0 hC dX7_counts_15 ?_
      refine v_iload_1 hC dX7_counts_16 ?_
      refine v_iload_2 hC dX7_counts_17 ?_
      refine v_cv2r hC lX7_105 ⟨by decide, 7, _, rfl, rfl, fun _ _ _ => ⟨_, rfl⟩⟩ (k_X7_sign (by omega) (by omega)) ⟨Nat.le_of_ble_eq_true rfl, Nat.le_of_ble_eq_true rfl, rfl, rfl⟩ (Nat.le_of_ble_eq_true rfl) dX7_counts_18 ?_
      refine v_aload_0 hC dX7_counts_21 ?_
      refine v_iload_1 hC dX7_counts_22 ?_
      refine v_iload_2 hC dX7_counts_23 ?_
      refine v_cv2r hC lX7_75 ⟨by decide, 7, _, rfl, rfl, fun _ _ _ => ⟨_, rfl⟩⟩ (k_X7_drawOf (by omega) (by omega)) ⟨Nat.le_of_ble_eq_true rfl, Nat.le_of_ble_eq_true rfl, rfl, rfl⟩ (Nat.le_of_ble_eq_true rfl) dX7_counts_24 ?_
      refine v_imul hC dX7_counts_27 ?_
      refine v_goto (tgt := 37) hC dX7_counts_28 (by decide) ?_
      exact v_iretM hC hT (by rw [mfCounts, if_pos ⟨h5, h12⟩, tnI (j := w) (by omega), tnI (j := m) (by omega)]) dX7_counts_37
theorem k_X7_head {l : Launch} {E : ET} {σ μ : St} (hwm : WM μ) (w m : Int32) : Ct l E MX7_head [.ref (adr E 54), .int w, .int m] (σ) (μ) (some (.int (mfHead μ w m).1)) (σ) ((mfHead μ w m).2) := by
  have h10 := hwm.n10
  have l10 := hwm.l10
  refine Ct.of (L := [some (.ref (adr E 54)), some (.int w), some (.int m)]) (by decide) rfl (Nat.le_of_ble_eq_true rfl) rfl (fun X hC hT => ?_)
  refine v_aload_0 hC dX7_head_0 ?_
  refine v_iload_1 hC dX7_head_1 ?_
  refine v_cv1r hC lX7_68 ⟨by decide, 7, _, rfl, rfl, fun _ _ _ => ⟨_, rfl⟩⟩ (k_X7_isWell _) ⟨Nat.le_of_ble_eq_true rfl, Nat.le_of_ble_eq_true rfl, rfl, rfl⟩ (Nat.le_of_ble_eq_true rfl) dX7_head_2 ?_
  refine v_ifeqb (tgt := 24) hC dX7_head_5 (by decide) (fun h5 => ?_) (fun h5 => ?_)
  · refine v_aload_0 hC dX7_head_24 ?_
    refine v_ldc hC kX7_62 dX7_head_25 ?_
    refine v_cv1r hC lX7_63 ⟨by decide, 7, _, rfl, rfl, fun _ _ _ => ⟨_, rfl⟩⟩ (k_X7_found _) ⟨Nat.le_of_ble_eq_true rfl, Nat.le_of_ble_eq_true rfl, rfl, rfl⟩ (Nat.le_of_ble_eq_true rfl) dX7_head_27 ?_
    exact v_iretM hC hT (by rw [mfHead, if_neg (fun q => h5 q.1)]) dX7_head_30
  · refine v_iload_2 hC dX7_head_8 ?_
    refine v_cs1r hC lX7_98 (k_X7_isMonth _) ⟨Nat.le_of_ble_eq_true rfl, Nat.le_of_ble_eq_true rfl, rfl, rfl⟩ (Nat.le_of_ble_eq_true rfl) dX7_head_9 ?_
    refine v_ifeqb (tgt := 24) hC dX7_head_12 (by decide) (fun h12 => ?_) (fun h12 => ?_)
    · refine v_aload_0 hC dX7_head_24 ?_
      refine v_ldc hC kX7_62 dX7_head_25 ?_
      refine v_cv1r hC lX7_63 ⟨by decide, 7, _, rfl, rfl, fun _ _ _ => ⟨_, rfl⟩⟩ (k_X7_found _) ⟨Nat.le_of_ble_eq_true rfl, Nat.le_of_ble_eq_true rfl, rfl, rfl⟩ (Nat.le_of_ble_eq_true rfl) dX7_head_27 ?_
      exact v_iretM hC hT (by rw [mfHead, if_neg (fun q => h12 q.2)]) dX7_head_30
    · obtain ⟨w, hw, rfl⟩ := isMW_nat hwm h5
      obtain ⟨m, hm, rfl⟩ := isR_nat (by decide) h12
      refine v_aload_0 hC dX7_head_15 ?_
      refine v_iload_1 hC dX7_head_16 ?_
      refine v_iload_2 hC dX7_head_17 ?_
      refine v_cv2r hC lX7_118 ⟨by decide, 7, _, rfl, rfl, fun _ _ _ => ⟨_, rfl⟩⟩ (k_X7_headOf hwm (by omega) (by omega)) ⟨Nat.le_of_ble_eq_true rfl, Nat.le_of_ble_eq_true rfl, rfl, rfl⟩ (Nat.le_of_ble_eq_true rfl) dX7_head_18 ?_
      refine v_goto (tgt := 30) hC dX7_head_21 (by decide) ?_
      exact v_iretM hC hT (by rw [mfHead, if_pos ⟨h5, h12⟩, tnI (j := w) (by omega), tnI (j := m) (by omega)]) dX7_head_30
theorem k_X7_rained {l : Launch} {E : ET} {σ μ : St} (hwm : WM μ) (w m : Int32) : Ct l E MX7_rained [.ref (adr E 54), .int w, .int m] (σ) (μ) (some (.int (mfRained μ w m).1)) (σ) ((mfRained μ w m).2) := by
  have h10 := hwm.n10
  have l10 := hwm.l10
  refine Ct.of (L := [some (.ref (adr E 54)), some (.int w), some (.int m)]) (by decide) rfl (Nat.le_of_ble_eq_true rfl) rfl (fun X hC hT => ?_)
  refine v_aload_0 hC dX7_rained_0 ?_
  refine v_iload_1 hC dX7_rained_1 ?_
  refine v_cv1r hC lX7_68 ⟨by decide, 7, _, rfl, rfl, fun _ _ _ => ⟨_, rfl⟩⟩ (k_X7_isWell _) ⟨Nat.le_of_ble_eq_true rfl, Nat.le_of_ble_eq_true rfl, rfl, rfl⟩ (Nat.le_of_ble_eq_true rfl) dX7_rained_2 ?_
  refine v_ifeqb (tgt := 23) hC dX7_rained_5 (by decide) (fun h5 => ?_) (fun h5 => ?_)
  · refine v_aload_0 hC dX7_rained_23 ?_
    refine v_ldc hC kX7_62 dX7_rained_24 ?_
    refine v_cv1r hC lX7_63 ⟨by decide, 7, _, rfl, rfl, fun _ _ _ => ⟨_, rfl⟩⟩ (k_X7_found _) ⟨Nat.le_of_ble_eq_true rfl, Nat.le_of_ble_eq_true rfl, rfl, rfl⟩ (Nat.le_of_ble_eq_true rfl) dX7_rained_26 ?_
    exact v_iretM hC hT (by rw [mfRained, if_neg (fun q => h5 q.1)]) dX7_rained_29
  · refine v_iload_2 hC dX7_rained_8 ?_
    refine v_cs1r hC lX7_98 (k_X7_isMonth _) ⟨Nat.le_of_ble_eq_true rfl, Nat.le_of_ble_eq_true rfl, rfl, rfl⟩ (Nat.le_of_ble_eq_true rfl) dX7_rained_9 ?_
    refine v_ifeqb (tgt := 23) hC dX7_rained_12 (by decide) (fun h12 => ?_) (fun h12 => ?_)
    · refine v_aload_0 hC dX7_rained_23 ?_
      refine v_ldc hC kX7_62 dX7_rained_24 ?_
      refine v_cv1r hC lX7_63 ⟨by decide, 7, _, rfl, rfl, fun _ _ _ => ⟨_, rfl⟩⟩ (k_X7_found _) ⟨Nat.le_of_ble_eq_true rfl, Nat.le_of_ble_eq_true rfl, rfl, rfl⟩ (Nat.le_of_ble_eq_true rfl) dX7_rained_26 ?_
      exact v_iretM hC hT (by rw [mfRained, if_neg (fun q => h12 q.2)]) dX7_rained_29
    · obtain ⟨w, hw, rfl⟩ := isMW_nat hwm h5
      obtain ⟨m, hm, rfl⟩ := isR_nat (by decide) h12
      refine v_aload_0 hC dX7_rained_15 ?_
      refine v_iload_2 hC dX7_rained_16 ?_
      refine v_cv1r hC lX7_111 ⟨by decide, 7, _, rfl, rfl, fun _ _ _ => ⟨_, rfl⟩⟩ (k_X7_rainOf (by omega)) ⟨Nat.le_of_ble_eq_true rfl, Nat.le_of_ble_eq_true rfl, rfl, rfl⟩ (Nat.le_of_ble_eq_true rfl) dX7_rained_17 ?_
      refine v_goto (tgt := 29) hC dX7_rained_20 (by decide) ?_
      exact v_iretM hC hT (by rw [mfRained, if_pos ⟨h5, h12⟩, tnI (j := m) (by omega)]) dX7_rained_29
theorem k_X7_rain {l : Launch} {E : ET} {σ μ : St} (hwm : WM μ) (m v : Int32) : Ct l E MX7_rain [.ref (adr E 54), .int m, .int v] (σ) (μ) (some (.int (mfRain μ m v).1)) (σ) ((mfRain μ m v).2) := by
  have h10 := hwm.n10
  have l10 := hwm.l10
  refine Ct.of (L := [some (.ref (adr E 54)), some (.int m), some (.int v), none]) (by decide) rfl (Nat.le_of_ble_eq_true rfl) rfl (fun X hC hT => ?_)
  refine v_iload_1 hC dX7_rain_0 ?_
  refine v_cs1r hC lX7_98 (k_X7_isMonth _) ⟨Nat.le_of_ble_eq_true rfl, Nat.le_of_ble_eq_true rfl, rfl, rfl⟩ (Nat.le_of_ble_eq_true rfl) dX7_rain_1 ?_
  refine v_ifeqb (tgt := 18) hC dX7_rain_4 (by decide) (fun h4 => ?_) (fun h4 => ?_)
  · refine v_aload_0 hC dX7_rain_18 ?_
    refine v_ldc hC kX7_62 dX7_rain_19 ?_
    refine v_cv1r hC lX7_63 ⟨by decide, 7, _, rfl, rfl, fun _ _ _ => ⟨_, rfl⟩⟩ (k_X7_found _) ⟨Nat.le_of_ble_eq_true rfl, Nat.le_of_ble_eq_true rfl, rfl, rfl⟩ (Nat.le_of_ble_eq_true rfl) dX7_rain_21 ?_
    exact v_iretM hC hT (by rw [mfRain, if_neg (fun q => h4 q.1)]) dX7_rain_24
  · refine v_iload_2 hC dX7_rain_7 ?_
    refine v_iconst hC dX7_rain_8 ic_0 ?_
    refine v_sipush hC dX7_rain_9 sp_1000 ?_
    refine v_cs3r hC lX7_48 (k_X7_in _ _ _) ⟨Nat.le_of_ble_eq_true rfl, Nat.le_of_ble_eq_true rfl, rfl, rfl⟩ (Nat.le_of_ble_eq_true rfl) dX7_rain_12 ?_
    refine v_ifneb (tgt := 25) hC dX7_rain_15 (by decide) (fun h15 => ?_) (fun h15 => ?_)
    · obtain ⟨m, hm, rfl⟩ := isR_nat (by decide) h4
      refine v_aload_0 hC dX7_rain_25 ?_
      refine v_get hC fX7_7 (by decide) rfl rfl dX7_rain_26 ?_
      refine v_sipush hC dX7_rain_29 sp_542 ?_
      refine v_iload_1 hC dX7_rain_32 ?_
      refine v_iaddN hC dX7_rain_33 ?_
      refine w_iald (k := 1) hC N_1 (by first | omega | (simp only [mcl, mRd]; omega)) dX7_rain_34 ?_
      refine v_istore_3 hC (by decide) rfl dX7_rain_35 ?_
      refine v_aload_0 hC dX7_rain_36 ?_
      refine v_get hC fX7_7 (by decide) rfl rfl dX7_rain_37 ?_
      refine v_sipush hC dX7_rain_40 sp_542 ?_
      refine v_iload_1 hC dX7_rain_43 ?_
      refine v_iaddN hC dX7_rain_44 ?_
      refine v_iload_2 hC dX7_rain_45 ?_
      refine w_iast (k := 1) hC N_1 (by first | omega | (simp only [mcl, mRd]; omega)) dX7_rain_46 ?_
      refine v_iload_3 hC dX7_rain_47 ?_
      exact v_iretM hC hT (by rw [mfRain, if_pos ⟨h4, h15⟩, tnI (j := m) (by omega)]) dX7_rain_48
    · refine v_aload_0 hC dX7_rain_18 ?_
      refine v_ldc hC kX7_62 dX7_rain_19 ?_
      refine v_cv1r hC lX7_63 ⟨by decide, 7, _, rfl, rfl, fun _ _ _ => ⟨_, rfl⟩⟩ (k_X7_found _) ⟨Nat.le_of_ble_eq_true rfl, Nat.le_of_ble_eq_true rfl, rfl, rfl⟩ (Nat.le_of_ble_eq_true rfl) dX7_rain_21 ?_
      exact v_iretM hC hT (by rw [mfRain, if_neg (fun q => h15 q.2)]) dX7_rain_24
theorem k_X7_by {l : Launch} {E : ET} {σ μ : St} (hwm : WM μ) (w m s : Int32) : Ct l E MX7_by [.ref (adr E 54), .int w, .int m, .int s] (σ) (μ) (some (.int (mfBy μ w m s).1)) (σ) ((mfBy μ w m s).2) := by
  have h10 := hwm.n10
  have l10 := hwm.l10
  refine Ct.of (L := [some (.ref (adr E 54)), some (.int w), some (.int m), some (.int s)]) (by decide) rfl (Nat.le_of_ble_eq_true rfl) rfl (fun X hC hT => ?_)
  refine v_aload_0 hC dX7_by_0 ?_
  refine v_iload_1 hC dX7_by_1 ?_
  refine v_cv1r hC lX7_68 ⟨by decide, 7, _, rfl, rfl, fun _ _ _ => ⟨_, rfl⟩⟩ (k_X7_isWell _) ⟨Nat.le_of_ble_eq_true rfl, Nat.le_of_ble_eq_true rfl, rfl, rfl⟩ (Nat.le_of_ble_eq_true rfl) dX7_by_2 ?_
  refine v_ifeqb (tgt := 34) hC dX7_by_5 (by decide) (fun h5 => ?_) (fun h5 => ?_)
  · refine v_aload_0 hC dX7_by_34 ?_
    refine v_ldc hC kX7_62 dX7_by_35 ?_
    refine v_cv1r hC lX7_63 ⟨by decide, 7, _, rfl, rfl, fun _ _ _ => ⟨_, rfl⟩⟩ (k_X7_found _) ⟨Nat.le_of_ble_eq_true rfl, Nat.le_of_ble_eq_true rfl, rfl, rfl⟩ (Nat.le_of_ble_eq_true rfl) dX7_by_37 ?_
    exact v_iretM hC hT (by rw [mfBy, if_neg (fun q => h5 q.1)]) dX7_by_40
  · refine v_iload_2 hC dX7_by_8 ?_
    refine v_cs1r hC lX7_98 (k_X7_isMonth _) ⟨Nat.le_of_ble_eq_true rfl, Nat.le_of_ble_eq_true rfl, rfl, rfl⟩ (Nat.le_of_ble_eq_true rfl) dX7_by_9 ?_
    refine v_ifeqb (tgt := 34) hC dX7_by_12 (by decide) (fun h12 => ?_) (fun h12 => ?_)
    · refine v_aload_0 hC dX7_by_34 ?_
      refine v_ldc hC kX7_62 dX7_by_35 ?_
      refine v_cv1r hC lX7_63 ⟨by decide, 7, _, rfl, rfl, fun _ _ _ => ⟨_, rfl⟩⟩ (k_X7_found _) ⟨Nat.le_of_ble_eq_true rfl, Nat.le_of_ble_eq_true rfl, rfl, rfl⟩ (Nat.le_of_ble_eq_true rfl) dX7_by_37 ?_
      exact v_iretM hC hT (by rw [mfBy, if_neg (fun q => h12 q.2.1)]) dX7_by_40
    · refine v_aload_0 hC dX7_by_15 ?_
      refine v_iload_3 hC dX7_by_16 ?_
      refine v_cv1r hC lX7_68 ⟨by decide, 7, _, rfl, rfl, fun _ _ _ => ⟨_, rfl⟩⟩ (k_X7_isWell _) ⟨Nat.le_of_ble_eq_true rfl, Nat.le_of_ble_eq_true rfl, rfl, rfl⟩ (Nat.le_of_ble_eq_true rfl) dX7_by_17 ?_
      refine v_ifeqb (tgt := 34) hC dX7_by_20 (by decide) (fun h20 => ?_) (fun h20 => ?_)
      · refine v_aload_0 hC dX7_by_34 ?_
        refine v_ldc hC kX7_62 dX7_by_35 ?_
        refine v_cv1r hC lX7_63 ⟨by decide, 7, _, rfl, rfl, fun _ _ _ => ⟨_, rfl⟩⟩ (k_X7_found _) ⟨Nat.le_of_ble_eq_true rfl, Nat.le_of_ble_eq_true rfl, rfl, rfl⟩ (Nat.le_of_ble_eq_true rfl) dX7_by_37 ?_
        exact v_iretM hC hT (by rw [mfBy, if_neg (fun q => h20 q.2.2)]) dX7_by_40
      · obtain ⟨w, hw, rfl⟩ := isMW_nat hwm h5
        obtain ⟨m, hm, rfl⟩ := isR_nat (by decide) h12
        obtain ⟨s, hs, rfl⟩ := isMW_nat hwm h20
        refine v_aload_0 hC dX7_by_23 ?_
        refine v_iload_1 hC dX7_by_24 ?_
        refine v_iload_2 hC dX7_by_25 ?_
        refine v_iload_3 hC dX7_by_26 ?_
        refine v_iconst hC dX7_by_27 ic_0 ?_
        refine v_cv4r hC lX7_114 ⟨by decide, 7, _, rfl, rfl, fun _ _ _ => ⟨_, rfl⟩⟩ (k_X7_lowering hwm (by omega) (by omega) (by omega) (by omega)) ⟨Nat.le_of_ble_eq_true rfl, Nat.le_of_ble_eq_true rfl, rfl, rfl⟩ (Nat.le_of_ble_eq_true rfl) dX7_by_28 ?_
        refine v_goto (tgt := 40) hC dX7_by_31 (by decide) ?_
        exact v_iretM hC hT (by rw [mfBy, if_pos ⟨h5, h12, h20⟩, tnI (j := w) (by omega), tnI (j := m) (by omega), tnI (j := s) (by omega)]) dX7_by_40
theorem k_X7_without {l : Launch} {E : ET} {σ μ : St} (hwm : WM μ) (w m s f : Int32) : Ct l E MX7_without [.ref (adr E 54), .int w, .int m, .int s, .int f] (σ) (μ) (some (.int (mfWithout μ w m s f).1)) (σ) ((mfWithout μ w m s f).2) := by
  have h10 := hwm.n10
  have l10 := hwm.l10
  refine Ct.of (L := [some (.ref (adr E 54)), some (.int w), some (.int m), some (.int s), some (.int f)]) (by decide) rfl (Nat.le_of_ble_eq_true rfl) rfl (fun X hC hT => ?_)
  refine v_aload_0 hC dX7_without_0 ?_
  refine v_iload_1 hC dX7_without_1 ?_
  refine v_cv1r hC lX7_68 ⟨by decide, 7, _, rfl, rfl, fun _ _ _ => ⟨_, rfl⟩⟩ (k_X7_isWell _) ⟨Nat.le_of_ble_eq_true rfl, Nat.le_of_ble_eq_true rfl, rfl, rfl⟩ (Nat.le_of_ble_eq_true rfl) dX7_without_2 ?_
  refine v_ifeqb (tgt := 31) hC dX7_without_5 (by decide) (fun h5 => ?_) (fun h5 => ?_)
  · refine v_aload_0 hC dX7_without_31 ?_
    refine v_ldc hC kX7_62 dX7_without_32 ?_
    refine v_cv1r hC lX7_63 ⟨by decide, 7, _, rfl, rfl, fun _ _ _ => ⟨_, rfl⟩⟩ (k_X7_found _) ⟨Nat.le_of_ble_eq_true rfl, Nat.le_of_ble_eq_true rfl, rfl, rfl⟩ (Nat.le_of_ble_eq_true rfl) dX7_without_34 ?_
    exact v_iretM hC hT (by rw [mfWithout, if_neg (fun q => h5 q.1)]) dX7_without_37
  · refine v_iload_2 hC dX7_without_8 ?_
    refine v_cs1r hC lX7_98 (k_X7_isMonth _) ⟨Nat.le_of_ble_eq_true rfl, Nat.le_of_ble_eq_true rfl, rfl, rfl⟩ (Nat.le_of_ble_eq_true rfl) dX7_without_9 ?_
    refine v_ifeqb (tgt := 31) hC dX7_without_12 (by decide) (fun h12 => ?_) (fun h12 => ?_)
    · refine v_aload_0 hC dX7_without_31 ?_
      refine v_ldc hC kX7_62 dX7_without_32 ?_
      refine v_cv1r hC lX7_63 ⟨by decide, 7, _, rfl, rfl, fun _ _ _ => ⟨_, rfl⟩⟩ (k_X7_found _) ⟨Nat.le_of_ble_eq_true rfl, Nat.le_of_ble_eq_true rfl, rfl, rfl⟩ (Nat.le_of_ble_eq_true rfl) dX7_without_34 ?_
      exact v_iretM hC hT (by rw [mfWithout, if_neg (fun q => h12 q.2.1)]) dX7_without_37
    · refine v_aload_0 hC dX7_without_15 ?_
      refine v_iload_3 hC dX7_without_16 ?_
      refine v_cv1r hC lX7_68 ⟨by decide, 7, _, rfl, rfl, fun _ _ _ => ⟨_, rfl⟩⟩ (k_X7_isWell _) ⟨Nat.le_of_ble_eq_true rfl, Nat.le_of_ble_eq_true rfl, rfl, rfl⟩ (Nat.le_of_ble_eq_true rfl) dX7_without_17 ?_
      refine v_ifeqb (tgt := 31) hC dX7_without_20 (by decide) (fun h20 => ?_) (fun h20 => ?_)
      · refine v_aload_0 hC dX7_without_31 ?_
        refine v_ldc hC kX7_62 dX7_without_32 ?_
        refine v_cv1r hC lX7_63 ⟨by decide, 7, _, rfl, rfl, fun _ _ _ => ⟨_, rfl⟩⟩ (k_X7_found _) ⟨Nat.le_of_ble_eq_true rfl, Nat.le_of_ble_eq_true rfl, rfl, rfl⟩ (Nat.le_of_ble_eq_true rfl) dX7_without_34 ?_
        exact v_iretM hC hT (by rw [mfWithout, if_neg (fun q => h20 q.2.2.1)]) dX7_without_37
      · refine v_iload_4 hC dX7_without_23 ?_
        refine v_cs1r hC lX7_98 (k_X7_isMonth _) ⟨Nat.le_of_ble_eq_true rfl, Nat.le_of_ble_eq_true rfl, rfl, rfl⟩ (Nat.le_of_ble_eq_true rfl) dX7_without_25 ?_
        refine v_ifneb (tgt := 38) hC dX7_without_28 (by decide) (fun h28 => ?_) (fun h28 => ?_)
        · obtain ⟨w, hw, rfl⟩ := isMW_nat hwm h5
          obtain ⟨m, hm, rfl⟩ := isR_nat (by decide) h12
          obtain ⟨s, hs, rfl⟩ := isMW_nat hwm h20
          obtain ⟨f, hf, rfl⟩ := isR_nat (by decide) h28
          refine v_aload_0 hC dX7_without_38 ?_
          refine v_iload_1 hC dX7_without_39 ?_
          refine v_iload_2 hC dX7_without_40 ?_
          refine v_iload_3 hC dX7_without_41 ?_
          refine v_iload_4 hC dX7_without_42 ?_
          refine v_cv4r hC lX7_114 ⟨by decide, 7, _, rfl, rfl, fun _ _ _ => ⟨_, rfl⟩⟩ (k_X7_lowering hwm (by omega) (by omega) (by omega) (by omega)) ⟨Nat.le_of_ble_eq_true rfl, Nat.le_of_ble_eq_true rfl, rfl, rfl⟩ (Nat.le_of_ble_eq_true rfl) dX7_without_44 ?_
          exact v_iretM hC hT (by rw [mfWithout, if_pos ⟨h5, h12, h20, h28⟩, tnI (j := w) (by omega), tnI (j := m) (by omega), tnI (j := s) (by omega), tnI (j := f) (by omega)]) dX7_without_47
        · refine v_aload_0 hC dX7_without_31 ?_
          refine v_ldc hC kX7_62 dX7_without_32 ?_
          refine v_cv1r hC lX7_63 ⟨by decide, 7, _, rfl, rfl, fun _ _ _ => ⟨_, rfl⟩⟩ (k_X7_found _) ⟨Nat.le_of_ble_eq_true rfl, Nat.le_of_ble_eq_true rfl, rfl, rfl⟩ (Nat.le_of_ble_eq_true rfl) dX7_without_34 ?_
          exact v_iretM hC hT (by rw [mfWithout, if_neg (fun q => h28 q.2.2.2)]) dX7_without_37
theorem k_X7_dry {l : Launch} {E : ET} {σ μ : St} (hwm : WM μ)  : Ct l E MX7_dry [.ref (adr E 54)] (σ) (μ) (some (.int (mfDry μ).1)) (σ) ((mfDry μ).2) := by
  have h10 := hwm.n10
  have l10 := hwm.l10
  refine Ct.of (L := [some (.ref (adr E 54)), none, none]) (by decide) rfl (Nat.le_of_ble_eq_true rfl) rfl (fun X hC hT => ?_)
  refine v_iconst hC dX7_dry_0 ic_0 ?_
  refine v_istore_1 hC (by decide) rfl dX7_dry_1 ?_
  refine v_bipush hC dX7_dry_2 bp_50 ?_
  refine v_istore_2 hC (by decide) rfl dX7_dry_4 ?_
  refine up_loop (fun d : Nat => V X E 5 [some (.ref (adr E 54)), some (.int (it fmDry 50 d (nI 0, μ)).1), some (.int (nI (50 + d)))] [] (σ) ((it fmDry 50 d (nI 0, μ)).2)) (Nat.zero_le (240)) ?_ (fun d _ hd ih => ?_)
  · refine v_iload_2 hC dX7_dry_5 ?_
    refine v_sipush hC dX7_dry_6 sp_290 ?_
    refine v_icge (tgt := 42) hC dX7_dry_9 (by decide) (fun h9 => ?_) (fun h9 => absurd (by decide) h9)
    refine v_sipush hC dX7_dry_42 sp_542 ?_
    refine v_istore_2 hC (by decide) rfl dX7_dry_45 ?_
    rw [show it fmDry 50 240 (nI 0, μ) = mDry1 μ from by rw [mDry1]]
    have hq0 : mfDry μ = it fmDry 542 24 (mDry1 μ) := by rw [mfDry]
    generalize mDry1 μ = q0 at hq0 ⊢
    refine up_loop (fun d : Nat => V X E 46 [some (.ref (adr E 54)), some (.int (it fmDry 542 d q0).1), some (.int (nI (542 + d)))] [] (σ) ((it fmDry 542 d q0).2)) (Nat.zero_le (24)) ?_ (fun d _ hd ih => ?_)
    · refine v_iload_2 hC dX7_dry_46 ?_
      refine v_sipush hC dX7_dry_47 sp_566 ?_
      refine v_icge (tgt := 83) hC dX7_dry_50 (by decide) (fun h50 => ?_) (fun h50 => absurd (by decide) h50)
      refine v_iload_1 hC dX7_dry_83 ?_
      exact v_iretM hC hT (by rw [hq0]) dX7_dry_84
    · refine v_iload_2 hC dX7_dry_46 ?_
      refine v_sipush hC dX7_dry_47 sp_566 ?_
      refine v_icge (tgt := 83) hC dX7_dry_50 (by decide) (fun h50 => absurd h50 (nI_ge (by omega) (by omega))) (fun h50 => ?_)
      refine v_iload_1 hC dX7_dry_53 ?_
      refine v_aload_0 hC dX7_dry_54 ?_
      refine v_get hC fX7_7 (by decide) rfl rfl dX7_dry_55 ?_
      refine v_iload_2 hC dX7_dry_58 ?_
      refine w_iald (k := 1) hC N_1 (by first | omega | (simp only [mcl, mRd]; omega)) dX7_dry_59 ?_
      refine v_ifeq (tgt := 67) hC dX7_dry_60 (by decide) (fun h60 => ?_) (fun h60 => ?_)
      · refine v_iconst hC dX7_dry_67 ic_0 ?_
        refine v_top (y := if (it fmDry 542 d q0).2 1 (542 + d) = 0 then nI 0 else nI 1) (if_pos h60).symm ?_
        refine v_iadd hC dX7_dry_68 ?_
        refine v_istore_1 hC (by decide) rfl dX7_dry_69 ?_
        refine v_aload_0 hC dX7_dry_70 ?_
        refine v_get hC fX7_7 (by decide) rfl rfl dX7_dry_71 ?_
        refine v_iload_2 hC dX7_dry_74 ?_
        refine v_iconst hC dX7_dry_75 ic_0 ?_
        refine w_iast (k := 1) hC N_1 (by first | omega | (simp only [mcl, mRd]; omega)) dX7_dry_76 ?_
        refine v_iinc1_2 hC (by decide) rfl dX7_dry_77 ?_
        refine v_goto (tgt := 46) hC dX7_dry_80 (by decide) ?_
        exact ih
      · refine v_iconst hC dX7_dry_63 ic_1 ?_
        refine v_goto (tgt := 68) hC dX7_dry_64 (by decide) ?_
        refine v_top (y := if (it fmDry 542 d q0).2 1 (542 + d) = 0 then nI 0 else nI 1) (if_neg h60).symm ?_
        refine v_iadd hC dX7_dry_68 ?_
        refine v_istore_1 hC (by decide) rfl dX7_dry_69 ?_
        refine v_aload_0 hC dX7_dry_70 ?_
        refine v_get hC fX7_7 (by decide) rfl rfl dX7_dry_71 ?_
        refine v_iload_2 hC dX7_dry_74 ?_
        refine v_iconst hC dX7_dry_75 ic_0 ?_
        refine w_iast (k := 1) hC N_1 (by first | omega | (simp only [mcl, mRd]; omega)) dX7_dry_76 ?_
        refine v_iinc1_2 hC (by decide) rfl dX7_dry_77 ?_
        refine v_goto (tgt := 46) hC dX7_dry_80 (by decide) ?_
        exact ih
  · refine v_iload_2 hC dX7_dry_5 ?_
    refine v_sipush hC dX7_dry_6 sp_290 ?_
    refine v_icge (tgt := 42) hC dX7_dry_9 (by decide) (fun h9 => absurd h9 (nI_ge (by omega) (by omega))) (fun h9 => ?_)
    refine v_iload_1 hC dX7_dry_12 ?_
    refine v_aload_0 hC dX7_dry_13 ?_
    refine v_get hC fX7_7 (by decide) rfl rfl dX7_dry_14 ?_
    refine v_iload_2 hC dX7_dry_17 ?_
    refine w_iald (k := 1) hC N_1 (by first | omega | (simp only [mcl, mRd]; omega)) dX7_dry_18 ?_
    refine v_ifeq (tgt := 26) hC dX7_dry_19 (by decide) (fun h19 => ?_) (fun h19 => ?_)
    · refine v_iconst hC dX7_dry_26 ic_0 ?_
      refine v_top (y := if (it fmDry 50 d (nI 0, μ)).2 1 (50 + d) = 0 then nI 0 else nI 1) (if_pos h19).symm ?_
      refine v_iadd hC dX7_dry_27 ?_
      refine v_istore_1 hC (by decide) rfl dX7_dry_28 ?_
      refine v_aload_0 hC dX7_dry_29 ?_
      refine v_get hC fX7_7 (by decide) rfl rfl dX7_dry_30 ?_
      refine v_iload_2 hC dX7_dry_33 ?_
      refine v_iconst hC dX7_dry_34 ic_0 ?_
      refine w_iast (k := 1) hC N_1 (by first | omega | (simp only [mcl, mRd]; omega)) dX7_dry_35 ?_
      refine v_iinc1_2 hC (by decide) rfl dX7_dry_36 ?_
      refine v_goto (tgt := 5) hC dX7_dry_39 (by decide) ?_
      exact ih
    · refine v_iconst hC dX7_dry_22 ic_1 ?_
      refine v_goto (tgt := 27) hC dX7_dry_23 (by decide) ?_
      refine v_top (y := if (it fmDry 50 d (nI 0, μ)).2 1 (50 + d) = 0 then nI 0 else nI 1) (if_neg h19).symm ?_
      refine v_iadd hC dX7_dry_27 ?_
      refine v_istore_1 hC (by decide) rfl dX7_dry_28 ?_
      refine v_aload_0 hC dX7_dry_29 ?_
      refine v_get hC fX7_7 (by decide) rfl rfl dX7_dry_30 ?_
      refine v_iload_2 hC dX7_dry_33 ?_
      refine v_iconst hC dX7_dry_34 ic_0 ?_
      refine w_iast (k := 1) hC N_1 (by first | omega | (simp only [mcl, mRd]; omega)) dX7_dry_35 ?_
      refine v_iinc1_2 hC (by decide) rfl dX7_dry_36 ?_
      refine v_goto (tgt := 5) hC dX7_dry_39 (by decide) ?_
      exact ih
theorem k_X7_most {l : Launch} {E : ET} {σ μ : St} (hwm : WM μ) (w m : Int32) : Ct l E MX7_most [.ref (adr E 54), .int w, .int m] (σ) (μ) (some (.int (mfMost μ w m).1)) (σ) ((mfMost μ w m).2) := by
  have h10 := hwm.n10
  have l10 := hwm.l10
  refine Ct.of (L := [some (.ref (adr E 54)), some (.int w), some (.int m), none, none, none, none]) (by decide) rfl (Nat.le_of_ble_eq_true rfl) rfl (fun X hC hT => ?_)
  refine v_aload_0 hC dX7_most_0 ?_
  refine v_iload_1 hC dX7_most_1 ?_
  refine v_cv1r hC lX7_68 ⟨by decide, 7, _, rfl, rfl, fun _ _ _ => ⟨_, rfl⟩⟩ (k_X7_isWell _) ⟨Nat.le_of_ble_eq_true rfl, Nat.le_of_ble_eq_true rfl, rfl, rfl⟩ (Nat.le_of_ble_eq_true rfl) dX7_most_2 ?_
  refine v_ifeqb (tgt := 15) hC dX7_most_5 (by decide) (fun h5 => ?_) (fun h5 => ?_)
  · refine v_aload_0 hC dX7_most_15 ?_
    refine v_ldc hC kX7_62 dX7_most_16 ?_
    refine v_cv1r hC lX7_63 ⟨by decide, 7, _, rfl, rfl, fun _ _ _ => ⟨_, rfl⟩⟩ (k_X7_found _) ⟨Nat.le_of_ble_eq_true rfl, Nat.le_of_ble_eq_true rfl, rfl, rfl⟩ (Nat.le_of_ble_eq_true rfl) dX7_most_18 ?_
    exact v_iretM hC hT (by rw [mfMost, if_neg (fun q => h5 q.1)]) dX7_most_21
  · refine v_iload_2 hC dX7_most_8 ?_
    refine v_cs1r hC lX7_98 (k_X7_isMonth _) ⟨Nat.le_of_ble_eq_true rfl, Nat.le_of_ble_eq_true rfl, rfl, rfl⟩ (Nat.le_of_ble_eq_true rfl) dX7_most_9 ?_
    refine v_ifneb (tgt := 22) hC dX7_most_12 (by decide) (fun h12 => ?_) (fun h12 => ?_)
    · obtain ⟨w, hw, rfl⟩ := isMW_nat hwm h5
      obtain ⟨m, hm, rfl⟩ := isR_nat (by decide) h12
      refine v_iconst hC dX7_most_22 ic_0 ?_
      refine v_istore_3 hC (by decide) rfl dX7_most_23 ?_
      refine v_iconst (v := -1) hC dX7_most_24 (by decide +kernel) ?_
      refine v_istore_4 hC (by decide) rfl dX7_most_25 ?_
      refine v_iconst hC dX7_most_27 ic_0 ?_
      refine v_istore_5 hC (by decide) rfl dX7_most_28 ?_
      refine up_loop (fun d : Nat => V X E 30 [some (.ref (adr E 54)), some (.int (nI w)), some (.int (nI m)), some (.int (it0 (fmMost μ w m) d (nI 0, -1)).1), some (.int (it0 (fmMost μ w m) d (nI 0, -1)).2), some (.int (nI d)), none] [] (σ) (μ)) (Nat.zero_le (mN μ)) ?_ (fun d _ hd ih => ?_)
      · refine v_iload_5 hC dX7_most_30 ?_
        refine v_aload_0 hC dX7_most_32 ?_
        refine v_cv0r hC lX7_44 ⟨by decide, 7, _, rfl, rfl, fun _ _ _ => ⟨_, rfl⟩⟩ (k_X7_wells) ⟨Nat.le_of_ble_eq_true rfl, Nat.le_of_ble_eq_true rfl, rfl, rfl⟩ (Nat.le_of_ble_eq_true rfl) dX7_most_33 ?_
        refine v_icge (tgt := 72) hC dX7_most_36 (by decide) (fun h36 => ?_) (fun h36 => absurd (by rw [hwm.n]; exact Int32.le_refl _) h36)
        refine v_iload_4 hC dX7_most_72 ?_
        refine v_ifge (tgt := 86) hC dX7_most_74 (by decide) (fun h74 => ?_) (fun h74 => ?_)
        · refine v_iload_4 hC dX7_most_86 ?_
          exact v_iretM hC hT (by rw [mfMost, if_pos ⟨h5, h12⟩, tnI (j := w) (by omega), tnI (j := m) (by omega), mMost, if_pos h74]) dX7_most_88
        · refine v_aload_0 hC dX7_most_77 ?_
          refine v_ldc hC kX7_121 dX7_most_78 ?_
          refine v_cv1r hC lX7_63 ⟨by decide, 7, _, rfl, rfl, fun _ _ _ => ⟨_, rfl⟩⟩ (k_X7_found _) ⟨Nat.le_of_ble_eq_true rfl, Nat.le_of_ble_eq_true rfl, rfl, rfl⟩ (Nat.le_of_ble_eq_true rfl) dX7_most_80 ?_
          refine v_goto (tgt := 88) hC dX7_most_83 (by decide) ?_
          exact v_iretM hC hT (by rw [mfMost, if_pos ⟨h5, h12⟩, tnI (j := w) (by omega), tnI (j := m) (by omega), mMost, if_neg h74]) dX7_most_88
      · refine v_iload_5 hC dX7_most_30 ?_
        refine v_aload_0 hC dX7_most_32 ?_
        refine v_cv0r hC lX7_44 ⟨by decide, 7, _, rfl, rfl, fun _ _ _ => ⟨_, rfl⟩⟩ (k_X7_wells) ⟨Nat.le_of_ble_eq_true rfl, Nat.le_of_ble_eq_true rfl, rfl, rfl⟩ (Nat.le_of_ble_eq_true rfl) dX7_most_33 ?_
        refine v_icge (tgt := 72) hC dX7_most_36 (by decide) (fun h36 => absurd h36 (by rw [hwm.n]; exact nI_ge hd (by omega))) (fun h36 => ?_)
        refine v_aload_0 hC dX7_most_39 ?_
        refine v_iload_1 hC dX7_most_40 ?_
        refine v_iload_2 hC dX7_most_41 ?_
        refine v_iload_5 hC dX7_most_42 ?_
        refine v_iconst hC dX7_most_44 ic_0 ?_
        refine v_cv4r hC lX7_114 ⟨by decide, 7, _, rfl, rfl, fun _ _ _ => ⟨_, rfl⟩⟩ (k_X7_lowering hwm (by omega) (by omega) (by omega) (by omega)) ⟨Nat.le_of_ble_eq_true rfl, Nat.le_of_ble_eq_true rfl, rfl, rfl⟩ (Nat.le_of_ble_eq_true rfl) dX7_most_45 ?_
        refine v_istore_6 hC (by decide) rfl dX7_most_48 ?_
        refine v_iload_6 hC dX7_most_50 ?_
        refine v_iload_3 hC dX7_most_52 ?_
        refine v_icgt (tgt := 59) hC dX7_most_53 (by decide) (fun h53 => ?_) (fun h53 => ?_)
        · refine v_iload_6 hC dX7_most_59 ?_
          refine v_istore_3 hC (by decide) rfl dX7_most_61 ?_
          refine v_iload_5 hC dX7_most_62 ?_
          refine v_istore_4 hC (by decide) rfl dX7_most_64 ?_
          refine v_iinc1_5 hC (by decide) rfl dX7_most_66 ?_
          refine v_goto (tgt := 30) hC dX7_most_69 (by decide) ?_
          rw [show it0 (fmMost μ w m) (d + 1) (nI 0, -1) = _ from if_pos h53] at ih
          exact v_forget_6 ih
        · refine v_goto (tgt := 66) hC dX7_most_56 (by decide) ?_
          refine v_iinc1_5 hC (by decide) rfl dX7_most_66 ?_
          refine v_goto (tgt := 30) hC dX7_most_69 (by decide) ?_
          rw [show it0 (fmMost μ w m) (d + 1) (nI 0, -1) = _ from if_neg h53] at ih
          exact v_forget_6 ih
    · refine v_aload_0 hC dX7_most_15 ?_
      refine v_ldc hC kX7_62 dX7_most_16 ?_
      refine v_cv1r hC lX7_63 ⟨by decide, 7, _, rfl, rfl, fun _ _ _ => ⟨_, rfl⟩⟩ (k_X7_found _) ⟨Nat.le_of_ble_eq_true rfl, Nat.le_of_ble_eq_true rfl, rfl, rfl⟩ (Nat.le_of_ble_eq_true rfl) dX7_most_18 ?_
      exact v_iretM hC hT (by rw [mfMost, if_neg (fun q => h12 q.2)]) dX7_most_21
theorem k_X7_when {l : Launch} {E : ET} {σ μ : St} (hwm : WM μ) (w m : Int32) : Ct l E MX7_when [.ref (adr E 54), .int w, .int m] (σ) (μ) (some (.int (mfWhen μ w m).1)) (σ) ((mfWhen μ w m).2) := by
  have h10 := hwm.n10
  have l10 := hwm.l10
  refine Ct.of (L := [some (.ref (adr E 54)), some (.int w), some (.int m), none]) (by decide) rfl (Nat.le_of_ble_eq_true rfl) rfl (fun X hC hT => ?_)
  refine v_aload_0 hC dX7_when_0 ?_
  refine v_iload_1 hC dX7_when_1 ?_
  refine v_cv1r hC lX7_68 ⟨by decide, 7, _, rfl, rfl, fun _ _ _ => ⟨_, rfl⟩⟩ (k_X7_isWell _) ⟨Nat.le_of_ble_eq_true rfl, Nat.le_of_ble_eq_true rfl, rfl, rfl⟩ (Nat.le_of_ble_eq_true rfl) dX7_when_2 ?_
  refine v_ifeqb (tgt := 15) hC dX7_when_5 (by decide) (fun h5 => ?_) (fun h5 => ?_)
  · refine v_aload_0 hC dX7_when_15 ?_
    refine v_ldc hC kX7_62 dX7_when_16 ?_
    refine v_cv1r hC lX7_63 ⟨by decide, 7, _, rfl, rfl, fun _ _ _ => ⟨_, rfl⟩⟩ (k_X7_found _) ⟨Nat.le_of_ble_eq_true rfl, Nat.le_of_ble_eq_true rfl, rfl, rfl⟩ (Nat.le_of_ble_eq_true rfl) dX7_when_18 ?_
    exact v_iretM hC hT (by rw [mfWhen, if_neg (fun q => h5 q.1)]) dX7_when_21
  · refine v_iload_2 hC dX7_when_8 ?_
    refine v_cs1r hC lX7_98 (k_X7_isMonth _) ⟨Nat.le_of_ble_eq_true rfl, Nat.le_of_ble_eq_true rfl, rfl, rfl⟩ (Nat.le_of_ble_eq_true rfl) dX7_when_9 ?_
    refine v_ifneb (tgt := 22) hC dX7_when_12 (by decide) (fun h12 => ?_) (fun h12 => ?_)
    · obtain ⟨w, hw, rfl⟩ := isMW_nat hwm h5
      obtain ⟨m, hm, rfl⟩ := isR_nat (by decide) h12
      refine v_iload_2 hC dX7_when_22 ?_
      refine v_istore_3 hC (by decide) rfl dX7_when_23 ?_
      refine up_loop (fun d : Nat => (scan (fun i => decide (mAbv μ w i < 0)) m (24 - m) = scan (fun i => decide (mAbv μ w i < 0)) (m + d) (24 - m - d)) → V X E 24 [some (.ref (adr E 54)), some (.int (nI w)), some (.int (nI m)), some (.int (nI (m + d)))] [] (σ) (μ)) (Nat.zero_le (24 - m)) (fun hx => ?_) (fun d _ hd ih hx => ?_) rfl
      · refine v_iload_3 hC dX7_when_24 ?_
        refine v_bipush hC dX7_when_25 bp_24 ?_
        refine v_icge (tgt := 47) hC dX7_when_27 (by decide) (fun h27 => ?_) (fun h27 => absurd (nI_le (by omega) (by omega)) h27)
        refine v_aload_0 hC dX7_when_47 ?_
        refine v_ldc hC kX7_121 dX7_when_48 ?_
        refine v_cv1r hC lX7_63 ⟨by decide, 7, _, rfl, rfl, fun _ _ _ => ⟨_, rfl⟩⟩ (k_X7_found _) ⟨Nat.le_of_ble_eq_true rfl, Nat.le_of_ble_eq_true rfl, rfl, rfl⟩ (Nat.le_of_ble_eq_true rfl) dX7_when_50 ?_
        exact v_iretM hC hT (by rw [mfWhen, if_pos ⟨h5, h12⟩, tnI (j := w) (by omega), tnI (j := m) (by omega), mWhen, hx, scan_0 (by omega)]; rfl) dX7_when_53
      · refine v_iload_3 hC dX7_when_24 ?_
        refine v_bipush hC dX7_when_25 bp_24 ?_
        refine v_icge (tgt := 47) hC dX7_when_27 (by decide) (fun h27 => absurd h27 (nI_ge (by omega) (by omega))) (fun h27 => ?_)
        refine v_aload_0 hC dX7_when_30 ?_
        refine v_iload_1 hC dX7_when_31 ?_
        refine v_iload_3 hC dX7_when_32 ?_
        refine v_cv2r hC lX7_122 ⟨by decide, 7, _, rfl, rfl, fun _ _ _ => ⟨_, rfl⟩⟩ (k_X7_above hwm (by omega) (by omega)) ⟨Nat.le_of_ble_eq_true rfl, Nat.le_of_ble_eq_true rfl, rfl, rfl⟩ (Nat.le_of_ble_eq_true rfl) dX7_when_33 ?_
        refine v_ifge (tgt := 41) hC dX7_when_36 (by decide) (fun h36 => ?_) (fun h36 => ?_)
        · refine v_iinc1_3 hC (by decide) rfl dX7_when_41 ?_
          refine v_goto (tgt := 24) hC dX7_when_44 (by decide) ?_
          exact ih (hx.trans (scan_f (by simpa using h36) (by omega)))
        · refine v_iload_3 hC dX7_when_39 ?_
          exact v_iretM hC hT (by rw [mfWhen, if_pos ⟨h5, h12⟩, tnI (j := w) (by omega), tnI (j := m) (by omega), mWhen, hx, scan_t (by simpa using h36) (by omega)]; rfl) dX7_when_40
    · refine v_aload_0 hC dX7_when_15 ?_
      refine v_ldc hC kX7_62 dX7_when_16 ?_
      refine v_cv1r hC lX7_63 ⟨by decide, 7, _, rfl, rfl, fun _ _ _ => ⟨_, rfl⟩⟩ (k_X7_found _) ⟨Nat.le_of_ble_eq_true rfl, Nat.le_of_ble_eq_true rfl, rfl, rfl⟩ (Nat.le_of_ble_eq_true rfl) dX7_when_18 ?_
      exact v_iretM hC hT (by rw [mfWhen, if_neg (fun q => h12 q.2)]) dX7_when_21
theorem k_X7_near {l : Launch} {E : ET} {σ μ : St} (hwm : WM μ) (w m : Int32) : Ct l E MX7_near [.ref (adr E 54), .int w, .int m] (σ) (μ) (some (.int (mfNear μ w m).1)) (σ) ((mfNear μ w m).2) := by
  have h10 := hwm.n10
  have l10 := hwm.l10
  refine Ct.of (L := [some (.ref (adr E 54)), some (.int w), some (.int m), none, none]) (by decide) rfl (Nat.le_of_ble_eq_true rfl) rfl (fun X hC hT => ?_)
  refine v_aload_0 hC dX7_near_0 ?_
  refine v_iload_1 hC dX7_near_1 ?_
  refine v_cv1r hC lX7_68 ⟨by decide, 7, _, rfl, rfl, fun _ _ _ => ⟨_, rfl⟩⟩ (k_X7_isWell _) ⟨Nat.le_of_ble_eq_true rfl, Nat.le_of_ble_eq_true rfl, rfl, rfl⟩ (Nat.le_of_ble_eq_true rfl) dX7_near_2 ?_
  refine v_ifeqb (tgt := 15) hC dX7_near_5 (by decide) (fun h5 => ?_) (fun h5 => ?_)
  · refine v_aload_0 hC dX7_near_15 ?_
    refine v_ldc hC kX7_62 dX7_near_16 ?_
    refine v_cv1r hC lX7_63 ⟨by decide, 7, _, rfl, rfl, fun _ _ _ => ⟨_, rfl⟩⟩ (k_X7_found _) ⟨Nat.le_of_ble_eq_true rfl, Nat.le_of_ble_eq_true rfl, rfl, rfl⟩ (Nat.le_of_ble_eq_true rfl) dX7_near_18 ?_
    exact v_iretM hC hT (by rw [mfNear, if_neg (fun q => h5 q.1)]) dX7_near_21
  · refine v_iload_2 hC dX7_near_8 ?_
    refine v_cs1r hC lX7_98 (k_X7_isMonth _) ⟨Nat.le_of_ble_eq_true rfl, Nat.le_of_ble_eq_true rfl, rfl, rfl⟩ (Nat.le_of_ble_eq_true rfl) dX7_near_9 ?_
    refine v_ifneb (tgt := 22) hC dX7_near_12 (by decide) (fun h12 => ?_) (fun h12 => ?_)
    · obtain ⟨w, hw, rfl⟩ := isMW_nat hwm h5
      obtain ⟨m, hm, rfl⟩ := isR_nat (by decide) h12
      refine v_aload_0 hC dX7_near_22 ?_
      refine v_iload_1 hC dX7_near_23 ?_
      refine v_iload_2 hC dX7_near_24 ?_
      refine v_cv2r hC lX7_122 ⟨by decide, 7, _, rfl, rfl, fun _ _ _ => ⟨_, rfl⟩⟩ (k_X7_above hwm (by omega) (by omega)) ⟨Nat.le_of_ble_eq_true rfl, Nat.le_of_ble_eq_true rfl, rfl, rfl⟩ (Nat.le_of_ble_eq_true rfl) dX7_near_25 ?_
      refine v_istore_3 hC (by decide) rfl dX7_near_28 ?_
      refine v_iload_2 hC dX7_near_29 ?_
      refine v_istore_4 hC (by decide) rfl dX7_near_30 ?_
      refine up_loop (fun d : Nat => V X E 32 [some (.ref (adr E 54)), some (.int (nI w)), some (.int (nI m)), some (.int (it (fmNear μ w) m d (mAbv μ w m))), some (.int (nI (m + d)))] [] (σ) (μ)) (Nat.zero_le (24 - m)) ?_ (fun d _ hd ih => ?_)
      · refine v_iload_4 hC dX7_near_32 ?_
        refine v_bipush hC dX7_near_34 bp_24 ?_
        refine v_icge (tgt := 68) hC dX7_near_36 (by decide) (fun h36 => ?_) (fun h36 => absurd (nI_le (by omega) (by omega)) h36)
        refine v_iload_3 hC dX7_near_68 ?_
        exact v_iretM hC hT (by rw [mfNear, if_pos ⟨h5, h12⟩, tnI (j := w) (by omega), tnI (j := m) (by omega)]) dX7_near_69
      · refine v_iload_4 hC dX7_near_32 ?_
        refine v_bipush hC dX7_near_34 bp_24 ?_
        refine v_icge (tgt := 68) hC dX7_near_36 (by decide) (fun h36 => absurd h36 (nI_ge (by omega) (by omega))) (fun h36 => ?_)
        refine v_aload_0 hC dX7_near_39 ?_
        refine v_iload_1 hC dX7_near_40 ?_
        refine v_iload_4 hC dX7_near_41 ?_
        refine v_cv2r hC lX7_122 ⟨by decide, 7, _, rfl, rfl, fun _ _ _ => ⟨_, rfl⟩⟩ (k_X7_above hwm (by omega) (by omega)) ⟨Nat.le_of_ble_eq_true rfl, Nat.le_of_ble_eq_true rfl, rfl, rfl⟩ (Nat.le_of_ble_eq_true rfl) dX7_near_43 ?_
        refine v_iload_3 hC dX7_near_46 ?_
        refine v_icge (tgt := 60) hC dX7_near_47 (by decide) (fun h47 => ?_) (fun h47 => ?_)
        · refine v_iload_3 hC dX7_near_60 ?_
          refine v_istore_3 hC (by decide) rfl dX7_near_61 ?_
          refine v_iinc1_4 hC (by decide) rfl dX7_near_62 ?_
          refine v_goto (tgt := 32) hC dX7_near_65 (by decide) ?_
          exact v_leq_3 (if_pos h47).symm ih
        · refine v_aload_0 hC dX7_near_50 ?_
          refine v_iload_1 hC dX7_near_51 ?_
          refine v_iload_4 hC dX7_near_52 ?_
          refine v_cv2r hC lX7_122 ⟨by decide, 7, _, rfl, rfl, fun _ _ _ => ⟨_, rfl⟩⟩ (k_X7_above hwm (by omega) (by omega)) ⟨Nat.le_of_ble_eq_true rfl, Nat.le_of_ble_eq_true rfl, rfl, rfl⟩ (Nat.le_of_ble_eq_true rfl) dX7_near_54 ?_
          refine v_goto (tgt := 61) hC dX7_near_57 (by decide) ?_
          refine v_istore_3 hC (by decide) rfl dX7_near_61 ?_
          refine v_iinc1_4 hC (by decide) rfl dX7_near_62 ?_
          refine v_goto (tgt := 32) hC dX7_near_65 (by decide) ?_
          exact v_leq_3 (if_neg h47).symm ih
    · refine v_aload_0 hC dX7_near_15 ?_
      refine v_ldc hC kX7_62 dX7_near_16 ?_
      refine v_cv1r hC lX7_63 ⟨by decide, 7, _, rfl, rfl, fun _ _ _ => ⟨_, rfl⟩⟩ (k_X7_found _) ⟨Nat.le_of_ble_eq_true rfl, Nat.le_of_ble_eq_true rfl, rfl, rfl⟩ (Nat.le_of_ble_eq_true rfl) dX7_near_18 ?_
      exact v_iretM hC hT (by rw [mfNear, if_neg (fun q => h12 q.2)]) dX7_near_21
theorem k_X7_low {l : Launch} {E : ET} {σ μ : St} (hwm : WM μ) (m : Int32) : Ct l E MX7_low [.ref (adr E 54), .int m] (σ) (μ) (some (.int (mfLow μ m).1)) (σ) ((mfLow μ m).2) := by
  have h10 := hwm.n10
  have l10 := hwm.l10
  refine Ct.of (L := [some (.ref (adr E 54)), some (.int m), none, none]) (by decide) rfl (Nat.le_of_ble_eq_true rfl) rfl (fun X hC hT => ?_)
  refine v_iload_1 hC dX7_low_0 ?_
  refine v_cs1r hC lX7_98 (k_X7_isMonth _) ⟨Nat.le_of_ble_eq_true rfl, Nat.le_of_ble_eq_true rfl, rfl, rfl⟩ (Nat.le_of_ble_eq_true rfl) dX7_low_1 ?_
  refine v_ifneb (tgt := 14) hC dX7_low_4 (by decide) (fun h4 => ?_) (fun h4 => ?_)
  · obtain ⟨m, hm, rfl⟩ := isR_nat (by decide) h4
    refine v_iconst hC dX7_low_14 ic_0 ?_
    refine v_istore_2 hC (by decide) rfl dX7_low_15 ?_
    refine v_iconst hC dX7_low_16 ic_0 ?_
    refine v_istore_3 hC (by decide) rfl dX7_low_17 ?_
    refine up_loop (fun d : Nat => V X E 18 [some (.ref (adr E 54)), some (.int (nI m)), some (.int (it0 (fmLows μ m) d (nI 0))), some (.int (nI d))] [] (σ) (μ)) (Nat.zero_le (mN μ)) ?_ (fun d _ hd ih => ?_)
    · refine v_iload_3 hC dX7_low_18 ?_
      refine v_aload_0 hC dX7_low_19 ?_
      refine v_cv0r hC lX7_44 ⟨by decide, 7, _, rfl, rfl, fun _ _ _ => ⟨_, rfl⟩⟩ (k_X7_wells) ⟨Nat.le_of_ble_eq_true rfl, Nat.le_of_ble_eq_true rfl, rfl, rfl⟩ (Nat.le_of_ble_eq_true rfl) dX7_low_20 ?_
      refine v_icge (tgt := 49) hC dX7_low_23 (by decide) (fun h23 => ?_) (fun h23 => absurd (by rw [hwm.n]; exact Int32.le_refl _) h23)
      refine v_iload_2 hC dX7_low_49 ?_
      exact v_iretM hC hT (by rw [mfLow, if_pos h4, tnI (j := m) (by omega)]) dX7_low_50
    · refine v_iload_3 hC dX7_low_18 ?_
      refine v_aload_0 hC dX7_low_19 ?_
      refine v_cv0r hC lX7_44 ⟨by decide, 7, _, rfl, rfl, fun _ _ _ => ⟨_, rfl⟩⟩ (k_X7_wells) ⟨Nat.le_of_ble_eq_true rfl, Nat.le_of_ble_eq_true rfl, rfl, rfl⟩ (Nat.le_of_ble_eq_true rfl) dX7_low_20 ?_
      refine v_icge (tgt := 49) hC dX7_low_23 (by decide) (fun h23 => absurd h23 (by rw [hwm.n]; exact nI_ge hd (by omega))) (fun h23 => ?_)
      refine v_iload_2 hC dX7_low_26 ?_
      refine v_aload_0 hC dX7_low_27 ?_
      refine v_iload_3 hC dX7_low_28 ?_
      refine v_iload_1 hC dX7_low_29 ?_
      refine v_cv2r hC lX7_122 ⟨by decide, 7, _, rfl, rfl, fun _ _ _ => ⟨_, rfl⟩⟩ (k_X7_above hwm (by omega) (by omega)) ⟨Nat.le_of_ble_eq_true rfl, Nat.le_of_ble_eq_true rfl, rfl, rfl⟩ (Nat.le_of_ble_eq_true rfl) dX7_low_30 ?_
      refine v_ifge (tgt := 40) hC dX7_low_33 (by decide) (fun h33 => ?_) (fun h33 => ?_)
      · refine v_iconst hC dX7_low_40 ic_0 ?_
        refine v_top (y := if 0 ≤ mAbv μ d m then nI 0 else nI 1) (if_pos h33).symm ?_
        refine v_iadd hC dX7_low_41 ?_
        refine v_istore_2 hC (by decide) rfl dX7_low_42 ?_
        refine v_iinc1_3 hC (by decide) rfl dX7_low_43 ?_
        refine v_goto (tgt := 18) hC dX7_low_46 (by decide) ?_
        exact ih
      · refine v_iconst hC dX7_low_36 ic_1 ?_
        refine v_goto (tgt := 41) hC dX7_low_37 (by decide) ?_
        refine v_top (y := if 0 ≤ mAbv μ d m then nI 0 else nI 1) (if_neg h33).symm ?_
        refine v_iadd hC dX7_low_41 ?_
        refine v_istore_2 hC (by decide) rfl dX7_low_42 ?_
        refine v_iinc1_3 hC (by decide) rfl dX7_low_43 ?_
        refine v_goto (tgt := 18) hC dX7_low_46 (by decide) ?_
        exact ih
  · refine v_aload_0 hC dX7_low_7 ?_
    refine v_ldc hC kX7_62 dX7_low_8 ?_
    refine v_cv1r hC lX7_63 ⟨by decide, 7, _, rfl, rfl, fun _ _ _ => ⟨_, rfl⟩⟩ (k_X7_found _) ⟨Nat.le_of_ble_eq_true rfl, Nat.le_of_ble_eq_true rfl, rfl, rfl⟩ (Nat.le_of_ble_eq_true rfl) dX7_low_10 ?_
    exact v_iretM hC hT (by rw [mfLow, if_neg h4]) dX7_low_13
theorem k_X7_free {l : Launch} {E : ET} {σ μ : St} (hwm : WM μ) (w m : Int32) : Ct l E MX7_free [.ref (adr E 54), .int w, .int m] (σ) (μ) (some (.int (mfFree μ w m).1)) (σ) ((mfFree μ w m).2) := by
  have h10 := hwm.n10
  have l10 := hwm.l10
  refine Ct.of (L := [some (.ref (adr E 54)), some (.int w), some (.int m)]) (by decide) rfl (Nat.le_of_ble_eq_true rfl) rfl (fun X hC hT => ?_)
  refine v_aload_0 hC dX7_free_0 ?_
  refine v_iload_1 hC dX7_free_1 ?_
  refine v_cv1r hC lX7_68 ⟨by decide, 7, _, rfl, rfl, fun _ _ _ => ⟨_, rfl⟩⟩ (k_X7_isWell _) ⟨Nat.le_of_ble_eq_true rfl, Nat.le_of_ble_eq_true rfl, rfl, rfl⟩ (Nat.le_of_ble_eq_true rfl) dX7_free_2 ?_
  refine v_ifeqb (tgt := 24) hC dX7_free_5 (by decide) (fun h5 => ?_) (fun h5 => ?_)
  · refine v_aload_0 hC dX7_free_24 ?_
    refine v_ldc hC kX7_62 dX7_free_25 ?_
    refine v_cv1r hC lX7_63 ⟨by decide, 7, _, rfl, rfl, fun _ _ _ => ⟨_, rfl⟩⟩ (k_X7_found _) ⟨Nat.le_of_ble_eq_true rfl, Nat.le_of_ble_eq_true rfl, rfl, rfl⟩ (Nat.le_of_ble_eq_true rfl) dX7_free_27 ?_
    exact v_iretM hC hT (by rw [mfFree, if_neg (fun q => h5 q.1)]) dX7_free_30
  · refine v_iload_2 hC dX7_free_8 ?_
    refine v_cs1r hC lX7_98 (k_X7_isMonth _) ⟨Nat.le_of_ble_eq_true rfl, Nat.le_of_ble_eq_true rfl, rfl, rfl⟩ (Nat.le_of_ble_eq_true rfl) dX7_free_9 ?_
    refine v_ifeqb (tgt := 24) hC dX7_free_12 (by decide) (fun h12 => ?_) (fun h12 => ?_)
    · refine v_aload_0 hC dX7_free_24 ?_
      refine v_ldc hC kX7_62 dX7_free_25 ?_
      refine v_cv1r hC lX7_63 ⟨by decide, 7, _, rfl, rfl, fun _ _ _ => ⟨_, rfl⟩⟩ (k_X7_found _) ⟨Nat.le_of_ble_eq_true rfl, Nat.le_of_ble_eq_true rfl, rfl, rfl⟩ (Nat.le_of_ble_eq_true rfl) dX7_free_27 ?_
      exact v_iretM hC hT (by rw [mfFree, if_neg (fun q => h12 q.2)]) dX7_free_30
    · obtain ⟨w, hw, rfl⟩ := isMW_nat hwm h5
      obtain ⟨m, hm, rfl⟩ := isR_nat (by decide) h12
      refine v_aload_0 hC dX7_free_15 ?_
      refine v_iload_1 hC dX7_free_16 ?_
      refine v_iload_2 hC dX7_free_17 ?_
      refine v_cv2r hC lX7_129 ⟨by decide, 7, _, rfl, rfl, fun _ _ _ => ⟨_, rfl⟩⟩ (k_X7_freeOf hwm (by omega) (by omega)) ⟨Nat.le_of_ble_eq_true rfl, Nat.le_of_ble_eq_true rfl, rfl, rfl⟩ (Nat.le_of_ble_eq_true rfl) dX7_free_18 ?_
      refine v_goto (tgt := 30) hC dX7_free_21 (by decide) ?_
      exact v_iretM hC hT (by rw [mfFree, if_pos ⟨h5, h12⟩, tnI (j := w) (by omega), tnI (j := m) (by omega)]) dX7_free_30
theorem k_X7_licence {l : Launch} {E : ET} {σ μ : St} (hwm : WM μ) (w y v : Int32) : Ct l E MX7_licence [.ref (adr E 54), .int w, .int y, .int v] (σ) (μ) (some (.int (mfLicence μ w y v).1)) (σ) ((mfLicence μ w y v).2) := by
  have h10 := hwm.n10
  have l10 := hwm.l10
  refine Ct.of (L := [some (.ref (adr E 54)), some (.int w), some (.int y), some (.int v), none]) (by decide) rfl (Nat.le_of_ble_eq_true rfl) rfl (fun X hC hT => ?_)
  refine v_aload_0 hC dX7_licence_0 ?_
  refine v_iload_1 hC dX7_licence_1 ?_
  refine v_cv1r hC lX7_68 ⟨by decide, 7, _, rfl, rfl, fun _ _ _ => ⟨_, rfl⟩⟩ (k_X7_isWell _) ⟨Nat.le_of_ble_eq_true rfl, Nat.le_of_ble_eq_true rfl, rfl, rfl⟩ (Nat.le_of_ble_eq_true rfl) dX7_licence_2 ?_
  refine v_ifeqb (tgt := 30) hC dX7_licence_5 (by decide) (fun h5 => ?_) (fun h5 => ?_)
  · refine v_aload_0 hC dX7_licence_30 ?_
    refine v_ldc hC kX7_62 dX7_licence_31 ?_
    refine v_cv1r hC lX7_63 ⟨by decide, 7, _, rfl, rfl, fun _ _ _ => ⟨_, rfl⟩⟩ (k_X7_found _) ⟨Nat.le_of_ble_eq_true rfl, Nat.le_of_ble_eq_true rfl, rfl, rfl⟩ (Nat.le_of_ble_eq_true rfl) dX7_licence_33 ?_
    exact v_iretM hC hT (by rw [mfLicence, if_neg (fun q => h5 q.1)]) dX7_licence_36
  · refine v_iload_2 hC dX7_licence_8 ?_
    refine v_iconst hC dX7_licence_9 ic_0 ?_
    refine v_sipush hC dX7_licence_10 sp_9999 ?_
    refine v_cs3r hC lX7_48 (k_X7_in _ _ _) ⟨Nat.le_of_ble_eq_true rfl, Nat.le_of_ble_eq_true rfl, rfl, rfl⟩ (Nat.le_of_ble_eq_true rfl) dX7_licence_13 ?_
    refine v_ifeqb (tgt := 30) hC dX7_licence_16 (by decide) (fun h16 => ?_) (fun h16 => ?_)
    · refine v_aload_0 hC dX7_licence_30 ?_
      refine v_ldc hC kX7_62 dX7_licence_31 ?_
      refine v_cv1r hC lX7_63 ⟨by decide, 7, _, rfl, rfl, fun _ _ _ => ⟨_, rfl⟩⟩ (k_X7_found _) ⟨Nat.le_of_ble_eq_true rfl, Nat.le_of_ble_eq_true rfl, rfl, rfl⟩ (Nat.le_of_ble_eq_true rfl) dX7_licence_33 ?_
      exact v_iretM hC hT (by rw [mfLicence, if_neg (fun q => h16 q.2.1)]) dX7_licence_36
    · refine v_iload_3 hC dX7_licence_19 ?_
      refine v_iconst hC dX7_licence_20 ic_0 ?_
      refine v_sipush hC dX7_licence_21 sp_1000 ?_
      refine v_cs3r hC lX7_48 (k_X7_in _ _ _) ⟨Nat.le_of_ble_eq_true rfl, Nat.le_of_ble_eq_true rfl, rfl, rfl⟩ (Nat.le_of_ble_eq_true rfl) dX7_licence_24 ?_
      refine v_ifneb (tgt := 37) hC dX7_licence_27 (by decide) (fun h27 => ?_) (fun h27 => ?_)
      · obtain ⟨w, hw, rfl⟩ := isMW_nat hwm h5
        refine v_aload_0 hC dX7_licence_37 ?_
        refine v_iload_1 hC dX7_licence_38 ?_
        refine v_cv1r hC lX7_71 ⟨by decide, 7, _, rfl, rfl, fun _ _ _ => ⟨_, rfl⟩⟩ (k_X7_kindOf (by omega)) ⟨Nat.le_of_ble_eq_true rfl, Nat.le_of_ble_eq_true rfl, rfl, rfl⟩ (Nat.le_of_ble_eq_true rfl) dX7_licence_39 ?_
        refine v_iconst hC dX7_licence_42 ic_2 ?_
        refine v_icle (tgt := 53) hC dX7_licence_43 (by decide) (fun h43 => ?_) (fun h43 => ?_)
        · refine v_aload_0 hC dX7_licence_53 ?_
          refine v_get hC fX7_7 (by decide) rfl rfl dX7_licence_54 ?_
          refine v_sipush hC dX7_licence_57 sp_1087 ?_
          refine w_iald (k := 1) hC N_1 (by first | omega | (simp only [mcl, mRd]; omega)) dX7_licence_60 ?_
          refine v_istore_4 hC (by decide) rfl dX7_licence_61 ?_
          refine v_iload_4 hC dX7_licence_63 ?_
          refine v_bipush hC dX7_licence_65 bp_10 ?_
          refine v_icne (tgt := 77) hC dX7_licence_67 (by decide) (fun h67 => ?_) (fun h67 => ?_)
          · have hl10 := mllt hwm h67
            refine v_leq_4 hwm.l ?_
            refine v_aload_0 hC dX7_licence_77 ?_
            refine v_get hC fX7_7 (by decide) rfl rfl dX7_licence_78 ?_
            refine v_sipush hC dX7_licence_81 sp_566 ?_
            refine v_iconst hC dX7_licence_84 ic_4 ?_
            refine v_iload_4 hC dX7_licence_85 ?_
            refine v_imulN hC dX7_licence_87 ?_
            refine v_iaddN hC dX7_licence_88 ?_
            refine v_iload_1 hC dX7_licence_89 ?_
            refine w_iast (k := 1) hC N_1 (by first | omega | (simp only [mcl, mRd]; omega)) dX7_licence_90 ?_
            refine v_aload_0 hC dX7_licence_91 ?_
            refine v_get hC fX7_7 (by decide) rfl rfl dX7_licence_92 ?_
            refine v_sipush hC dX7_licence_95 sp_566 ?_
            refine v_iconst hC dX7_licence_98 ic_4 ?_
            refine v_iload_4 hC dX7_licence_99 ?_
            refine v_imulN hC dX7_licence_101 ?_
            refine v_iaddN hC dX7_licence_102 ?_
            refine v_iconst hC dX7_licence_103 ic_1 ?_
            refine v_iaddN hC dX7_licence_104 ?_
            refine v_iload_2 hC dX7_licence_105 ?_
            refine w_iast (k := 1) hC N_1 (by first | omega | (simp only [mcl, mRd]; omega)) dX7_licence_106 ?_
            refine v_aload_0 hC dX7_licence_107 ?_
            refine v_get hC fX7_7 (by decide) rfl rfl dX7_licence_108 ?_
            refine v_sipush hC dX7_licence_111 sp_566 ?_
            refine v_iconst hC dX7_licence_114 ic_4 ?_
            refine v_iload_4 hC dX7_licence_115 ?_
            refine v_imulN hC dX7_licence_117 ?_
            refine v_iaddN hC dX7_licence_118 ?_
            refine v_iconst hC dX7_licence_119 ic_2 ?_
            refine v_iaddN hC dX7_licence_120 ?_
            refine v_iload_3 hC dX7_licence_121 ?_
            refine w_iast (k := 1) hC N_1 (by first | omega | (simp only [mcl, mRd]; omega)) dX7_licence_122 ?_
            refine v_aload_0 hC dX7_licence_123 ?_
            refine v_get hC fX7_7 (by decide) rfl rfl dX7_licence_124 ?_
            refine v_sipush hC dX7_licence_127 sp_566 ?_
            refine v_iconst hC dX7_licence_130 ic_4 ?_
            refine v_iload_4 hC dX7_licence_131 ?_
            refine v_imulN hC dX7_licence_133 ?_
            refine v_iaddN hC dX7_licence_134 ?_
            refine v_iconst hC dX7_licence_135 ic_3 ?_
            refine v_iaddN hC dX7_licence_136 ?_
            refine v_iconst hC dX7_licence_137 ic_0 ?_
            refine w_iast (k := 1) hC N_1 (by first | omega | (simp only [mcl, mRd]; omega)) dX7_licence_138 ?_
            refine v_aload_0 hC dX7_licence_139 ?_
            refine v_get hC fX7_7 (by decide) rfl rfl dX7_licence_140 ?_
            refine v_sipush hC dX7_licence_143 sp_1087 ?_
            refine v_dup2 hC rfl rfl dX7_licence_146 ?_
            refine w_iald (k := 1) hC N_1 (by first | omega | (simp only [mcl, mRd]; omega)) dX7_licence_147 ?_
            refine v_iconst hC dX7_licence_148 ic_1 ?_
            refine v_iadd hC dX7_licence_149 ?_
            refine w_iast (k := 1) hC N_1 (by first | omega | (simp only [mcl, mRd]; omega)) dX7_licence_150 ?_
            refine v_iload_4 hC dX7_licence_151 ?_
            exact v_iretM hC hT (by rw [mfLicence, if_pos ⟨h5, h16, h27⟩, tnI (j := w) (by omega), if_pos h43, if_neg h67, mLic, mLicT]) dX7_licence_153
          · refine v_aload_0 hC dX7_licence_70 ?_
            refine v_ldc hC kX7_67 dX7_licence_71 ?_
            refine v_cv1r hC lX7_63 ⟨by decide, 7, _, rfl, rfl, fun _ _ _ => ⟨_, rfl⟩⟩ (k_X7_found _) ⟨Nat.le_of_ble_eq_true rfl, Nat.le_of_ble_eq_true rfl, rfl, rfl⟩ (Nat.le_of_ble_eq_true rfl) dX7_licence_73 ?_
            exact v_iretM hC hT (by rw [mfLicence, if_pos ⟨h5, h16, h27⟩, tnI (j := w) (by omega), if_pos h43, if_pos h67]) dX7_licence_76
        · refine v_aload_0 hC dX7_licence_46 ?_
          refine v_ldc hC kX7_74 dX7_licence_47 ?_
          refine v_cv1r hC lX7_63 ⟨by decide, 7, _, rfl, rfl, fun _ _ _ => ⟨_, rfl⟩⟩ (k_X7_found _) ⟨Nat.le_of_ble_eq_true rfl, Nat.le_of_ble_eq_true rfl, rfl, rfl⟩ (Nat.le_of_ble_eq_true rfl) dX7_licence_49 ?_
          exact v_iretM hC hT (by rw [mfLicence, if_pos ⟨h5, h16, h27⟩, tnI (j := w) (by omega), if_neg h43]) dX7_licence_52
      · refine v_aload_0 hC dX7_licence_30 ?_
        refine v_ldc hC kX7_62 dX7_licence_31 ?_
        refine v_cv1r hC lX7_63 ⟨by decide, 7, _, rfl, rfl, fun _ _ _ => ⟨_, rfl⟩⟩ (k_X7_found _) ⟨Nat.le_of_ble_eq_true rfl, Nat.le_of_ble_eq_true rfl, rfl, rfl⟩ (Nat.le_of_ble_eq_true rfl) dX7_licence_33 ?_
        exact v_iretM hC hT (by rw [mfLicence, if_neg (fun q => h27 q.2.2)]) dX7_licence_36
theorem k_X7_served {l : Launch} {E : ET} {σ μ : St} (hwm : WM μ) (i b : Int32) : Ct l E MX7_served [.ref (adr E 54), .int i, .int b] (σ) (μ) (some (.int (mfServed μ i b).1)) (σ) ((mfServed μ i b).2) := by
  have h10 := hwm.n10
  have l10 := hwm.l10
  refine Ct.of (L := [some (.ref (adr E 54)), some (.int i), some (.int b)]) (by decide) rfl (Nat.le_of_ble_eq_true rfl) rfl (fun X hC hT => ?_)
  refine v_iload_1 hC dX7_served_0 ?_
  refine v_iconst hC dX7_served_1 ic_0 ?_
  refine v_aload_0 hC dX7_served_2 ?_
  refine v_get hC fX7_7 (by decide) rfl rfl dX7_served_3 ?_
  refine v_sipush hC dX7_served_6 sp_1087 ?_
  refine w_iald (k := 1) hC N_1 (by first | omega | (simp only [mcl, mRd]; omega)) dX7_served_9 ?_
  refine v_iconst hC dX7_served_10 ic_1 ?_
  refine v_isub hC dX7_served_11 ?_
  refine v_cs3r hC lX7_48 (k_X7_in _ _ _) ⟨Nat.le_of_ble_eq_true rfl, Nat.le_of_ble_eq_true rfl, rfl, rfl⟩ (Nat.le_of_ble_eq_true rfl) dX7_served_12 ?_
  refine v_ifneb (tgt := 25) hC dX7_served_15 (by decide) (fun h15 => ?_) (fun h15 => ?_)
  · obtain ⟨i, hi, rfl⟩ := isML_nat hwm h15
    refine v_iload_1 hC dX7_served_25 ?_
    refine v_aload_0 hC dX7_served_26 ?_
    refine v_get hC fX7_7 (by decide) rfl rfl dX7_served_27 ?_
    refine v_sipush hC dX7_served_30 sp_1089 ?_
    refine w_iald (k := 1) hC N_1 (by first | omega | (simp only [mcl, mRd]; omega)) dX7_served_33 ?_
    refine v_iclt (tgt := 44) hC dX7_served_34 (by decide) (fun h34 => ?_) (fun h34 => ?_)
    · refine v_iload_2 hC dX7_served_44 ?_
      refine v_ifeq (tgt := 64) hC dX7_served_45 (by decide) (fun h45 => ?_) (fun h45 => ?_)
      · refine v_aload_0 hC dX7_served_64 ?_
        refine v_iload_1 hC dX7_served_65 ?_
        refine v_iconst hC dX7_served_66 ic_3 ?_
        refine v_cv2r hC lX7_132 ⟨by decide, 7, _, rfl, rfl, fun _ _ _ => ⟨_, rfl⟩⟩ (k_X7_licenceOf (by omega) (by omega)) ⟨Nat.le_of_ble_eq_true rfl, Nat.le_of_ble_eq_true rfl, rfl, rfl⟩ (Nat.le_of_ble_eq_true rfl) dX7_served_67 ?_
        exact v_iretM hC hT (by rw [mfServed, if_pos h15, if_pos h34, if_pos h45, tnI (j := i) (by omega)]) dX7_served_70
      · refine v_aload_0 hC dX7_served_48 ?_
        refine v_iload_1 hC dX7_served_49 ?_
        refine v_iconst hC dX7_served_50 ic_2 ?_
        refine v_cv2r hC lX7_132 ⟨by decide, 7, _, rfl, rfl, fun _ _ _ => ⟨_, rfl⟩⟩ (k_X7_licenceOf (by omega) (by omega)) ⟨Nat.le_of_ble_eq_true rfl, Nat.le_of_ble_eq_true rfl, rfl, rfl⟩ (Nat.le_of_ble_eq_true rfl) dX7_served_51 ?_
        refine v_aload_0 hC dX7_served_54 ?_
        refine v_iload_1 hC dX7_served_55 ?_
        refine v_iconst hC dX7_served_56 ic_3 ?_
        refine v_cv2r hC lX7_132 ⟨by decide, 7, _, rfl, rfl, fun _ _ _ => ⟨_, rfl⟩⟩ (k_X7_licenceOf (by omega) (by omega)) ⟨Nat.le_of_ble_eq_true rfl, Nat.le_of_ble_eq_true rfl, rfl, rfl⟩ (Nat.le_of_ble_eq_true rfl) dX7_served_57 ?_
        refine v_isub hC dX7_served_60 ?_
        refine v_goto (tgt := 70) hC dX7_served_61 (by decide) ?_
        exact v_iretM hC hT (by rw [mfServed, if_pos h15, if_pos h34, if_neg h45, tnI (j := i) (by omega)]) dX7_served_70
    · refine v_aload_0 hC dX7_served_37 ?_
      refine v_ldc hC kX7_121 dX7_served_38 ?_
      refine v_cv1r hC lX7_63 ⟨by decide, 7, _, rfl, rfl, fun _ _ _ => ⟨_, rfl⟩⟩ (k_X7_found _) ⟨Nat.le_of_ble_eq_true rfl, Nat.le_of_ble_eq_true rfl, rfl, rfl⟩ (Nat.le_of_ble_eq_true rfl) dX7_served_40 ?_
      exact v_iretM hC hT (by rw [mfServed, if_pos h15, if_neg h34]) dX7_served_43
  · refine v_aload_0 hC dX7_served_18 ?_
    refine v_ldc hC kX7_62 dX7_served_19 ?_
    refine v_cv1r hC lX7_63 ⟨by decide, 7, _, rfl, rfl, fun _ _ _ => ⟨_, rfl⟩⟩ (k_X7_found _) ⟨Nat.le_of_ble_eq_true rfl, Nat.le_of_ble_eq_true rfl, rfl, rfl⟩ (Nat.le_of_ble_eq_true rfl) dX7_served_21 ?_
    exact v_iretM hC hT (by rw [mfServed, if_neg h15]) dX7_served_24
theorem holdWM {μ : St} (h : WM μ) {k : Nat} (hk : pOK k) (n : Nat) : WM (it0 (fmH k) n μ) := it0_inv WM n h (fun _ _ _ q => q.put hk)
theorem k_X7_hold {l : Launch} {E : ET} {σ μ : St} (hwm : WM μ) (w m h : Int32) : Ct l E MX7_hold [.ref (adr E 54), .int w, .int m, .int h] (σ) (μ) (some (.int (mfHold μ w m h).1)) (σ) ((mfHold μ w m h).2) := by
  have h10 := hwm.n10
  have l10 := hwm.l10
  refine Ct.of (L := [some (.ref (adr E 54)), some (.int w), some (.int m), some (.int h), none, none, none]) (by decide) rfl (Nat.le_of_ble_eq_true rfl) rfl (fun X hC hT => ?_)
  refine v_aload_0 hC dX7_hold_0 ?_
  refine v_iload_1 hC dX7_hold_1 ?_
  refine v_cv1r hC lX7_68 ⟨by decide, 7, _, rfl, rfl, fun _ _ _ => ⟨_, rfl⟩⟩ (k_X7_isWell _) ⟨Nat.le_of_ble_eq_true rfl, Nat.le_of_ble_eq_true rfl, rfl, rfl⟩ (Nat.le_of_ble_eq_true rfl) dX7_hold_2 ?_
  refine v_ifeqb (tgt := 22) hC dX7_hold_5 (by decide) (fun h5 => ?_) (fun h5 => ?_)
  · refine v_aload_0 hC dX7_hold_22 ?_
    refine v_ldc hC kX7_62 dX7_hold_23 ?_
    refine v_cv1r hC lX7_63 ⟨by decide, 7, _, rfl, rfl, fun _ _ _ => ⟨_, rfl⟩⟩ (k_X7_found _) ⟨Nat.le_of_ble_eq_true rfl, Nat.le_of_ble_eq_true rfl, rfl, rfl⟩ (Nat.le_of_ble_eq_true rfl) dX7_hold_25 ?_
    exact v_iretM hC hT (by rw [mfHold, if_neg (fun q => h5 q.1)]) dX7_hold_28
  · refine v_iload_2 hC dX7_hold_8 ?_
    refine v_cs1r hC lX7_98 (k_X7_isMonth _) ⟨Nat.le_of_ble_eq_true rfl, Nat.le_of_ble_eq_true rfl, rfl, rfl⟩ (Nat.le_of_ble_eq_true rfl) dX7_hold_9 ?_
    refine v_ifeqb (tgt := 22) hC dX7_hold_12 (by decide) (fun h12 => ?_) (fun h12 => ?_)
    · refine v_aload_0 hC dX7_hold_22 ?_
      refine v_ldc hC kX7_62 dX7_hold_23 ?_
      refine v_cv1r hC lX7_63 ⟨by decide, 7, _, rfl, rfl, fun _ _ _ => ⟨_, rfl⟩⟩ (k_X7_found _) ⟨Nat.le_of_ble_eq_true rfl, Nat.le_of_ble_eq_true rfl, rfl, rfl⟩ (Nat.le_of_ble_eq_true rfl) dX7_hold_25 ?_
      exact v_iretM hC hT (by rw [mfHold, if_neg (fun q => h12 q.2.1)]) dX7_hold_28
    · refine v_iload_3 hC dX7_hold_15 ?_
      refine v_cs1r hC lX7_58 (k_X7_isHead _) ⟨Nat.le_of_ble_eq_true rfl, Nat.le_of_ble_eq_true rfl, rfl, rfl⟩ (Nat.le_of_ble_eq_true rfl) dX7_hold_16 ?_
      refine v_ifneb (tgt := 29) hC dX7_hold_19 (by decide) (fun h19 => ?_) (fun h19 => ?_)
      · obtain ⟨w, hw, rfl⟩ := isMW_nat hwm h5
        obtain ⟨m, hm, rfl⟩ := isR_nat (by decide) h12
        refine v_aload_0 hC dX7_hold_29 ?_
        refine v_iload_1 hC dX7_hold_30 ?_
        refine v_cv1r hC lX7_71 ⟨by decide, 7, _, rfl, rfl, fun _ _ _ => ⟨_, rfl⟩⟩ (k_X7_kindOf (by omega)) ⟨Nat.le_of_ble_eq_true rfl, Nat.le_of_ble_eq_true rfl, rfl, rfl⟩ (Nat.le_of_ble_eq_true rfl) dX7_hold_31 ?_
        refine v_iconst hC dX7_hold_34 ic_4 ?_
        refine v_iceq (tgt := 45) hC dX7_hold_35 (by decide) (fun h35 => ?_) (fun h35 => ?_)
        · refine v_bipush hC dX7_hold_45 bp_50 ?_
          refine v_bipush hC dX7_hold_47 bp_24 ?_
          refine v_iload_1 hC dX7_hold_49 ?_
          refine v_imulN hC dX7_hold_50 ?_
          refine v_iaddN hC dX7_hold_51 ?_
          refine v_iload_2 hC dX7_hold_52 ?_
          refine v_iaddN hC dX7_hold_53 ?_
          refine v_istore_4 hC (by decide) rfl dX7_hold_54 ?_
          refine v_aload_0 hC dX7_hold_56 ?_
          refine v_get hC fX7_7 (by decide) rfl rfl dX7_hold_57 ?_
          refine v_iload_4 hC dX7_hold_60 ?_
          refine w_iald (k := 1) hC N_1 (by first | omega | (simp only [mcl, mRd]; omega)) dX7_hold_62 ?_
          refine v_istore_5 hC (by decide) rfl dX7_hold_63 ?_
          refine v_iconst hC dX7_hold_65 ic_0 ?_
          refine v_istore_6 hC (by decide) rfl dX7_hold_66 ?_
          refine up_loop (fun d : Nat => (scan (fun v => decide (h ≤ mHead (it0 (fmH (50 + 24 * w + m)) (v + 1) μ) w m)) 0 1001 = scan (fun v => decide (h ≤ mHead (it0 (fmH (50 + 24 * w + m)) (v + 1) μ) w m)) d (1001 - d)) → V X E 68 [some (.ref (adr E 54)), some (.int (nI w)), some (.int (nI m)), some (.int h), some (.int (nI (50 + 24 * w + m))), some (.int (μ 1 (50 + 24 * w + m))), some (.int (nI d))] [] (σ) (it0 (fmH (50 + 24 * w + m)) d μ)) (Nat.zero_le (1001)) (fun hx => ?_) (fun d _ hd ih hx => ?_) rfl
          · refine v_iload_6 hC dX7_hold_68 ?_
            refine v_sipush hC dX7_hold_70 sp_1000 ?_
            refine v_icgt (tgt := 104) hC dX7_hold_73 (by decide) (fun h73 => ?_) (fun h73 => absurd (by decide) h73)
            refine v_aload_0 hC dX7_hold_104 ?_
            refine v_get hC fX7_7 (by decide) rfl rfl dX7_hold_105 ?_
            refine v_iload_4 hC dX7_hold_108 ?_
            refine v_iload_5 hC dX7_hold_110 ?_
            refine w_iast (k := 1) hC N_1 (by first | omega | (simp only [mcl, mRd]; omega)) dX7_hold_112 ?_
            refine v_aload_0 hC dX7_hold_113 ?_
            refine v_ldc hC kX7_121 dX7_hold_114 ?_
            refine v_cv1r hC lX7_63 ⟨by decide, 7, _, rfl, rfl, fun _ _ _ => ⟨_, rfl⟩⟩ (k_X7_found _) ⟨Nat.le_of_ble_eq_true rfl, Nat.le_of_ble_eq_true rfl, rfl, rfl⟩ (Nat.le_of_ble_eq_true rfl) dX7_hold_116 ?_
            exact v_iretM hC hT (by rw [mfHold, if_pos ⟨h5, h12, h19⟩, tnI (j := w) (by omega), tnI (j := m) (by omega), if_pos h35, mHold, show mHs μ w m h = none from hx.trans (scan_0 (by omega))]) dX7_hold_119
          · have hwm0 := hwm
            have hwm : WM (wr (it0 (fmH (50 + 24 * w + m)) d μ) 1 (50 + 24 * w + m) (nI d)) := holdWM hwm0 (pOK_mid (by omega) (by omega)) (d + 1)
            refine v_iload_6 hC dX7_hold_68 ?_
            refine v_sipush hC dX7_hold_70 sp_1000 ?_
            refine v_icgt (tgt := 104) hC dX7_hold_73 (by decide) (fun h73 => absurd h73 (nI_nlt (by omega) (by omega))) (fun h73 => ?_)
            refine v_aload_0 hC dX7_hold_76 ?_
            refine v_get hC fX7_7 (by decide) rfl rfl dX7_hold_77 ?_
            refine v_iload_4 hC dX7_hold_80 ?_
            refine v_iload_6 hC dX7_hold_82 ?_
            refine w_iast (k := 1) hC N_1 (by first | omega | (simp only [mcl, mRd]; omega)) dX7_hold_84 ?_
            refine v_aload_0 hC dX7_hold_85 ?_
            refine v_iload_1 hC dX7_hold_86 ?_
            refine v_iload_2 hC dX7_hold_87 ?_
            refine v_cv2r hC lX7_118 ⟨by decide, 7, _, rfl, rfl, fun _ _ _ => ⟨_, rfl⟩⟩ (k_X7_headOf hwm (by omega) (by omega)) ⟨Nat.le_of_ble_eq_true rfl, Nat.le_of_ble_eq_true rfl, rfl, rfl⟩ (Nat.le_of_ble_eq_true rfl) dX7_hold_88 ?_
            refine v_iload_3 hC dX7_hold_91 ?_
            refine v_iclt (tgt := 98) hC dX7_hold_92 (by decide) (fun h92 => ?_) (fun h92 => ?_)
            · refine v_iinc1_6 hC (by decide) rfl dX7_hold_98 ?_
              refine v_goto (tgt := 68) hC dX7_hold_101 (by decide) ?_
              exact ih (hx.trans (scan_f (fun q => absurd (of_decide_eq_true q) (Int32.not_le.mpr h92)) (by omega)))
            · refine v_iload_6 hC dX7_hold_95 ?_
              exact v_iretM hC hT (by rw [mfHold, if_pos ⟨h5, h12, h19⟩, tnI (j := w) (by omega), tnI (j := m) (by omega), if_pos h35, mHold, show mHs μ w m h = some d from hx.trans (scan_t (decide_eq_true (Int32.not_lt.mp h92)) (by omega))]; rfl) dX7_hold_97
        · refine v_aload_0 hC dX7_hold_38 ?_
          refine v_ldc hC kX7_74 dX7_hold_39 ?_
          refine v_cv1r hC lX7_63 ⟨by decide, 7, _, rfl, rfl, fun _ _ _ => ⟨_, rfl⟩⟩ (k_X7_found _) ⟨Nat.le_of_ble_eq_true rfl, Nat.le_of_ble_eq_true rfl, rfl, rfl⟩ (Nat.le_of_ble_eq_true rfl) dX7_hold_41 ?_
          exact v_iretM hC hT (by rw [mfHold, if_pos ⟨h5, h12, h19⟩, tnI (j := w) (by omega), if_neg h35]) dX7_hold_44
      · refine v_aload_0 hC dX7_hold_22 ?_
        refine v_ldc hC kX7_62 dX7_hold_23 ?_
        refine v_cv1r hC lX7_63 ⟨by decide, 7, _, rfl, rfl, fun _ _ _ => ⟨_, rfl⟩⟩ (k_X7_found _) ⟨Nat.le_of_ble_eq_true rfl, Nat.le_of_ble_eq_true rfl, rfl, rfl⟩ (Nat.le_of_ble_eq_true rfl) dX7_hold_25 ?_
        exact v_iretM hC hT (by rw [mfHold, if_neg (fun q => h19 q.2.2)]) dX7_hold_28
theorem k_X7_move {l : Launch} {E : ET} {σ μ : St} (hwm : WM μ) (w m f : Int32) : Ct l E MX7_move [.ref (adr E 54), .int w, .int m, .int f] (σ) (μ) (some (.int (mfMove μ w m f).1)) (σ) ((mfMove μ w m f).2) := by
  have h10 := hwm.n10
  have l10 := hwm.l10
  refine Ct.of (L := [some (.ref (adr E 54)), some (.int w), some (.int m), some (.int f), none, none, none]) (by decide) rfl (Nat.le_of_ble_eq_true rfl) rfl (fun X hC hT => ?_)
  refine v_aload_0 hC dX7_move_0 ?_
  refine v_iload_1 hC dX7_move_1 ?_
  refine v_cv1r hC lX7_68 ⟨by decide, 7, _, rfl, rfl, fun _ _ _ => ⟨_, rfl⟩⟩ (k_X7_isWell _) ⟨Nat.le_of_ble_eq_true rfl, Nat.le_of_ble_eq_true rfl, rfl, rfl⟩ (Nat.le_of_ble_eq_true rfl) dX7_move_2 ?_
  refine v_ifeqb (tgt := 28) hC dX7_move_5 (by decide) (fun h5 => ?_) (fun h5 => ?_)
  · refine v_aload_0 hC dX7_move_28 ?_
    refine v_ldc hC kX7_62 dX7_move_29 ?_
    refine v_cv1r hC lX7_63 ⟨by decide, 7, _, rfl, rfl, fun _ _ _ => ⟨_, rfl⟩⟩ (k_X7_found _) ⟨Nat.le_of_ble_eq_true rfl, Nat.le_of_ble_eq_true rfl, rfl, rfl⟩ (Nat.le_of_ble_eq_true rfl) dX7_move_31 ?_
    exact v_iretM hC hT (by rw [mfMove, if_neg (fun q => h5 q.1)]) dX7_move_34
  · refine v_aload_0 hC dX7_move_8 ?_
    refine v_iload_3 hC dX7_move_9 ?_
    refine v_cv1r hC lX7_68 ⟨by decide, 7, _, rfl, rfl, fun _ _ _ => ⟨_, rfl⟩⟩ (k_X7_isWell _) ⟨Nat.le_of_ble_eq_true rfl, Nat.le_of_ble_eq_true rfl, rfl, rfl⟩ (Nat.le_of_ble_eq_true rfl) dX7_move_10 ?_
    refine v_ifeqb (tgt := 28) hC dX7_move_13 (by decide) (fun h13 => ?_) (fun h13 => ?_)
    · refine v_aload_0 hC dX7_move_28 ?_
      refine v_ldc hC kX7_62 dX7_move_29 ?_
      refine v_cv1r hC lX7_63 ⟨by decide, 7, _, rfl, rfl, fun _ _ _ => ⟨_, rfl⟩⟩ (k_X7_found _) ⟨Nat.le_of_ble_eq_true rfl, Nat.le_of_ble_eq_true rfl, rfl, rfl⟩ (Nat.le_of_ble_eq_true rfl) dX7_move_31 ?_
      exact v_iretM hC hT (by rw [mfMove, if_neg (fun q => h13 q.2.1)]) dX7_move_34
    · refine v_iload_1 hC dX7_move_16 ?_
      refine v_iload_3 hC dX7_move_17 ?_
      refine v_iceq (tgt := 28) hC dX7_move_18 (by decide) (fun h18 => ?_) (fun h18 => ?_)
      · refine v_aload_0 hC dX7_move_28 ?_
        refine v_ldc hC kX7_62 dX7_move_29 ?_
        refine v_cv1r hC lX7_63 ⟨by decide, 7, _, rfl, rfl, fun _ _ _ => ⟨_, rfl⟩⟩ (k_X7_found _) ⟨Nat.le_of_ble_eq_true rfl, Nat.le_of_ble_eq_true rfl, rfl, rfl⟩ (Nat.le_of_ble_eq_true rfl) dX7_move_31 ?_
        exact v_iretM hC hT (by rw [mfMove, if_neg (fun q => q.2.2.1 h18)]) dX7_move_34
      · refine v_iload_2 hC dX7_move_21 ?_
        refine v_cs1r hC lX7_98 (k_X7_isMonth _) ⟨Nat.le_of_ble_eq_true rfl, Nat.le_of_ble_eq_true rfl, rfl, rfl⟩ (Nat.le_of_ble_eq_true rfl) dX7_move_22 ?_
        refine v_ifneb (tgt := 35) hC dX7_move_25 (by decide) (fun h25 => ?_) (fun h25 => ?_)
        · obtain ⟨w, hw, rfl⟩ := isMW_nat hwm h5
          obtain ⟨f, hf, rfl⟩ := isMW_nat hwm h13
          obtain ⟨m, hm, rfl⟩ := isR_nat (by decide) h25
          refine v_aload_0 hC dX7_move_35 ?_
          refine v_iload_1 hC dX7_move_36 ?_
          refine v_cv1r hC lX7_71 ⟨by decide, 7, _, rfl, rfl, fun _ _ _ => ⟨_, rfl⟩⟩ (k_X7_kindOf (by omega)) ⟨Nat.le_of_ble_eq_true rfl, Nat.le_of_ble_eq_true rfl, rfl, rfl⟩ (Nat.le_of_ble_eq_true rfl) dX7_move_37 ?_
          refine v_iconst hC dX7_move_40 ic_2 ?_
          refine v_icgt (tgt := 53) hC dX7_move_41 (by decide) (fun h41 => ?_) (fun h41 => ?_)
          · refine v_aload_0 hC dX7_move_53 ?_
            refine v_ldc hC kX7_74 dX7_move_54 ?_
            refine v_cv1r hC lX7_63 ⟨by decide, 7, _, rfl, rfl, fun _ _ _ => ⟨_, rfl⟩⟩ (k_X7_found _) ⟨Nat.le_of_ble_eq_true rfl, Nat.le_of_ble_eq_true rfl, rfl, rfl⟩ (Nat.le_of_ble_eq_true rfl) dX7_move_56 ?_
            exact v_iretM hC hT (by rw [mfMove, if_pos ⟨h5, h13, h18, h25⟩, tnI (j := w) (by omega), tnI (j := f) (by omega), if_neg (fun q => absurd h41 (Int32.not_lt.mpr q.1))]) dX7_move_59
          · refine v_aload_0 hC dX7_move_44 ?_
            refine v_iload_3 hC dX7_move_45 ?_
            refine v_cv1r hC lX7_71 ⟨by decide, 7, _, rfl, rfl, fun _ _ _ => ⟨_, rfl⟩⟩ (k_X7_kindOf (by omega)) ⟨Nat.le_of_ble_eq_true rfl, Nat.le_of_ble_eq_true rfl, rfl, rfl⟩ (Nat.le_of_ble_eq_true rfl) dX7_move_46 ?_
            refine v_iconst hC dX7_move_49 ic_2 ?_
            refine v_icle (tgt := 60) hC dX7_move_50 (by decide) (fun h50 => ?_) (fun h50 => ?_)
            · refine v_aload_0 hC dX7_move_60 ?_
              refine v_iload_1 hC dX7_move_61 ?_
              refine v_iload_2 hC dX7_move_62 ?_
              refine v_cv2r hC lX7_105 ⟨by decide, 7, _, rfl, rfl, fun _ _ _ => ⟨_, rfl⟩⟩ (k_X7_sign (by omega) (by omega)) ⟨Nat.le_of_ble_eq_true rfl, Nat.le_of_ble_eq_true rfl, rfl, rfl⟩ (Nat.le_of_ble_eq_true rfl) dX7_move_63 ?_
              refine v_aload_0 hC dX7_move_66 ?_
              refine v_iload_1 hC dX7_move_67 ?_
              refine v_iload_2 hC dX7_move_68 ?_
              refine v_cv2r hC lX7_75 ⟨by decide, 7, _, rfl, rfl, fun _ _ _ => ⟨_, rfl⟩⟩ (k_X7_drawOf (by omega) (by omega)) ⟨Nat.le_of_ble_eq_true rfl, Nat.le_of_ble_eq_true rfl, rfl, rfl⟩ (Nat.le_of_ble_eq_true rfl) dX7_move_69 ?_
              refine v_imul hC dX7_move_72 ?_
              refine v_istore_4 hC (by decide) rfl dX7_move_73 ?_
              refine v_aload_0 hC dX7_move_75 ?_
              refine v_iload_3 hC dX7_move_76 ?_
              refine v_iload_2 hC dX7_move_77 ?_
              refine v_cv2r hC lX7_105 ⟨by decide, 7, _, rfl, rfl, fun _ _ _ => ⟨_, rfl⟩⟩ (k_X7_sign (by omega) (by omega)) ⟨Nat.le_of_ble_eq_true rfl, Nat.le_of_ble_eq_true rfl, rfl, rfl⟩ (Nat.le_of_ble_eq_true rfl) dX7_move_78 ?_
              refine v_aload_0 hC dX7_move_81 ?_
              refine v_iload_3 hC dX7_move_82 ?_
              refine v_iload_2 hC dX7_move_83 ?_
              refine v_cv2r hC lX7_75 ⟨by decide, 7, _, rfl, rfl, fun _ _ _ => ⟨_, rfl⟩⟩ (k_X7_drawOf (by omega) (by omega)) ⟨Nat.le_of_ble_eq_true rfl, Nat.le_of_ble_eq_true rfl, rfl, rfl⟩ (Nat.le_of_ble_eq_true rfl) dX7_move_84 ?_
              refine v_imul hC dX7_move_87 ?_
              refine v_istore_5 hC (by decide) rfl dX7_move_88 ?_
              refine v_sipush hC dX7_move_90 sp_1000 ?_
              refine v_istore_6 hC (by decide) rfl dX7_move_93 ?_
              have LQ : ∀ q : Nat, q ≤ 1000 → down (fun q => decide (mMay μ w f (24 - m) (mSgn μ w m * nI q - mSgn μ w m * mDr μ w m) (mSgn μ f m * mDr μ f m))) 1000 = down (fun q => decide (mMay μ w f (24 - m) (mSgn μ w m * nI q - mSgn μ w m * mDr μ w m) (mSgn μ f m * mDr μ f m))) q → V X E 95 [some (.ref (adr E 54)), some (.int (nI w)), some (.int (nI m)), some (.int (nI f)), some (.int (mSgn μ w m * mDr μ w m)), some (.int (mSgn μ f m * mDr μ f m)), some (.int (nI q))] [] σ μ := by
                intro q
                induction q with
                | zero =>
                  intro _ hx
                  refine v_iload_6 hC dX7_move_95 ?_
                  refine v_ifle (tgt := 133) hC dX7_move_97 (by decide) (fun h97 => ?_) (fun h97 => absurd (by decide) h97)
                  refine v_aload_0 hC dX7_move_133 ?_
                  refine v_get hC fX7_7 (by decide) rfl rfl dX7_move_134 ?_
                  refine v_bipush hC dX7_move_137 bp_50 ?_
                  refine v_bipush hC dX7_move_139 bp_24 ?_
                  refine v_iload_1 hC dX7_move_141 ?_
                  refine v_imulN hC dX7_move_142 ?_
                  refine v_iaddN hC dX7_move_143 ?_
                  refine v_iload_2 hC dX7_move_144 ?_
                  refine v_iaddN hC dX7_move_145 ?_
                  refine v_iload_6 hC dX7_move_146 ?_
                  refine w_iast (k := 1) hC N_1 (by first | omega | (simp only [mcl, mRd]; omega)) dX7_move_148 ?_
                  refine v_aload_0 hC dX7_move_149 ?_
                  refine v_get hC fX7_7 (by decide) rfl rfl dX7_move_150 ?_
                  refine v_bipush hC dX7_move_153 bp_50 ?_
                  refine v_bipush hC dX7_move_155 bp_24 ?_
                  refine v_iload_3 hC dX7_move_157 ?_
                  refine v_imulN hC dX7_move_158 ?_
                  refine v_iaddN hC dX7_move_159 ?_
                  refine v_iload_2 hC dX7_move_160 ?_
                  refine v_iaddN hC dX7_move_161 ?_
                  refine v_iconst hC dX7_move_162 ic_0 ?_
                  refine w_iast (k := 1) hC N_1 (by first | omega | (simp only [mcl, mRd]; omega)) dX7_move_163 ?_
                  refine v_iload_6 hC dX7_move_164 ?_
                  exact v_iretM hC hT (by rw [mfMove, if_pos ⟨h5, h13, h18, h25⟩, tnI (j := w) (by omega), tnI (j := f) (by omega), if_pos ⟨Int32.not_lt.mp h41, h50⟩, tnI (j := m) (by omega), mMove, mMoveQ, hx]; rfl) dX7_move_166
                | succ q ihq =>
                  intro hq hx
                  refine v_iload_6 hC dX7_move_95 ?_
                  refine v_ifle (tgt := 133) hC dX7_move_97 (by decide) (fun h97 => absurd h97 (nI_nle (by omega) (by omega))) (fun h97 => ?_)
                  refine v_aload_0 hC dX7_move_100 ?_
                  refine v_iload_1 hC dX7_move_101 ?_
                  refine v_iload_3 hC dX7_move_102 ?_
                  refine v_bipush hC dX7_move_103 bp_24 ?_
                  refine v_iload_2 hC dX7_move_105 ?_
                  refine v_isubN hC dX7_move_106 (by omega) ?_
                  refine v_aload_0 hC dX7_move_107 ?_
                  refine v_iload_1 hC dX7_move_108 ?_
                  refine v_iload_2 hC dX7_move_109 ?_
                  refine v_cv2r hC lX7_105 ⟨by decide, 7, _, rfl, rfl, fun _ _ _ => ⟨_, rfl⟩⟩ (k_X7_sign (by omega) (by omega)) ⟨Nat.le_of_ble_eq_true rfl, Nat.le_of_ble_eq_true rfl, rfl, rfl⟩ (Nat.le_of_ble_eq_true rfl) dX7_move_110 ?_
                  refine v_iload_6 hC dX7_move_113 ?_
                  refine v_imul hC dX7_move_115 ?_
                  refine v_iload_4 hC dX7_move_116 ?_
                  refine v_isub hC dX7_move_118 ?_
                  refine v_iload_5 hC dX7_move_119 ?_
                  refine v_cv5r hC lX7_135 ⟨by decide, 7, _, rfl, rfl, fun _ _ _ => ⟨_, rfl⟩⟩ (k_X7_mayMove hwm (by omega) (by omega) (by omega) _ _) ⟨Nat.le_of_ble_eq_true rfl, Nat.le_of_ble_eq_true rfl, rfl, rfl⟩ (Nat.le_of_ble_eq_true rfl) dX7_move_121 ?_
                  refine v_ifneb (tgt := 133) hC dX7_move_124 (by decide) (fun h124 => ?_) (fun h124 => ?_)
                  · refine v_aload_0 hC dX7_move_133 ?_
                    refine v_get hC fX7_7 (by decide) rfl rfl dX7_move_134 ?_
                    refine v_bipush hC dX7_move_137 bp_50 ?_
                    refine v_bipush hC dX7_move_139 bp_24 ?_
                    refine v_iload_1 hC dX7_move_141 ?_
                    refine v_imulN hC dX7_move_142 ?_
                    refine v_iaddN hC dX7_move_143 ?_
                    refine v_iload_2 hC dX7_move_144 ?_
                    refine v_iaddN hC dX7_move_145 ?_
                    refine v_iload_6 hC dX7_move_146 ?_
                    refine w_iast (k := 1) hC N_1 (by first | omega | (simp only [mcl, mRd]; omega)) dX7_move_148 ?_
                    refine v_aload_0 hC dX7_move_149 ?_
                    refine v_get hC fX7_7 (by decide) rfl rfl dX7_move_150 ?_
                    refine v_bipush hC dX7_move_153 bp_50 ?_
                    refine v_bipush hC dX7_move_155 bp_24 ?_
                    refine v_iload_3 hC dX7_move_157 ?_
                    refine v_imulN hC dX7_move_158 ?_
                    refine v_iaddN hC dX7_move_159 ?_
                    refine v_iload_2 hC dX7_move_160 ?_
                    refine v_iaddN hC dX7_move_161 ?_
                    refine v_iconst hC dX7_move_162 ic_0 ?_
                    refine w_iast (k := 1) hC N_1 (by first | omega | (simp only [mcl, mRd]; omega)) dX7_move_163 ?_
                    refine v_iload_6 hC dX7_move_164 ?_
                    exact v_iretM hC hT (by rw [mfMove, if_pos ⟨h5, h13, h18, h25⟩, tnI (j := w) (by omega), tnI (j := f) (by omega), if_pos ⟨Int32.not_lt.mp h41, h50⟩, tnI (j := m) (by omega), mMove, mMoveQ, hx, down, if_pos (decide_eq_true h124)]) dX7_move_166
                  · refine v_iinc_6 hC (by decide) rfl dX7_move_127 (dec1 q) ?_
                    refine v_goto (tgt := 95) hC dX7_move_130 (by decide) ?_
                    exact ihq (by omega) (hx.trans (by rw [down, if_neg (by simpa using h124)]))
              exact LQ 1000 (Nat.le_refl _) rfl
            · refine v_aload_0 hC dX7_move_53 ?_
              refine v_ldc hC kX7_74 dX7_move_54 ?_
              refine v_cv1r hC lX7_63 ⟨by decide, 7, _, rfl, rfl, fun _ _ _ => ⟨_, rfl⟩⟩ (k_X7_found _) ⟨Nat.le_of_ble_eq_true rfl, Nat.le_of_ble_eq_true rfl, rfl, rfl⟩ (Nat.le_of_ble_eq_true rfl) dX7_move_56 ?_
              exact v_iretM hC hT (by rw [mfMove, if_pos ⟨h5, h13, h18, h25⟩, tnI (j := w) (by omega), tnI (j := f) (by omega), if_neg (fun q => h50 q.2)]) dX7_move_59
        · refine v_aload_0 hC dX7_move_28 ?_
          refine v_ldc hC kX7_62 dX7_move_29 ?_
          refine v_cv1r hC lX7_63 ⟨by decide, 7, _, rfl, rfl, fun _ _ _ => ⟨_, rfl⟩⟩ (k_X7_found _) ⟨Nat.le_of_ble_eq_true rfl, Nat.le_of_ble_eq_true rfl, rfl, rfl⟩ (Nat.le_of_ble_eq_true rfl) dX7_move_31 ?_
          exact v_iretM hC hT (by rw [mfMove, if_neg (fun q => h25 q.2.2.2)]) dX7_move_34
theorem k_X7_read {l : Launch} {E : ET} {σ μ : St} (hwm : WM μ) (w m v : Int32) : Ct l E MX7_read [.ref (adr E 54), .int w, .int m, .int v] (σ) (μ) (some (.int (mfRead μ w m v).1)) (σ) ((mfRead μ w m v).2) := by
  have h10 := hwm.n10
  have l10 := hwm.l10
  refine Ct.of (L := [some (.ref (adr E 54)), some (.int w), some (.int m), some (.int v), none]) (by decide) rfl (Nat.le_of_ble_eq_true rfl) rfl (fun X hC hT => ?_)
  refine v_aload_0 hC dX7_read_0 ?_
  refine v_iload_1 hC dX7_read_1 ?_
  refine v_cv1r hC lX7_68 ⟨by decide, 7, _, rfl, rfl, fun _ _ _ => ⟨_, rfl⟩⟩ (k_X7_isWell _) ⟨Nat.le_of_ble_eq_true rfl, Nat.le_of_ble_eq_true rfl, rfl, rfl⟩ (Nat.le_of_ble_eq_true rfl) dX7_read_2 ?_
  refine v_ifeqb (tgt := 26) hC dX7_read_5 (by decide) (fun h5 => ?_) (fun h5 => ?_)
  · refine v_aload_0 hC dX7_read_26 ?_
    refine v_ldc hC kX7_62 dX7_read_27 ?_
    refine v_cv1r hC lX7_63 ⟨by decide, 7, _, rfl, rfl, fun _ _ _ => ⟨_, rfl⟩⟩ (k_X7_found _) ⟨Nat.le_of_ble_eq_true rfl, Nat.le_of_ble_eq_true rfl, rfl, rfl⟩ (Nat.le_of_ble_eq_true rfl) dX7_read_29 ?_
    exact v_iretM hC hT (by rw [mfRead, if_neg (fun q => h5 q.1)]) dX7_read_32
  · refine v_iload_2 hC dX7_read_8 ?_
    refine v_cs1r hC lX7_98 (k_X7_isMonth _) ⟨Nat.le_of_ble_eq_true rfl, Nat.le_of_ble_eq_true rfl, rfl, rfl⟩ (Nat.le_of_ble_eq_true rfl) dX7_read_9 ?_
    refine v_ifeqb (tgt := 26) hC dX7_read_12 (by decide) (fun h12 => ?_) (fun h12 => ?_)
    · refine v_aload_0 hC dX7_read_26 ?_
      refine v_ldc hC kX7_62 dX7_read_27 ?_
      refine v_cv1r hC lX7_63 ⟨by decide, 7, _, rfl, rfl, fun _ _ _ => ⟨_, rfl⟩⟩ (k_X7_found _) ⟨Nat.le_of_ble_eq_true rfl, Nat.le_of_ble_eq_true rfl, rfl, rfl⟩ (Nat.le_of_ble_eq_true rfl) dX7_read_29 ?_
      exact v_iretM hC hT (by rw [mfRead, if_neg (fun q => h12 q.2.1)]) dX7_read_32
    · refine v_iload_3 hC dX7_read_15 ?_
      refine v_ldc hC kX7_139 dX7_read_16 ?_
      refine v_ldc hC kX7_140 dX7_read_18 ?_
      refine v_cs3r hC lX7_48 (k_X7_in _ _ _) ⟨Nat.le_of_ble_eq_true rfl, Nat.le_of_ble_eq_true rfl, rfl, rfl⟩ (Nat.le_of_ble_eq_true rfl) dX7_read_20 ?_
      refine v_ifneb (tgt := 33) hC dX7_read_23 (by decide) (fun h23 => ?_) (fun h23 => ?_)
      · obtain ⟨w, hw, rfl⟩ := isMW_nat hwm h5
        obtain ⟨m, hm, rfl⟩ := isR_nat (by decide) h12
        refine v_aload_0 hC dX7_read_33 ?_
        refine v_iload_1 hC dX7_read_34 ?_
        refine v_iload_2 hC dX7_read_35 ?_
        refine v_cv2r hC lX7_141 ⟨by decide, 7, _, rfl, rfl, fun _ _ _ => ⟨_, rfl⟩⟩ (k_X7_reading) ⟨Nat.le_of_ble_eq_true rfl, Nat.le_of_ble_eq_true rfl, rfl, rfl⟩ (Nat.le_of_ble_eq_true rfl) dX7_read_36 ?_
        refine v_istore_4 hC (by decide) rfl dX7_read_39 ?_
        refine v_aload_0 hC dX7_read_41 ?_
        refine v_get hC fX7_7 (by decide) rfl rfl dX7_read_42 ?_
        refine v_iload_4 hC dX7_read_45 ?_
        refine w_iald (k := 1) hC N_1 (by first | omega | (simp only [mcl, mRd]; omega)) dX7_read_47 ?_
        refine v_ifne (tgt := 71) hC dX7_read_48 (by decide) (fun h48 => ?_) (fun h48 => ?_)
        · refine v_aload_0 hC dX7_read_71 ?_
          refine v_get hC fX7_7 (by decide) rfl rfl dX7_read_72 ?_
          refine v_sipush hC dX7_read_75 sp_1088 ?_
          refine v_dup2 hC rfl rfl dX7_read_78 ?_
          refine w_iald (k := 1) hC N_1 (by first | omega | (simp only [mcl, mRd]; omega)) dX7_read_79 ?_
          refine v_iconst hC dX7_read_80 ic_1 ?_
          refine v_aload_0 hC dX7_read_81 ?_
          refine v_get hC fX7_7 (by decide) rfl rfl dX7_read_82 ?_
          refine v_iload_4 hC dX7_read_85 ?_
          refine w_iald (k := 1) hC N_1 (by first | omega | (simp only [mcl, mRd]; omega)) dX7_read_87 ?_
          refine v_isub hC dX7_read_88 ?_
          refine v_iadd hC dX7_read_89 ?_
          refine w_iast (k := 1) hC N_1 (by first | omega | (simp only [mcl, mRd]; omega)) dX7_read_90 ?_
          refine v_aload_0 hC dX7_read_91 ?_
          refine v_get hC fX7_7 (by decide) rfl rfl dX7_read_92 ?_
          refine v_iload_4 hC dX7_read_95 ?_
          refine v_iconst hC dX7_read_97 ic_1 ?_
          refine w_iast (k := 1) hC N_1 (by first | omega | (simp only [mcl, mRd]; omega)) dX7_read_98 ?_
          refine v_aload_0 hC dX7_read_99 ?_
          refine v_get hC fX7_7 (by decide) rfl rfl dX7_read_100 ?_
          refine v_iload_4 hC dX7_read_103 ?_
          refine v_iconst hC dX7_read_105 ic_1 ?_
          refine v_iaddN hC dX7_read_106 ?_
          refine v_iload_3 hC dX7_read_107 ?_
          refine w_iast (k := 1) hC N_1 (by first | omega | (simp only [mcl, mRd]; omega)) dX7_read_108 ?_
          refine v_aload_0 hC dX7_read_109 ?_
          refine v_get hC fX7_7 (by decide) rfl rfl dX7_read_110 ?_
          refine v_sipush hC dX7_read_113 sp_1088 ?_
          refine w_iald (k := 1) hC N_1 (by first | omega | (simp only [mcl, mRd]; omega)) dX7_read_116 ?_
          exact v_iretM hC hT (by rw [mfRead, if_pos ⟨h5, h12, h23⟩, tnI (j := w) (by omega), tnI (j := m) (by omega), if_neg (fun q => h48 q.1), mWri, mWr1]) dX7_read_117
        · refine v_aload_0 hC dX7_read_51 ?_
          refine v_get hC fX7_7 (by decide) rfl rfl dX7_read_52 ?_
          refine v_sipush hC dX7_read_55 sp_1088 ?_
          refine w_iald (k := 1) hC N_1 (by first | omega | (simp only [mcl, mRd]; omega)) dX7_read_58 ?_
          refine v_bipush hC dX7_read_59 bp_40 ?_
          refine v_icne (tgt := 71) hC dX7_read_61 (by decide) (fun h61 => ?_) (fun h61 => ?_)
          · refine v_aload_0 hC dX7_read_71 ?_
            refine v_get hC fX7_7 (by decide) rfl rfl dX7_read_72 ?_
            refine v_sipush hC dX7_read_75 sp_1088 ?_
            refine v_dup2 hC rfl rfl dX7_read_78 ?_
            refine w_iald (k := 1) hC N_1 (by first | omega | (simp only [mcl, mRd]; omega)) dX7_read_79 ?_
            refine v_iconst hC dX7_read_80 ic_1 ?_
            refine v_aload_0 hC dX7_read_81 ?_
            refine v_get hC fX7_7 (by decide) rfl rfl dX7_read_82 ?_
            refine v_iload_4 hC dX7_read_85 ?_
            refine w_iald (k := 1) hC N_1 (by first | omega | (simp only [mcl, mRd]; omega)) dX7_read_87 ?_
            refine v_isub hC dX7_read_88 ?_
            refine v_iadd hC dX7_read_89 ?_
            refine w_iast (k := 1) hC N_1 (by first | omega | (simp only [mcl, mRd]; omega)) dX7_read_90 ?_
            refine v_aload_0 hC dX7_read_91 ?_
            refine v_get hC fX7_7 (by decide) rfl rfl dX7_read_92 ?_
            refine v_iload_4 hC dX7_read_95 ?_
            refine v_iconst hC dX7_read_97 ic_1 ?_
            refine w_iast (k := 1) hC N_1 (by first | omega | (simp only [mcl, mRd]; omega)) dX7_read_98 ?_
            refine v_aload_0 hC dX7_read_99 ?_
            refine v_get hC fX7_7 (by decide) rfl rfl dX7_read_100 ?_
            refine v_iload_4 hC dX7_read_103 ?_
            refine v_iconst hC dX7_read_105 ic_1 ?_
            refine v_iaddN hC dX7_read_106 ?_
            refine v_iload_3 hC dX7_read_107 ?_
            refine w_iast (k := 1) hC N_1 (by first | omega | (simp only [mcl, mRd]; omega)) dX7_read_108 ?_
            refine v_aload_0 hC dX7_read_109 ?_
            refine v_get hC fX7_7 (by decide) rfl rfl dX7_read_110 ?_
            refine v_sipush hC dX7_read_113 sp_1088 ?_
            refine w_iald (k := 1) hC N_1 (by first | omega | (simp only [mcl, mRd]; omega)) dX7_read_116 ?_
            exact v_iretM hC hT (by rw [mfRead, if_pos ⟨h5, h12, h23⟩, tnI (j := w) (by omega), tnI (j := m) (by omega), if_neg (fun q => h61 q.2), mWri, mWr1]) dX7_read_117
          · refine v_aload_0 hC dX7_read_64 ?_
            refine v_ldc hC kX7_67 dX7_read_65 ?_
            refine v_cv1r hC lX7_63 ⟨by decide, 7, _, rfl, rfl, fun _ _ _ => ⟨_, rfl⟩⟩ (k_X7_found _) ⟨Nat.le_of_ble_eq_true rfl, Nat.le_of_ble_eq_true rfl, rfl, rfl⟩ (Nat.le_of_ble_eq_true rfl) dX7_read_67 ?_
            exact v_iretM hC hT (by rw [mfRead, if_pos ⟨h5, h12, h23⟩, tnI (j := w) (by omega), tnI (j := m) (by omega), if_pos ⟨h48, h61⟩]) dX7_read_70
      · refine v_aload_0 hC dX7_read_26 ?_
        refine v_ldc hC kX7_62 dX7_read_27 ?_
        refine v_cv1r hC lX7_63 ⟨by decide, 7, _, rfl, rfl, fun _ _ _ => ⟨_, rfl⟩⟩ (k_X7_found _) ⟨Nat.le_of_ble_eq_true rfl, Nat.le_of_ble_eq_true rfl, rfl, rfl⟩ (Nat.le_of_ble_eq_true rfl) dX7_read_29 ?_
        exact v_iretM hC hT (by rw [mfRead, if_neg (fun q => h23 q.2.2)]) dX7_read_32
theorem k_X7_differ {l : Launch} {E : ET} {σ μ : St} (hwm : WM μ) (w m : Int32) : Ct l E MX7_differ [.ref (adr E 54), .int w, .int m] (σ) (μ) (some (.int (mfDiffer μ w m).1)) (σ) ((mfDiffer μ w m).2) := by
  have h10 := hwm.n10
  have l10 := hwm.l10
  refine Ct.of (L := [some (.ref (adr E 54)), some (.int w), some (.int m), none]) (by decide) rfl (Nat.le_of_ble_eq_true rfl) rfl (fun X hC hT => ?_)
  refine v_aload_0 hC dX7_differ_0 ?_
  refine v_iload_1 hC dX7_differ_1 ?_
  refine v_cv1r hC lX7_68 ⟨by decide, 7, _, rfl, rfl, fun _ _ _ => ⟨_, rfl⟩⟩ (k_X7_isWell _) ⟨Nat.le_of_ble_eq_true rfl, Nat.le_of_ble_eq_true rfl, rfl, rfl⟩ (Nat.le_of_ble_eq_true rfl) dX7_differ_2 ?_
  refine v_ifeqb (tgt := 15) hC dX7_differ_5 (by decide) (fun h5 => ?_) (fun h5 => ?_)
  · refine v_aload_0 hC dX7_differ_15 ?_
    refine v_ldc hC kX7_62 dX7_differ_16 ?_
    refine v_cv1r hC lX7_63 ⟨by decide, 7, _, rfl, rfl, fun _ _ _ => ⟨_, rfl⟩⟩ (k_X7_found _) ⟨Nat.le_of_ble_eq_true rfl, Nat.le_of_ble_eq_true rfl, rfl, rfl⟩ (Nat.le_of_ble_eq_true rfl) dX7_differ_18 ?_
    exact v_iretM hC hT (by rw [mfDiffer, if_neg (fun q => h5 q.1)]) dX7_differ_21
  · refine v_iload_2 hC dX7_differ_8 ?_
    refine v_cs1r hC lX7_98 (k_X7_isMonth _) ⟨Nat.le_of_ble_eq_true rfl, Nat.le_of_ble_eq_true rfl, rfl, rfl⟩ (Nat.le_of_ble_eq_true rfl) dX7_differ_9 ?_
    refine v_ifneb (tgt := 22) hC dX7_differ_12 (by decide) (fun h12 => ?_) (fun h12 => ?_)
    · obtain ⟨w, hw, rfl⟩ := isMW_nat hwm h5
      obtain ⟨m, hm, rfl⟩ := isR_nat (by decide) h12
      refine v_aload_0 hC dX7_differ_22 ?_
      refine v_iload_1 hC dX7_differ_23 ?_
      refine v_iload_2 hC dX7_differ_24 ?_
      refine v_cv2r hC lX7_141 ⟨by decide, 7, _, rfl, rfl, fun _ _ _ => ⟨_, rfl⟩⟩ (k_X7_reading) ⟨Nat.le_of_ble_eq_true rfl, Nat.le_of_ble_eq_true rfl, rfl, rfl⟩ (Nat.le_of_ble_eq_true rfl) dX7_differ_25 ?_
      refine v_istore_3 hC (by decide) rfl dX7_differ_28 ?_
      refine v_aload_0 hC dX7_differ_29 ?_
      refine v_get hC fX7_7 (by decide) rfl rfl dX7_differ_30 ?_
      refine v_iload_3 hC dX7_differ_33 ?_
      refine w_iald (k := 1) hC N_1 (by first | omega | (simp only [mcl, mRd]; omega)) dX7_differ_34 ?_
      refine v_ifne (tgt := 47) hC dX7_differ_35 (by decide) (fun h35 => ?_) (fun h35 => ?_)
      · refine v_aload_0 hC dX7_differ_47 ?_
        refine v_get hC fX7_7 (by decide) rfl rfl dX7_differ_48 ?_
        refine v_iload_3 hC dX7_differ_51 ?_
        refine v_iconst hC dX7_differ_52 ic_1 ?_
        refine v_iaddN hC dX7_differ_53 ?_
        refine w_iald (k := 1) hC N_1 (by first | omega | (simp only [mcl, mRd]; omega)) dX7_differ_54 ?_
        refine v_aload_0 hC dX7_differ_55 ?_
        refine v_iload_1 hC dX7_differ_56 ?_
        refine v_iload_2 hC dX7_differ_57 ?_
        refine v_cv2r hC lX7_118 ⟨by decide, 7, _, rfl, rfl, fun _ _ _ => ⟨_, rfl⟩⟩ (k_X7_headOf hwm (by omega) (by omega)) ⟨Nat.le_of_ble_eq_true rfl, Nat.le_of_ble_eq_true rfl, rfl, rfl⟩ (Nat.le_of_ble_eq_true rfl) dX7_differ_58 ?_
        refine v_isub hC dX7_differ_61 ?_
        exact v_iretM hC hT (by rw [mfDiffer, if_pos ⟨h5, h12⟩, tnI (j := w) (by omega), tnI (j := m) (by omega), if_neg h35, mDif]) dX7_differ_62
      · refine v_aload_0 hC dX7_differ_38 ?_
        refine v_ldc hC kX7_121 dX7_differ_39 ?_
        refine v_cv1r hC lX7_63 ⟨by decide, 7, _, rfl, rfl, fun _ _ _ => ⟨_, rfl⟩⟩ (k_X7_found _) ⟨Nat.le_of_ble_eq_true rfl, Nat.le_of_ble_eq_true rfl, rfl, rfl⟩ (Nat.le_of_ble_eq_true rfl) dX7_differ_41 ?_
        refine v_goto (tgt := 62) hC dX7_differ_44 (by decide) ?_
        exact v_iretM hC hT (by rw [mfDiffer, if_pos ⟨h5, h12⟩, tnI (j := w) (by omega), tnI (j := m) (by omega), if_pos h35]) dX7_differ_62
    · refine v_aload_0 hC dX7_differ_15 ?_
      refine v_ldc hC kX7_62 dX7_differ_16 ?_
      refine v_cv1r hC lX7_63 ⟨by decide, 7, _, rfl, rfl, fun _ _ _ => ⟨_, rfl⟩⟩ (k_X7_found _) ⟨Nat.le_of_ble_eq_true rfl, Nat.le_of_ble_eq_true rfl, rfl, rfl⟩ (Nat.le_of_ble_eq_true rfl) dX7_differ_18 ?_
      exact v_iretM hC hT (by rw [mfDiffer, if_neg (fun q => h12 q.2)]) dX7_differ_21
theorem tmWM {μ : St} (h : WM μ) {i g : Nat} (hi : i < 2) (hg : g < 12) (f : Int32) : WM (mTm μ i g f) := it0_inv WM 10 h (fun d _ hd q => q.put (by simp only [mcl]; exact pOK_mid (by omega) (by omega)))
theorem oldWM {μ : St} (h : WM μ) (i g : Nat) : WM (mOld μ i g) := it0_inv WM 10 h (fun d _ hd q => q.oth (by decide) (by decide))
theorem mfitWM {μ : St} (h : WM μ) {i g : Nat} (hi : i < 2) (hg : g < 12) (n : Nat) : WM (it0 (fmFit i g) n ((nI 0, 0), mOld μ i g)).2 := by
  refine it0_inv (fun q : (Int32 × Int64) × St => WM q.2) n (oldWM h i g) (fun j q _ h => ?_)
  unfold fmFit
  split <;> exact tmWM h hi hg _
theorem lcm_lt0 {x y : Int64} : lg_cmp x y < 0 ↔ x < y := by rw [← lcm_lt, Int32.not_le]
theorem k_X7_fit {l : Launch} {E : ET} {σ μ : St} (hwm : WM μ) (i g : Int32) : Ct l E MX7_fit [.ref (adr E 54), .int i, .int g] (σ) (μ) (some (.int (mfFit μ i g).1)) (σ) ((mfFit μ i g).2) := by
  have h10 := hwm.n10
  have l10 := hwm.l10
  refine Ct.of (L := [some (.ref (adr E 54)), some (.int i), some (.int g), none, none, none, none, none, none]) (by decide) rfl (Nat.le_of_ble_eq_true rfl) rfl (fun X hC hT => ?_)
  refine v_iload_1 hC dX7_fit_0 ?_
  refine v_iconst hC dX7_fit_1 ic_0 ?_
  refine v_iconst hC dX7_fit_2 ic_1 ?_
  refine v_cs3r hC lX7_48 (k_X7_in _ _ _) ⟨Nat.le_of_ble_eq_true rfl, Nat.le_of_ble_eq_true rfl, rfl, rfl⟩ (Nat.le_of_ble_eq_true rfl) dX7_fit_3 ?_
  refine v_ifeqb (tgt := 19) hC dX7_fit_6 (by decide) (fun h6 => ?_) (fun h6 => ?_)
  · refine v_aload_0 hC dX7_fit_19 ?_
    refine v_ldc hC kX7_62 dX7_fit_20 ?_
    refine v_cv1r hC lX7_63 ⟨by decide, 7, _, rfl, rfl, fun _ _ _ => ⟨_, rfl⟩⟩ (k_X7_found _) ⟨Nat.le_of_ble_eq_true rfl, Nat.le_of_ble_eq_true rfl, rfl, rfl⟩ (Nat.le_of_ble_eq_true rfl) dX7_fit_22 ?_
    exact v_iretM hC hT (by rw [mfFit, if_neg (fun q => h6 q.1)]) dX7_fit_25
  · refine v_iload_2 hC dX7_fit_9 ?_
    refine v_iconst hC dX7_fit_10 ic_0 ?_
    refine v_bipush hC dX7_fit_11 bp_11 ?_
    refine v_cs3r hC lX7_48 (k_X7_in _ _ _) ⟨Nat.le_of_ble_eq_true rfl, Nat.le_of_ble_eq_true rfl, rfl, rfl⟩ (Nat.le_of_ble_eq_true rfl) dX7_fit_13 ?_
    refine v_ifneb (tgt := 26) hC dX7_fit_16 (by decide) (fun h16 => ?_) (fun h16 => ?_)
    · obtain ⟨i, hi, rfl⟩ := isR_nat (by decide) h6
      obtain ⟨g, hg, rfl⟩ := isR_nat (by decide) h16
      refine v_aload_0 hC dX7_fit_26 ?_
      refine v_get hC fX7_7 (by decide) rfl rfl dX7_fit_27 ?_
      refine v_sipush hC dX7_fit_30 sp_1088 ?_
      refine w_iald (k := 1) hC N_1 (by first | omega | (simp only [mcl, mRd]; omega)) dX7_fit_33 ?_
      refine v_ifne (tgt := 44) hC dX7_fit_34 (by decide) (fun h34 => ?_) (fun h34 => ?_)
      · refine v_iconst hC dX7_fit_44 ic_0 ?_
        refine v_istore_3 hC (by decide) rfl dX7_fit_45 ?_
        refine up_loop (fun d : Nat => V X E 46 [some (.ref (adr E 54)), some (.int (nI i)), some (.int (nI g)), some (.int (nI d)), none, none, none, none, none] [] (σ) (it0 (fmOld i g) d μ)) (Nat.zero_le (10)) ?_ (fun d _ hd ih => ?_)
        · refine v_iload_3 hC dX7_fit_46 ?_
          refine v_bipush hC dX7_fit_47 bp_10 ?_
          refine v_icge (tgt := 75) hC dX7_fit_49 (by decide) (fun h49 => ?_) (fun h49 => absurd (Int32.le_refl _) h49)
          refine v_lconst hC dX7_fit_75 rfl ?_
          refine v_lstore_3 hC (by decide) rfl dX7_fit_76 ?_
          refine v_iconst hC dX7_fit_77 ic_0 ?_
          refine v_istore_5 hC (by decide) rfl dX7_fit_78 ?_
          refine v_bipush hC dX7_fit_80 bp_50 ?_
          refine v_istore_6 hC (by decide) rfl dX7_fit_82 ?_
          refine up_loop (fun d : Nat => V X E 84 [some (.ref (adr E 54)), some (.int (nI i)), some (.int (nI g)), some (.long (it0 (fmFit i g) d ((nI 0, 0), mOld μ i g)).1.2), none, some (.int (it0 (fmFit i g) d ((nI 0, 0), mOld μ i g)).1.1), some (.int (nI (50 + 10 * d))), none, none] [] (σ) ((it0 (fmFit i g) d ((nI 0, 0), mOld μ i g)).2)) (Nat.zero_le (11)) ?_ (fun d _ hd ih => ?_)
          · refine v_iload_6 hC dX7_fit_84 ?_
            refine v_sipush hC dX7_fit_86 sp_150 ?_
            refine v_icgt (tgt := 134) hC dX7_fit_89 (by decide) (fun h89 => ?_) (fun h89 => absurd (by decide) h89)
            refine v_aload_0 hC dX7_fit_134 ?_
            refine v_iload_1 hC dX7_fit_135 ?_
            refine v_iload_2 hC dX7_fit_136 ?_
            refine v_iload_5 hC dX7_fit_137 ?_
            refine v_cv3 hC lX7_144 ⟨by decide, 7, _, rfl, rfl, fun _ _ _ => ⟨_, rfl⟩⟩ (k_X7_times (by omega) (by omega) _) ⟨Nat.le_of_ble_eq_true rfl, Nat.le_of_ble_eq_true rfl, rfl, rfl⟩ (Nat.le_of_ble_eq_true rfl) dX7_fit_139 ?_
            refine v_iload_5 hC dX7_fit_142 ?_
            exact v_iretM hC hT (by rw [mfFit, if_pos ⟨h6, h16⟩, if_neg h34, tnI (j := i) (by omega), tnI (j := g) (by omega), mFit, lmFit]) dX7_fit_144
          · have hwq := tmWM (mfitWM hwm (i := i) (g := g) (by omega) (by omega) d) (i := i) (g := g) (by omega) (by omega) (nI (50 + 10 * d))
            refine v_iload_6 hC dX7_fit_84 ?_
            refine v_sipush hC dX7_fit_86 sp_150 ?_
            refine v_icgt (tgt := 134) hC dX7_fit_89 (by decide) (fun h89 => absurd h89 (nI_nlt (by omega) (by omega))) (fun h89 => ?_)
            refine v_aload_0 hC dX7_fit_92 ?_
            refine v_iload_1 hC dX7_fit_93 ?_
            refine v_iload_2 hC dX7_fit_94 ?_
            refine v_iload_6 hC dX7_fit_95 ?_
            refine v_cv3 hC lX7_144 ⟨by decide, 7, _, rfl, rfl, fun _ _ _ => ⟨_, rfl⟩⟩ (k_X7_times (by omega) (by omega) _) ⟨Nat.le_of_ble_eq_true rfl, Nat.le_of_ble_eq_true rfl, rfl, rfl⟩ (Nat.le_of_ble_eq_true rfl) dX7_fit_97 ?_
            refine v_aload_0 hC dX7_fit_100 ?_
            refine v_cv0r hC lX7_148 ⟨by decide, 7, _, rfl, rfl, fun _ _ _ => ⟨_, rfl⟩⟩ (k_X7_squaresNow hwq) ⟨Nat.le_of_ble_eq_true rfl, Nat.le_of_ble_eq_true rfl, rfl, rfl⟩ (Nat.le_of_ble_eq_true rfl) dX7_fit_101 ?_
            refine v_lstore_7 hC (by decide) rfl dX7_fit_104 ?_
            refine v_iload_5 hC dX7_fit_106 ?_
            refine v_ifeq (tgt := 121) hC dX7_fit_108 (by decide) (fun h108 => ?_) (fun h108 => ?_)
            · refine v_lload_7 hC dX7_fit_121 ?_
              refine v_lstore_3 hC (by decide) rfl dX7_fit_123 ?_
              refine v_iload_6 hC dX7_fit_124 ?_
              refine v_istore_5 hC (by decide) rfl dX7_fit_126 ?_
              refine v_iinc_6 hC (by decide) rfl dX7_fit_128 (ic10 d) ?_
              refine v_goto (tgt := 84) hC dX7_fit_131 (by decide) ?_
              rw [show it0 (fmFit i g) (d + 1) ((nI 0, 0), mOld μ i g) = _ from if_pos (Or.inl h108)] at ih
              exact v_forget_7 ih
            · refine v_lload_7 hC dX7_fit_111 ?_
              refine v_lload_3 hC dX7_fit_113 ?_
              refine v_lcmp hC dX7_fit_114 ?_
              refine v_iflt (tgt := 121) hC dX7_fit_115 (by decide) (fun h115 => ?_) (fun h115 => ?_)
              · refine v_lload_7 hC dX7_fit_121 ?_
                refine v_lstore_3 hC (by decide) rfl dX7_fit_123 ?_
                refine v_iload_6 hC dX7_fit_124 ?_
                refine v_istore_5 hC (by decide) rfl dX7_fit_126 ?_
                refine v_iinc_6 hC (by decide) rfl dX7_fit_128 (ic10 d) ?_
                refine v_goto (tgt := 84) hC dX7_fit_131 (by decide) ?_
                rw [show it0 (fmFit i g) (d + 1) ((nI 0, 0), mOld μ i g) = _ from if_pos (Or.inr (lcm_lt0.mp h115))] at ih
                exact v_forget_7 ih
              · refine v_goto (tgt := 128) hC dX7_fit_118 (by decide) ?_
                refine v_iinc_6 hC (by decide) rfl dX7_fit_128 (ic10 d) ?_
                refine v_goto (tgt := 84) hC dX7_fit_131 (by decide) ?_
                rw [show it0 (fmFit i g) (d + 1) ((nI 0, 0), mOld μ i g) = _ from if_neg (fun q => q.elim h108 (fun q => h115 (lcm_lt0.mpr q)))] at ih
                exact v_forget_7 ih
        · refine v_iload_3 hC dX7_fit_46 ?_
          refine v_bipush hC dX7_fit_47 bp_10 ?_
          refine v_icge (tgt := 75) hC dX7_fit_49 (by decide) (fun h49 => absurd h49 (nI_ge hd (by decide))) (fun h49 => ?_)
          refine v_aload_0 hC dX7_fit_52 ?_
          refine v_get hC fX7_37 (by decide) rfl rfl dX7_fit_53 ?_
          refine v_iload_3 hC dX7_fit_56 ?_
          refine v_aload_0 hC dX7_fit_57 ?_
          refine v_get hC fX7_7 (by decide) rfl rfl dX7_fit_58 ?_
          refine v_iload_1 hC dX7_fit_61 ?_
          refine v_iload_3 hC dX7_fit_62 ?_
          refine v_iload_2 hC dX7_fit_63 ?_
          refine v_cs3r hC lX7_81 (k_X7_cell) ⟨Nat.le_of_ble_eq_true rfl, Nat.le_of_ble_eq_true rfl, rfl, rfl⟩ (Nat.le_of_ble_eq_true rfl) dX7_fit_64 ?_
          refine w_iald (k := 1) hC N_1 (by first | omega | (simp only [mcl, mRd]; omega)) dX7_fit_67 ?_
          refine w_iast (k := 10) hC N_10 (by first | omega | (simp only [mcl, mRd]; omega)) dX7_fit_68 ?_
          refine v_iinc1_3 hC (by decide) rfl dX7_fit_69 ?_
          refine v_goto (tgt := 46) hC dX7_fit_72 (by decide) ?_
          exact ih
      · refine v_aload_0 hC dX7_fit_37 ?_
        refine v_ldc hC kX7_121 dX7_fit_38 ?_
        refine v_cv1r hC lX7_63 ⟨by decide, 7, _, rfl, rfl, fun _ _ _ => ⟨_, rfl⟩⟩ (k_X7_found _) ⟨Nat.le_of_ble_eq_true rfl, Nat.le_of_ble_eq_true rfl, rfl, rfl⟩ (Nat.le_of_ble_eq_true rfl) dX7_fit_40 ?_
        exact v_iretM hC hT (by rw [mfFit, if_pos ⟨h6, h16⟩, if_pos h34]) dX7_fit_43
    · refine v_aload_0 hC dX7_fit_19 ?_
      refine v_ldc hC kX7_62 dX7_fit_20 ?_
      refine v_cv1r hC lX7_63 ⟨by decide, 7, _, rfl, rfl, fun _ _ _ => ⟨_, rfl⟩⟩ (k_X7_found _) ⟨Nat.le_of_ble_eq_true rfl, Nat.le_of_ble_eq_true rfl, rfl, rfl⟩ (Nat.le_of_ble_eq_true rfl) dX7_fit_22 ?_
      exact v_iretM hC hT (by rw [mfFit, if_neg (fun q => h16 q.2)]) dX7_fit_25
theorem k_X7_squares {l : Launch} {E : ET} {σ μ : St} (hwm : WM μ) : Ct l E MX7_squares [.ref (adr E 54)] (σ) (μ) (some (.long (mSq μ))) (σ) (μ) := by
  refine Ct.of (L := [some (.ref (adr E 54))]) (by decide) rfl (Nat.le_of_ble_eq_true rfl) rfl (fun X hC hT => ?_)
  refine v_aload_0 hC dX7_squares_0 ?_
  refine v_cv0r hC lX7_148 ⟨by decide, 7, _, rfl, rfl, fun _ _ _ => ⟨_, rfl⟩⟩ (k_X7_squaresNow hwm) ⟨Nat.le_of_ble_eq_true rfl, Nat.le_of_ble_eq_true rfl, rfl, rfl⟩ (Nat.le_of_ble_eq_true rfl) dX7_squares_1 ?_
  exact v_lret hC hT rfl dX7_squares_4
theorem keep_tail {X : XT} {E : ET} {σ q0 μr : St} {r : Int32} (hC : Cx X E cX7_keep yX7_keep.cls 2 { frames := 1, cells := 0, slots := 0, locals := 20 }) (hT : Tx X E (some .int) (some (.int r)) σ μr) (h : (r, μr) = (wr q0 0 2 (nI 1) 1 1086, wr q0 0 2 (nI 1))) : V X E 27 [some (.ref (adr E 54)), some (.int (nI 1090))] [] σ q0 := by
  refine v_aload_0 hC dX7_keep_27 ?_
  refine v_iconst hC dX7_keep_28 ic_1 ?_
  refine w_putZ1 (k := 0) hC pX7_152 (by decide) rfl (Nat.le_of_ble_eq_true rfl) rfl dX7_keep_29 ?_
  refine v_aload_0 hC dX7_keep_32 ?_
  refine v_cv0r hC lX7_44 ⟨by decide, 7, _, rfl, rfl, fun _ _ _ => ⟨_, rfl⟩⟩ (k_X7_wells) ⟨Nat.le_of_ble_eq_true rfl, Nat.le_of_ble_eq_true rfl, rfl, rfl⟩ (Nat.le_of_ble_eq_true rfl) dX7_keep_33 ?_
  exact v_iretM hC hT h dX7_keep_36
theorem k_X7_keep {l : Launch} {E : ET} {σ μ : St} (hwm : WM μ)  : Ct l E MX7_keep [.ref (adr E 54)] (σ) (μ) (some (.int (mfKeep μ).1)) (σ) ((mfKeep μ).2) := by
  have h10 := hwm.n10
  have l10 := hwm.l10
  refine Ct.of (L := [some (.ref (adr E 54)), none]) (by decide) rfl (Nat.le_of_ble_eq_true rfl) rfl (fun X hC hT => ?_)
  refine v_iconst hC dX7_keep_0 ic_0 ?_
  refine v_istore_1 hC (by decide) rfl dX7_keep_1 ?_
  refine up_loop (fun d : Nat => V X E 2 [some (.ref (adr E 54)), some (.int (nI d))] [] (σ) (it0 fmK d μ)) (Nat.zero_le (1090)) ?_ (fun d _ hd ih => ?_)
  · refine v_iload_1 hC dX7_keep_2 ?_
    refine v_sipush hC dX7_keep_3 sp_1090 ?_
    refine v_icge (tgt := 27) hC dX7_keep_6 (by decide) (fun h6 => ?_) (fun h6 => absurd (Int32.le_refl _) h6)
    exact keep_tail hC hT (by rw [mfKeep])
  · refine v_iload_1 hC dX7_keep_2 ?_
    refine v_sipush hC dX7_keep_3 sp_1090 ?_
    refine v_icge (tgt := 27) hC dX7_keep_6 (by decide) (fun h6 => absurd h6 (nI_ge hd (by decide))) (fun h6 => ?_)
    refine v_aload_0 hC dX7_keep_9 ?_
    refine v_get hC fX7_13 (by decide) rfl rfl dX7_keep_10 ?_
    refine v_iload_1 hC dX7_keep_13 ?_
    refine v_aload_0 hC dX7_keep_14 ?_
    refine v_get hC fX7_7 (by decide) rfl rfl dX7_keep_15 ?_
    refine v_iload_1 hC dX7_keep_18 ?_
    refine w_iald (k := 1) hC N_1 (by first | omega | (simp only [mcl, mRd]; omega)) dX7_keep_19 ?_
    refine w_iast (k := 2) hC N_2 (by first | omega | (simp only [mcl, mRd]; omega)) dX7_keep_20 ?_
    refine v_iinc1_1 hC (by decide) rfl dX7_keep_21 ?_
    refine v_goto (tgt := 2) hC dX7_keep_24 (by decide) ?_
    exact ih
theorem k_X7_back {l : Launch} {E : ET} {σ μ : St} (hwm : WM μ)  : Ct l E MX7_back [.ref (adr E 54)] (σ) (μ) (some (.int (mfBack μ).1)) (σ) ((mfBack μ).2) := by
  have h10 := hwm.n10
  have l10 := hwm.l10
  refine Ct.of (L := [some (.ref (adr E 54)), none]) (by decide) rfl (Nat.le_of_ble_eq_true rfl) rfl (fun X hC hT => ?_)
  refine v_aload_0 hC dX7_back_0 ?_
  refine v_get hC fX7_152 (by decide) rfl rfl dX7_back_1 ?_
  refine v_ifne (tgt := 14) hC dX7_back_4 (by decide) (fun h4 => ?_) (fun h4 => ?_)
  · refine v_iconst hC dX7_back_14 ic_0 ?_
    refine v_istore_1 hC (by decide) rfl dX7_back_15 ?_
    refine up_loop (fun d : Nat => V X E 16 [some (.ref (adr E 54)), some (.int (nI d))] [] (σ) (it0 fmB d μ)) (Nat.zero_le (1090)) ?_ (fun d _ hd ih => ?_)
    · refine v_iload_1 hC dX7_back_16 ?_
      refine v_sipush hC dX7_back_17 sp_1090 ?_
      refine v_icge (tgt := 41) hC dX7_back_20 (by decide) (fun h20 => ?_) (fun h20 => absurd (Int32.le_refl _) h20)
      refine v_aload_0 hC dX7_back_41 ?_
      refine v_cv0r hC lX7_44 ⟨by decide, 7, _, rfl, rfl, fun _ _ _ => ⟨_, rfl⟩⟩ (k_X7_wells) ⟨Nat.le_of_ble_eq_true rfl, Nat.le_of_ble_eq_true rfl, rfl, rfl⟩ (Nat.le_of_ble_eq_true rfl) dX7_back_42 ?_
      exact v_iretM hC hT (by rw [mfBack, if_neg h4]) dX7_back_45
    · refine v_iload_1 hC dX7_back_16 ?_
      refine v_sipush hC dX7_back_17 sp_1090 ?_
      refine v_icge (tgt := 41) hC dX7_back_20 (by decide) (fun h20 => absurd h20 (nI_ge hd (by decide))) (fun h20 => ?_)
      refine v_aload_0 hC dX7_back_23 ?_
      refine v_get hC fX7_7 (by decide) rfl rfl dX7_back_24 ?_
      refine v_iload_1 hC dX7_back_27 ?_
      refine v_aload_0 hC dX7_back_28 ?_
      refine v_get hC fX7_13 (by decide) rfl rfl dX7_back_29 ?_
      refine v_iload_1 hC dX7_back_32 ?_
      refine w_iald (k := 2) hC N_2 (by first | omega | (simp only [mcl, mRd]; omega)) dX7_back_33 ?_
      refine w_iast (k := 1) hC N_1 (by first | omega | (simp only [mcl, mRd]; omega)) dX7_back_34 ?_
      refine v_iinc1_1 hC (by decide) rfl dX7_back_35 ?_
      refine v_goto (tgt := 16) hC dX7_back_38 (by decide) ?_
      exact ih
  · refine v_aload_0 hC dX7_back_7 ?_
    refine v_ldc hC kX7_121 dX7_back_8 ?_
    refine v_cv1r hC lX7_63 ⟨by decide, 7, _, rfl, rfl, fun _ _ _ => ⟨_, rfl⟩⟩ (k_X7_found _) ⟨Nat.le_of_ble_eq_true rfl, Nat.le_of_ble_eq_true rfl, rfl, rfl⟩ (Nat.le_of_ble_eq_true rfl) dX7_back_10 ?_
    exact v_iretM hC hT (by rw [mfBack, if_pos h4]) dX7_back_13
theorem k_X7_told {l : Launch} {E : ET} {σ μ : St} (hwm : WM μ) (q : Int32) : Ct l E MX7_told [.ref (adr E 54), .int q] (σ) (μ) (some (.int (mfTold μ q).1)) (σ) ((mfTold μ q).2) := by
  have h10 := hwm.n10
  have l10 := hwm.l10
  refine Ct.of (L := [some (.ref (adr E 54)), some (.int q)]) (by decide) rfl (Nat.le_of_ble_eq_true rfl) rfl (fun X hC hT => ?_)
  refine v_iload_1 hC dX7_told_0 ?_
  refine v_ifne (tgt := 11) hC dX7_told_1 (by decide) (fun h1 => ?_) (fun h1 => ?_)
  · refine v_iload_1 hC dX7_told_11 ?_
    refine v_iconst hC dX7_told_12 ic_1 ?_
    refine v_icne (tgt := 27) hC dX7_told_13 (by decide) (fun h13 => ?_) (fun h13 => ?_)
    · refine v_iload_1 hC dX7_told_27 ?_
      refine v_iconst hC dX7_told_28 ic_2 ?_
      refine v_icne (tgt := 43) hC dX7_told_29 (by decide) (fun h29 => ?_) (fun h29 => ?_)
      · refine v_iload_1 hC dX7_told_43 ?_
        refine v_iconst hC dX7_told_44 ic_3 ?_
        refine v_icne (tgt := 55) hC dX7_told_45 (by decide) (fun h45 => ?_) (fun h45 => ?_)
        · refine v_aload_0 hC dX7_told_55 ?_
          refine v_ldc hC kX7_62 dX7_told_56 ?_
          refine v_cv1r hC lX7_63 ⟨by decide, 7, _, rfl, rfl, fun _ _ _ => ⟨_, rfl⟩⟩ (k_X7_found _) ⟨Nat.le_of_ble_eq_true rfl, Nat.le_of_ble_eq_true rfl, rfl, rfl⟩ (Nat.le_of_ble_eq_true rfl) dX7_told_58 ?_
          exact v_iretM hC hT (by rw [mfTold, if_neg h1, if_neg h13, if_neg h29, if_neg h45]) dX7_told_61
        · refine v_aload_0 hC dX7_told_48 ?_
          refine v_get hC fX7_40 (by decide) rfl rfl dX7_told_49 ?_
          refine v_goto (tgt := 61) hC dX7_told_52 (by decide) ?_
          exact v_iretM hC hT (by rw [mfTold, if_neg h1, if_neg h13, if_neg h29, if_pos h45]) dX7_told_61
      · refine v_aload_0 hC dX7_told_32 ?_
        refine v_get hC fX7_7 (by decide) rfl rfl dX7_told_33 ?_
        refine v_sipush hC dX7_told_36 sp_1088 ?_
        refine w_iald (k := 1) hC N_1 (by first | omega | (simp only [mcl, mRd]; omega)) dX7_told_39 ?_
        refine v_goto (tgt := 61) hC dX7_told_40 (by decide) ?_
        exact v_iretM hC hT (by rw [mfTold, if_neg h1, if_neg h13, if_pos h29]) dX7_told_61
    · refine v_aload_0 hC dX7_told_16 ?_
      refine v_get hC fX7_7 (by decide) rfl rfl dX7_told_17 ?_
      refine v_sipush hC dX7_told_20 sp_1087 ?_
      refine w_iald (k := 1) hC N_1 (by first | omega | (simp only [mcl, mRd]; omega)) dX7_told_23 ?_
      refine v_goto (tgt := 61) hC dX7_told_24 (by decide) ?_
      exact v_iretM hC hT (by rw [mfTold, if_neg h1, if_pos h13]) dX7_told_61
  · refine v_aload_0 hC dX7_told_4 ?_
    refine v_cv0r hC lX7_44 ⟨by decide, 7, _, rfl, rfl, fun _ _ _ => ⟨_, rfl⟩⟩ (k_X7_wells) ⟨Nat.le_of_ble_eq_true rfl, Nat.le_of_ble_eq_true rfl, rfl, rfl⟩ (Nat.le_of_ble_eq_true rfl) dX7_told_5 ?_
    refine v_goto (tgt := 61) hC dX7_told_8 (by decide) ?_
    exact v_iretM hC hT (by rw [mfTold, if_pos h1]) dX7_told_61
