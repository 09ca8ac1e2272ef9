theorem k_X7_serve {l : Launch} {E : ET} {σ μ : St} (hwm : WM μ) (m : Int32) : Ct l E MX7_serve [.ref (adr E 54), .int m] (σ) (μ) (some (.int (mfServe μ m).1)) (σ) ((mfServe μ m).2) := by
  have l10 := hwm.l10
  refine Ct.of (L := [some (.ref (adr E 54)), some (.int m), none, none, none, none, none, none, none, none, none, none]) (by decide) rfl (Nat.le_of_ble_eq_true rfl) rfl (fun X hC hT => ?_)
  refine v_iload_1 hC dX7_serve_0 ?_
  refine v_cs1r hC lX7_98 (k_X7_isMonth _) ⟨Nat.le_of_ble_eq_true rfl, Nat.le_of_ble_eq_true rfl, rfl, rfl⟩ (Nat.le_of_ble_eq_true rfl) dX7_serve_1 ?_
  refine v_ifneb (tgt := 14) hC dX7_serve_4 (by decide) (fun h4 => ?_) (fun h4 => ?_)
  · obtain ⟨m, hm, rfl⟩ := isR_nat (by decide) h4
    refine v_aload_0 hC dX7_serve_14 ?_
    refine v_get hC fX7_7 (by decide) rfl rfl dX7_serve_15 ?_
    refine v_sipush hC dX7_serve_18 sp_1087 ?_
    refine w_iald (k := 1) hC N_1 (by first | omega | (simp only [mcl, mRd]; omega)) dX7_serve_21 ?_
    refine v_top (hwm.l) ?_
    refine v_istore_2 hC (by decide) rfl dX7_serve_22 ?_
    refine v_iconst hC dX7_serve_23 ic_0 ?_
    refine v_istore_3 hC (by decide) rfl dX7_serve_24 ?_
    refine up_loop (fun d : Nat => V X E 25 [some (.ref (adr E 54)), some (.int (nI m)), some (.int (nI (mL μ))), some (.int (nI d)), none, none, none, none, none, none, none, none] [] (σ) (it0 (gmU m) d μ)) (Nat.zero_le (mL μ)) ?_ (fun d _ hd ih => ?_)
    · refine v_iload_3 hC dX7_serve_25 ?_
      refine v_iload_2 hC dX7_serve_26 ?_
      refine v_icge (tgt := 73) hC dX7_serve_27 (by decide) (fun h27 => ?_) (fun h27 => absurd (Int32.le_refl _) h27)
      refine v_iconst hC dX7_serve_73 ic_0 ?_
      refine v_istore_3 hC (by decide) rfl dX7_serve_74 ?_
      refine up_loop (fun d : Nat => V X E 75 [some (.ref (adr E 54)), some (.int (nI m)), some (.int (nI (mL μ))), some (.int (nI d)), none, none, none, none, none, none, none, none] [] (σ) (it0 fmG d (mUns μ m))) (Nat.zero_le (10)) ?_ (fun d _ hd ih => ?_)
      · refine v_iload_3 hC dX7_serve_75 ?_
        refine v_bipush hC dX7_serve_76 bp_10 ?_
        refine v_icge (tgt := 94) hC dX7_serve_78 (by decide) (fun h78 => ?_) (fun h78 => absurd (Int32.le_refl _) h78)
        refine v_iconst hC dX7_serve_94 ic_0 ?_
        refine v_istore_3 hC (by decide) rfl dX7_serve_95 ?_
        refine v_iconst hC dX7_serve_96 ic_0 ?_
        refine v_istore_4 hC (by decide) rfl dX7_serve_97 ?_
        refine v_iconst hC dX7_serve_99 ic_0 ?_
        refine v_istore_5 hC (by decide) rfl dX7_serve_100 ?_
        refine up_loop (fun d : Nat => V X E 102 [some (.ref (adr E 54)), some (.int (nI m)), some (.int (nI (mL μ))), some (.int (nI (mSv μ m d).1.2)), some (.int (mSv μ m d).1.1), some (.int (nI d)), none, none, none, none, none, none] [] (σ) ((mSv μ m d).2)) (Nat.zero_le (mL μ)) ?_ (fun d _ hd ih => ?_)
        · refine v_iload_5 hC dX7_serve_102 ?_
          refine v_iload_2 hC dX7_serve_104 ?_
          refine v_icge (tgt := 363) hC dX7_serve_105 (by decide) (fun h105 => ?_) (fun h105 => absurd (Int32.le_refl _) h105)
          refine v_aload_0 hC dX7_serve_363 ?_
          refine v_get hC fX7_7 (by decide) rfl rfl dX7_serve_364 ?_
          refine v_sipush hC dX7_serve_367 sp_1089 ?_
          refine v_iload_2 hC dX7_serve_370 ?_
          refine w_iast (k := 1) hC N_1 (by first | omega | (simp only [mcl, mRd]; omega)) dX7_serve_371 ?_
          refine v_iload_4 hC dX7_serve_372 ?_
          exact v_iretM hC hT (by rw [mfServe, if_pos h4, tnI (j := m) (by omega), mServe]) dX7_serve_374
        · refine v_iload_5 hC dX7_serve_102 ?_
          refine v_iload_2 hC dX7_serve_104 ?_
          refine v_icge (tgt := 363) hC dX7_serve_105 (by decide) (fun h105 => absurd h105 (nI_ge hd (by omega))) (fun h105 => ?_)
          obtain ⟨hs1, hs2, hs3⟩ := sv_inv hwm (fr := m) (by omega) d (by omega)
          have e := hs1.l
          rw [← e] at ih ⊢
          exact sv_turn hC (hs1.wm hwm) hs2 (by rw [e]; exact ctb_ex (by omega)) (by omega) ih
      · refine v_iload_3 hC dX7_serve_75 ?_
        refine v_bipush hC dX7_serve_76 bp_10 ?_
        refine v_icge (tgt := 94) hC dX7_serve_78 (by decide) (fun h78 => absurd h78 (nI_ge hd (by decide))) (fun h78 => ?_)
        refine v_aload_0 hC dX7_serve_81 ?_
        refine v_get hC fX7_34 (by decide) rfl rfl dX7_serve_82 ?_
        refine v_iload_3 hC dX7_serve_85 ?_
        refine v_iconst hC dX7_serve_86 ic_0 ?_
        refine w_iast (k := 9) hC N_9 (by first | omega | (simp only [mcl, mRd]; omega)) dX7_serve_87 ?_
        refine v_iinc1_3 hC (by decide) rfl dX7_serve_88 ?_
        refine v_goto (tgt := 75) hC dX7_serve_91 (by decide) ?_
        exact ih
    · refine v_iload_3 hC dX7_serve_25 ?_
      refine v_iload_2 hC dX7_serve_26 ?_
      refine v_icge (tgt := 73) hC dX7_serve_27 (by decide) (fun h27 => absurd h27 (nI_ge hd (by omega))) (fun h27 => ?_)
      refine v_iload_1 hC dX7_serve_30 ?_
      refine v_istore_4 hC (by decide) rfl dX7_serve_31 ?_
      refine up_loop (fun e : Nat => V X E 33 [some (.ref (adr E 54)), some (.int (nI m)), some (.int (nI (mL μ))), some (.int (nI d)), some (.int (nI (m + e))), none, none, none, none, none, none, none] [] (σ) (it (fmU (mlw (it0 (gmU m) d μ) d)) m e (it0 (gmU m) d μ))) (Nat.zero_le (24 - m)) ?_ (fun e _ he ih2 => ?_)
      · refine v_iload_4 hC dX7_serve_33 ?_
        refine v_bipush hC dX7_serve_35 bp_24 ?_
        refine v_icge (tgt := 67) hC dX7_serve_37 (by decide) (fun h37 => ?_) (fun h37 => absurd (nI_le (by omega) (by omega)) h37)
        refine v_iinc1_3 hC (by decide) rfl dX7_serve_67 ?_
        refine v_goto (tgt := 25) hC dX7_serve_70 (by decide) ?_
        exact v_forget_4 ih
      · have hwq : WM (it0 (gmU m) d μ) := (gmU_sv (by omega) hwm (by omega)).wm hwm
        have hw10 : mlw (it0 (gmU m) d μ) d < 10 := hwq.w10 (by omega)
        have ew : (it (fmU (mlw (it0 (gmU m) d μ) d)) m e (it0 (gmU m) d μ)) 1 (566 + 4 * d + 0) = nI (mlw (it0 (gmU m) d μ) d) := by rw [((fmU_sv hw10 (by omega) _ (by omega)).2.1 d (by omega)).1]; exact hwq.w (by omega)
        refine v_iload_4 hC dX7_serve_33 ?_
        refine v_bipush hC dX7_serve_35 bp_24 ?_
        refine v_icge (tgt := 67) hC dX7_serve_37 (by decide) (fun h37 => absurd h37 (nI_ge (by omega) (by omega))) (fun h37 => ?_)
        refine v_aload_0 hC dX7_serve_40 ?_
        refine v_get hC fX7_7 (by decide) rfl rfl dX7_serve_41 ?_
        refine v_bipush hC dX7_serve_44 bp_50 ?_
        refine v_bipush hC dX7_serve_46 bp_24 ?_
        refine v_aload_0 hC dX7_serve_48 ?_
        refine v_iload_3 hC dX7_serve_49 ?_
        refine v_iconst hC dX7_serve_50 ic_0 ?_
        refine v_cv2r hC lX7_132 ⟨by decide, 7, _, rfl, rfl, fun _ _ _ => ⟨_, rfl⟩⟩ (k_X7_licenceOf (by omega) (by omega)) ⟨Nat.le_of_ble_eq_true rfl, Nat.le_of_ble_eq_true rfl, rfl, rfl⟩ (Nat.le_of_ble_eq_true rfl) dX7_serve_51 ?_
        refine v_top ew ?_
        refine v_imulN hC dX7_serve_54 ?_
        refine v_iaddN hC dX7_serve_55 ?_
        refine v_iload_4 hC dX7_serve_56 ?_
        refine v_iaddN hC dX7_serve_58 ?_
        refine v_iconst hC dX7_serve_59 ic_0 ?_
        refine w_iast (k := 1) hC N_1 (by first | omega | (simp only [mcl, mRd]; omega)) dX7_serve_60 ?_
        refine v_iinc1_4 hC (by decide) rfl dX7_serve_61 ?_
        refine v_goto (tgt := 33) hC dX7_serve_64 (by decide) ?_
        exact ih2
  · refine v_aload_0 hC dX7_serve_7 ?_
    refine v_ldc hC kX7_62 dX7_serve_8 ?_
    refine v_cv1r hC lX7_63 ⟨by decide, 7, _, rfl, rfl, fun _ _ _ => ⟨_, rfl⟩⟩ (k_X7_found _) ⟨Nat.le_of_ble_eq_true rfl, Nat.le_of_ble_eq_true rfl, rfl, rfl⟩ (Nat.le_of_ble_eq_true rfl) dX7_serve_10 ?_
    exact v_iretM hC hT (by rw [mfServe, if_neg h4]) dX7_serve_13
