theorem k_X2_isNoNumber {l : Launch} {E : ET} {σ μ : St} (b : Int32) : Ct l E MX2_isNoNumber [.int b] (σ) (μ) (some (.int (bI (noNum b)))) (σ) (μ) := by
  refine Ct.of (L := [some (.int b)]) (by decide) rfl (Nat.le_of_ble_eq_true rfl) rfl (fun X hC hT => ?_)
  refine v_iload_0 hC dX2_isNoNumber_0 ?_
  refine v_ldc hC kX2_41 dX2_isNoNumber_1 ?_
  refine v_iand hC dX2_isNoNumber_3 ?_
  refine v_ldc hC kX2_42 dX2_isNoNumber_4 ?_
  refine v_icle (tgt := 13) hC dX2_isNoNumber_6 (by decide) (fun h6 => ?_) (fun h6 => ?_)
  · refine v_iconst hC dX2_isNoNumber_13 ic_0 ?_
    exact v_zret hC hT (bI_f (Int32.not_lt.mpr h6)) dX2_isNoNumber_14
  · refine v_iconst hC dX2_isNoNumber_9 ic_1 ?_
    refine v_goto (tgt := 14) hC dX2_isNoNumber_10 (by decide) ?_
    exact v_zret hC hT (bI_t (Int32.not_le.mp h6)) dX2_isNoNumber_14
theorem k_X2_cut {l : Launch} {E : ET} {σ μ : St} (b : Int32) : Ct l E MX2_cut [.int b] (σ) (μ) (some (.int (cCut b))) (σ) (μ) := by
  refine Ct.of (L := [some (.int b), none, none]) (by decide) rfl (Nat.le_of_ble_eq_true rfl) rfl (fun X hC hT => ?_)
  refine v_iload_0 hC dX2_cut_0 ?_
  refine v_bipush hC dX2_cut_1 bp_23 ?_
  refine v_iushr hC dX2_cut_3 ?_
  refine v_sipush hC dX2_cut_4 sp_255 ?_
  refine v_iand hC dX2_cut_7 ?_
  refine v_bipush hC dX2_cut_8 bp_127 ?_
  refine v_isub hC dX2_cut_10 ?_
  refine v_istore_1 hC (by decide) rfl dX2_cut_11 ?_
  refine v_iload_1 hC dX2_cut_12 ?_
  refine v_ifge (tgt := 18) hC dX2_cut_13 (by decide) (fun h13 => ?_) (fun h13 => ?_)
  · refine v_iload_1 hC dX2_cut_18 ?_
    refine v_bipush hC dX2_cut_19 bp_22 ?_
    refine v_icle (tgt := 27) hC dX2_cut_21 (by decide) (fun h21 => ?_) (fun h21 => ?_)
    · refine v_iload_0 hC dX2_cut_27 ?_
      refine v_ldc hC kX2_44 dX2_cut_28 ?_
      refine v_iand hC dX2_cut_30 ?_
      refine v_ldc hC kX2_43 dX2_cut_31 ?_
      refine v_ior hC dX2_cut_33 ?_
      refine v_bipush hC dX2_cut_34 bp_23 ?_
      refine v_iload_1 hC dX2_cut_36 ?_
      refine v_isub hC dX2_cut_37 ?_
      refine v_ishr hC dX2_cut_38 ?_
      refine v_istore_2 hC (by decide) rfl dX2_cut_39 ?_
      refine v_iload_0 hC dX2_cut_40 ?_
      refine v_ifge (tgt := 49) hC dX2_cut_41 (by decide) (fun h41 => ?_) (fun h41 => ?_)
      · refine v_iload_2 hC dX2_cut_49 ?_
        exact v_iret hC hT (by rw [cCut, if_neg (Int32.not_lt.mpr h13), if_neg (Int32.not_lt.mpr h21), if_neg (Int32.not_lt.mpr h41)]) dX2_cut_50
      · refine v_iload_2 hC dX2_cut_44 ?_
        refine v_ineg hC dX2_cut_45 ?_
        refine v_goto (tgt := 50) hC dX2_cut_46 (by decide) ?_
        exact v_iret hC hT (by rw [cCut, if_neg (Int32.not_lt.mpr h13), if_neg (Int32.not_lt.mpr h21), if_pos (Int32.not_le.mp h41)]) dX2_cut_50
    · refine v_ldc hC kX2_43 dX2_cut_24 ?_
      exact v_iret hC hT (by rw [cCut, if_neg (Int32.not_lt.mpr h13), if_pos (Int32.not_le.mp h21)]) dX2_cut_26
  · refine v_iconst hC dX2_cut_16 ic_0 ?_
    exact v_iret hC hT (by rw [cCut, if_pos (Int32.not_le.mp h13)]) dX2_cut_17
theorem k_X2_isMissing {l : Launch} {E : ET} {σ μ : St} {s : Nat} (hs : s < 4)  : Ct l E MX2_isMissing [.ref (adr E (46 + s))] (σ) (μ) (some (.int (bI (σ (46 + s) 0 = 0)))) (σ) (μ) := by
  refine Ct.of (L := [some (.ref (adr E (46 + s)))]) (by decide) rfl (Nat.le_of_ble_eq_true rfl) rfl (fun X hC hT => ?_)
  refine v_aload_0 hC dX2_isMissing_0 ?_
  refine v_get hC fX2_9 (S_lt hs) (S_ent hs) rfl dX2_isMissing_1 ?_
  refine v_ifne (tgt := 11) hC dX2_isMissing_4 (by decide) (fun h4 => ?_) (fun h4 => ?_)
  · refine v_iconst hC dX2_isMissing_11 ic_0 ?_
    exact v_zret hC hT (bI_f h4) dX2_isMissing_12
  · refine v_iconst hC dX2_isMissing_7 ic_1 ?_
    refine v_goto (tgt := 12) hC dX2_isMissing_8 (by decide) ?_
    exact v_zret hC hT (bI_t h4) dX2_isMissing_12
theorem k_X2_whole {l : Launch} {E : ET} {σ μ : St} {s : Nat} (hs : s < 4) {i : Nat} (hi : i < 24) : Ct l E MX2_whole [.ref (adr E (46 + s)), .int (nI i)] (σ) (μ) (some (.int (cWhole σ s i))) (σ) (μ) := by
  refine Ct.of (L := [some (.ref (adr E (46 + s))), some (.int (nI i))]) (by decide) rfl (Nat.le_of_ble_eq_true rfl) rfl (fun X hC hT => ?_)
  refine v_aload_0 hC dX2_whole_0 ?_
  refine v_get hC fX2_9 (S_lt hs) (S_ent hs) rfl dX2_whole_1 ?_
  refine v_iconst hC dX2_whole_4 ic_2 ?_
  refine v_icne (tgt := 20) hC dX2_whole_5 (by decide) (fun h5 => ?_) (fun h5 => ?_)
  · refine v_aload_0 hC dX2_whole_20 ?_
    refine v_get hC fX2_18 (S_lt hs) (S_ent hs) rfl dX2_whole_21 ?_
    refine v_iload_1 hC dX2_whole_24 ?_
    refine v_iald hC (C_sh hs) (by omega) dX2_whole_25 ?_
    exact v_iret hC hT (by rw [cWhole, if_neg h5]) dX2_whole_26
  · refine v_aload_0 hC dX2_whole_8 ?_
    refine v_get hC fX2_18 (S_lt hs) (S_ent hs) rfl dX2_whole_9 ?_
    refine v_iload_1 hC dX2_whole_12 ?_
    refine v_iald hC (C_sh hs) (by omega) dX2_whole_13 ?_
    refine v_cs1r hC lX2_38 (k_X2_cut _) ⟨Nat.le_of_ble_eq_true rfl, Nat.le_of_ble_eq_true rfl, rfl, rfl⟩ (Nat.le_of_ble_eq_true rfl) dX2_whole_14 ?_
    refine v_goto (tgt := 26) hC dX2_whole_17 (by decide) ?_
    exact v_iret hC hT (by rw [cWhole, if_pos h5]) dX2_whole_26
theorem k_X2_start {l : Launch} {E : ET} {σ μ : St} {s : Nat} (hs : s < 4) (k n : Int32) : Ct l E MX2_start [.ref (adr E (46 + s)), .int k, .int n] (σ) (μ) (some (.int (cStart σ s k n (46 + s) 1))) (cStart σ s k n) (μ) := by
  refine Ct.of (L := [some (.ref (adr E (46 + s))), some (.int k), some (.int n)]) (by decide) rfl (Nat.le_of_ble_eq_true rfl) rfl (fun X hC hT => ?_)
  refine v_aload_0 hC dX2_start_0 ?_
  refine v_iload_1 hC dX2_start_1 ?_
  refine v_put hC pX2_9 (S_lt54 hs) (S_ent hs) (Nat.le_of_ble_eq_true rfl) (S_put0 hs) dX2_start_2 ?_
  refine v_aload_0 hC dX2_start_5 ?_
  refine v_iload_1 hC dX2_start_6 ?_
  refine v_ifne (tgt := 14) hC dX2_start_7 (by decide) (fun h7 => ?_) (fun h7 => ?_)
  · refine v_iload_2 hC dX2_start_14 ?_
    refine v_top (y := if k = 0 then nI 0 else n) (if_neg h7).symm ?_
    refine v_put hC pX2_15 (S_lt54 hs) (S_ent hs) (Nat.le_of_ble_eq_true rfl) (S_put1 hs) dX2_start_15 ?_
    refine v_aload_0 hC dX2_start_18 ?_
    refine v_get hC fX2_18 (S_lt hs) (S_ent hs) rfl dX2_start_19 ?_
    refine v_cs1r hC lX2_22 (k_X6_clear (C_sh hs)) ⟨Nat.le_of_ble_eq_true rfl, Nat.le_of_ble_eq_true rfl, rfl, rfl⟩ (Nat.le_of_ble_eq_true rfl) dX2_start_22 ?_
    refine v_pop hC rfl dX2_start_25 ?_
    refine v_aload_0 hC dX2_start_26 ?_
    refine v_get hC fX2_15 (S_lt hs) (S_ent hs) rfl dX2_start_27 ?_
    exact v_iret hC hT (by rw [cStart, cSt0]) dX2_start_30
  · refine v_iconst hC dX2_start_10 ic_0 ?_
    refine v_goto (tgt := 15) hC dX2_start_11 (by decide) ?_
    refine v_top (y := if k = 0 then nI 0 else n) (if_pos h7).symm ?_
    refine v_put hC pX2_15 (S_lt54 hs) (S_ent hs) (Nat.le_of_ble_eq_true rfl) (S_put1 hs) dX2_start_15 ?_
    refine v_aload_0 hC dX2_start_18 ?_
    refine v_get hC fX2_18 (S_lt hs) (S_ent hs) rfl dX2_start_19 ?_
    refine v_cs1r hC lX2_22 (k_X6_clear (C_sh hs)) ⟨Nat.le_of_ble_eq_true rfl, Nat.le_of_ble_eq_true rfl, rfl, rfl⟩ (Nat.le_of_ble_eq_true rfl) dX2_start_22 ?_
    refine v_pop hC rfl dX2_start_25 ?_
    refine v_aload_0 hC dX2_start_26 ?_
    refine v_get hC fX2_15 (S_lt hs) (S_ent hs) rfl dX2_start_27 ?_
    exact v_iret hC hT (by rw [cStart, cSt0]) dX2_start_30
theorem k_X2_write {l : Launch} {E : ET} {σ μ : St} {s : Nat} (hs : s < 4) {i : Nat} (hi : i < 24) (v : Int32) : Ct l E MX2_write [.ref (adr E (46 + s)), .int (nI i), .int v] (σ) (μ) (none) (wr σ (50 + s) i (cPutV σ s v)) (μ) := by
  refine Ct.of (L := [some (.ref (adr E (46 + s))), some (.int (nI i)), some (.int v)]) (by decide) rfl (Nat.le_of_ble_eq_true rfl) rfl (fun X hC hT => ?_)
  refine v_aload_0 hC dX2_write_0 ?_
  refine v_get hC fX2_18 (S_lt hs) (S_ent hs) rfl dX2_write_1 ?_
  refine v_iload_1 hC dX2_write_4 ?_
  refine v_aload_0 hC dX2_write_5 ?_
  refine v_get hC fX2_9 (S_lt hs) (S_ent hs) rfl dX2_write_6 ?_
  refine v_iconst hC dX2_write_9 ic_2 ?_
  refine v_icne (tgt := 25) hC dX2_write_10 (by decide) (fun h10 => ?_) (fun h10 => ?_)
  · refine v_iload_2 hC dX2_write_25 ?_
    refine v_top (y := cPutV σ s v) (if_neg (fun q => h10 q.1)).symm ?_
    refine v_iast hC (C_sh hs) (by omega) dX2_write_26 ?_
    exact v_vret hC hT rfl dX2_write_27
  · refine v_iload_2 hC dX2_write_13 ?_
    refine v_cs1r hC lX2_26 (k_X2_isNoNumber _) ⟨Nat.le_of_ble_eq_true rfl, Nat.le_of_ble_eq_true rfl, rfl, rfl⟩ (Nat.le_of_ble_eq_true rfl) dX2_write_14 ?_
    refine v_ifeqb (tgt := 25) hC dX2_write_17 (by decide) (fun h17 => ?_) (fun h17 => ?_)
    · refine v_iload_2 hC dX2_write_25 ?_
      refine v_top (y := cPutV σ s v) (if_neg (fun q => h17 q.2)).symm ?_
      refine v_iast hC (C_sh hs) (by omega) dX2_write_26 ?_
      exact v_vret hC hT rfl dX2_write_27
    · refine v_ldc hC kX2_30 dX2_write_20 ?_
      refine v_goto (tgt := 26) hC dX2_write_22 (by decide) ?_
      refine v_top (y := cPutV σ s v) (if_pos ⟨h10, h17⟩).symm ?_
      refine v_iast hC (C_sh hs) (by omega) dX2_write_26 ?_
      exact v_vret hC hT rfl dX2_write_27
theorem k_X2_hasPart {l : Launch} {E : ET} {σ μ : St} {s : Nat} (hs : s < 4) (f n : Int32) : Ct l E MX2_hasPart [.ref (adr E (46 + s)), .int f, .int n] (σ) (μ) (some (.int (bI (hasP σ s f n)))) (σ) (μ) := by
  refine Ct.of (L := [some (.ref (adr E (46 + s))), some (.int f), some (.int n)]) (by decide) rfl (Nat.le_of_ble_eq_true rfl) rfl (fun X hC hT => ?_)
  refine v_iload_1 hC dX2_hasPart_0 ?_
  refine v_iflt (tgt := 30) hC dX2_hasPart_1 (by decide) (fun h1 => ?_) (fun h1 => ?_)
  · refine v_iconst hC dX2_hasPart_30 ic_0 ?_
    exact v_zret hC hT (bI_f (fun q => q.1 h1)) dX2_hasPart_31
  · refine v_iload_2 hC dX2_hasPart_4 ?_
    refine v_iflt (tgt := 30) hC dX2_hasPart_5 (by decide) (fun h5 => ?_) (fun h5 => ?_)
    · refine v_iconst hC dX2_hasPart_30 ic_0 ?_
      exact v_zret hC hT (bI_f (fun q => q.2.1 h5)) dX2_hasPart_31
    · refine v_iload_1 hC dX2_hasPart_8 ?_
      refine v_aload_0 hC dX2_hasPart_9 ?_
      refine v_get hC fX2_15 (S_lt hs) (S_ent hs) rfl dX2_hasPart_10 ?_
      refine v_icgt (tgt := 30) hC dX2_hasPart_13 (by decide) (fun h13 => ?_) (fun h13 => ?_)
      · refine v_iconst hC dX2_hasPart_30 ic_0 ?_
        exact v_zret hC hT (bI_f (fun q => absurd h13 (Int32.not_lt.mpr q.2.2.1))) dX2_hasPart_31
      · refine v_iload_2 hC dX2_hasPart_16 ?_
        refine v_aload_0 hC dX2_hasPart_17 ?_
        refine v_get hC fX2_15 (S_lt hs) (S_ent hs) rfl dX2_hasPart_18 ?_
        refine v_iload_1 hC dX2_hasPart_21 ?_
        refine v_isub hC dX2_hasPart_22 ?_
        refine v_icgt (tgt := 30) hC dX2_hasPart_23 (by decide) (fun h23 => ?_) (fun h23 => ?_)
        · refine v_iconst hC dX2_hasPart_30 ic_0 ?_
          exact v_zret hC hT (bI_f (fun q => absurd h23 (Int32.not_lt.mpr q.2.2.2))) dX2_hasPart_31
        · refine v_iconst hC dX2_hasPart_26 ic_1 ?_
          refine v_goto (tgt := 31) hC dX2_hasPart_27 (by decide) ?_
          exact v_zret hC hT (bI_t ⟨h1, h5, Int32.not_lt.mp h13, Int32.not_lt.mp h23⟩) dX2_hasPart_31
theorem all_s {p : Nat → Prop} {d : Nat} (h : ∀ i, i < d → p i) (hd : p d) : ∀ i, i < d + 1 → p i := fun i hi => by
  rcases Nat.lt_or_ge i d with q | q
  · exact h i q
  · rw [show i = d by omega]; exact hd
theorem k_X2_startsWithNumbers {l : Launch} {E : ET} {σ μ : St} {s : Nat} (hs : s < 4) {n : Nat} (hn : n ≤ 24) : Ct l E MX2_startsWithNumbers [.ref (adr E (46 + s)), .int (nI n)] (σ) (μ) (some (.int (bI (swn σ s n)))) (σ) (μ) := by
  refine Ct.of (L := [some (.ref (adr E (46 + s))), some (.int (nI n)), none]) (by decide) rfl (Nat.le_of_ble_eq_true rfl) rfl (fun X hC hT => ?_)
  refine v_iconst hC dX2_startsWithNumbers_0 ic_0 ?_
  refine v_istore_2 hC (by decide) rfl dX2_startsWithNumbers_1 ?_
  refine up_loop (fun d : Nat => (∀ i, i < d → ¬ (σ (46 + s) 0 = nI 2 ∧ noNum (σ (50 + s) i))) → V X E 2 [some (.ref (adr E (46 + s))), some (.int (nI n)), some (.int (nI d))] [] (σ) (μ)) (Nat.zero_le (n)) (fun hx => ?_) (fun d _ hd ih hx => ?_) (fun i hi => absurd hi (Nat.not_lt_zero i))
  · refine v_iload_2 hC dX2_startsWithNumbers_2 ?_
    refine v_iload_1 hC dX2_startsWithNumbers_3 ?_
    refine v_icge (tgt := 35) hC dX2_startsWithNumbers_4 (by decide) (fun h4 => ?_) (fun h4 => absurd (Int32.le_refl _) h4)
    refine v_iconst hC dX2_startsWithNumbers_35 ic_1 ?_
    exact v_zret hC hT (bI_t hx) dX2_startsWithNumbers_36
  · refine v_iload_2 hC dX2_startsWithNumbers_2 ?_
    refine v_iload_1 hC dX2_startsWithNumbers_3 ?_
    refine v_icge (tgt := 35) hC dX2_startsWithNumbers_4 (by decide) (fun h4 => absurd h4 (nI_ge hd (by omega))) (fun h4 => ?_)
    refine v_aload_0 hC dX2_startsWithNumbers_7 ?_
    refine v_get hC fX2_9 (S_lt hs) (S_ent hs) rfl dX2_startsWithNumbers_8 ?_
    refine v_iconst hC dX2_startsWithNumbers_11 ic_2 ?_
    refine v_icne (tgt := 29) hC dX2_startsWithNumbers_12 (by decide) (fun h12 => ?_) (fun h12 => ?_)
    · refine v_iinc1_2 hC (by decide) rfl dX2_startsWithNumbers_29 ?_
      refine v_goto (tgt := 2) hC dX2_startsWithNumbers_32 (by decide) ?_
      exact ih (all_s hx (fun q => h12 q.1))
    · refine v_aload_0 hC dX2_startsWithNumbers_15 ?_
      refine v_get hC fX2_18 (S_lt hs) (S_ent hs) rfl dX2_startsWithNumbers_16 ?_
      refine v_iload_2 hC dX2_startsWithNumbers_19 ?_
      refine v_iald hC (C_sh hs) (by omega) dX2_startsWithNumbers_20 ?_
      refine v_cs1r hC lX2_26 (k_X2_isNoNumber _) ⟨Nat.le_of_ble_eq_true rfl, Nat.le_of_ble_eq_true rfl, rfl, rfl⟩ (Nat.le_of_ble_eq_true rfl) dX2_startsWithNumbers_21 ?_
      refine v_ifeqb (tgt := 29) hC dX2_startsWithNumbers_24 (by decide) (fun h24 => ?_) (fun h24 => ?_)
      · refine v_iinc1_2 hC (by decide) rfl dX2_startsWithNumbers_29 ?_
        refine v_goto (tgt := 2) hC dX2_startsWithNumbers_32 (by decide) ?_
        exact ih (all_s hx (fun q => h24 q.2))
      · refine v_iconst hC dX2_startsWithNumbers_27 ic_0 ?_
        exact v_zret hC hT (bI_f (fun q => q d hd ⟨h12, h24⟩)) dX2_startsWithNumbers_28
theorem k_X2_startsWithAmounts {l : Launch} {E : ET} {σ μ : St} {s : Nat} (hs : s < 4) {n : Nat} (hn : n ≤ 24) : Ct l E MX2_startsWithAmounts [.ref (adr E (46 + s)), .int (nI n)] (σ) (μ) (some (.int (bI (swa σ s n)))) (σ) (μ) := by
  refine Ct.of (L := [some (.ref (adr E (46 + s))), some (.int (nI n)), none]) (by decide) rfl (Nat.le_of_ble_eq_true rfl) rfl (fun X hC hT => ?_)
  refine v_iconst hC dX2_startsWithAmounts_0 ic_0 ?_
  refine v_istore_2 hC (by decide) rfl dX2_startsWithAmounts_1 ?_
  refine up_loop (fun d : Nat => (∀ i, i < d → isR (cWhole σ s i) 1000) → V X E 2 [some (.ref (adr E (46 + s))), some (.int (nI n)), some (.int (nI d))] [] (σ) (μ)) (Nat.zero_le (n)) (fun hx => ?_) (fun d _ hd ih hx => ?_) (fun i hi => absurd hi (Nat.not_lt_zero i))
  · refine v_iload_2 hC dX2_startsWithAmounts_2 ?_
    refine v_iload_1 hC dX2_startsWithAmounts_3 ?_
    refine v_icge (tgt := 26) hC dX2_startsWithAmounts_4 (by decide) (fun h4 => ?_) (fun h4 => absurd (Int32.le_refl _) h4)
    refine v_iconst hC dX2_startsWithAmounts_26 ic_1 ?_
    exact v_zret hC hT (bI_t hx) dX2_startsWithAmounts_27
  · refine v_iload_2 hC dX2_startsWithAmounts_2 ?_
    refine v_iload_1 hC dX2_startsWithAmounts_3 ?_
    refine v_icge (tgt := 26) hC dX2_startsWithAmounts_4 (by decide) (fun h4 => absurd h4 (nI_ge hd (by omega))) (fun h4 => ?_)
    refine v_aload_0 hC dX2_startsWithAmounts_7 ?_
    refine v_iload_2 hC dX2_startsWithAmounts_8 ?_
    refine v_cv1r hC lX2_31 (S_rcv hs rfl) (k_X2_whole hs (by omega)) ⟨Nat.le_of_ble_eq_true rfl, Nat.le_of_ble_eq_true rfl, rfl, rfl⟩ (Nat.le_of_ble_eq_true rfl) dX2_startsWithAmounts_9 ?_
    refine v_cs1r hC lX2_35 (k_X6_isAmount _) ⟨Nat.le_of_ble_eq_true rfl, Nat.le_of_ble_eq_true rfl, rfl, rfl⟩ (Nat.le_of_ble_eq_true rfl) dX2_startsWithAmounts_12 ?_
    refine v_ifneb (tgt := 20) hC dX2_startsWithAmounts_15 (by decide) (fun h15 => ?_) (fun h15 => ?_)
    · refine v_iinc1_2 hC (by decide) rfl dX2_startsWithAmounts_20 ?_
      refine v_goto (tgt := 2) hC dX2_startsWithAmounts_23 (by decide) ?_
      exact ih (all_s hx h15)
    · refine v_iconst hC dX2_startsWithAmounts_18 ic_0 ?_
      exact v_zret hC hT (bI_f (fun q => h15 (q d hd))) dX2_startsWithAmounts_19
