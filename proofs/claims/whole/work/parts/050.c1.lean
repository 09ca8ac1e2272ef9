theorem k_X6_within {l : Launch} {E : ET} {σ μ : St} (v p q : Int32) : Ct l E MX6_within [.int v, .int p, .int q] (σ) (μ) (some (.int (bI (p ≤ v ∧ v ≤ q)))) (σ) (μ) := by
  refine Ct.of (L := [some (.int v), some (.int p), some (.int q)]) (by decide) rfl (Nat.le_of_ble_eq_true rfl) rfl (fun X hC hT => ?_)
  refine v_iload_0 hC dX6_within_0 ?_
  refine v_iload_1 hC dX6_within_1 ?_
  refine v_iclt (tgt := 14) hC dX6_within_2 (by decide) (fun h2 => ?_) (fun h2 => ?_)
  · refine v_iconst hC dX6_within_14 ic_0 ?_
    exact v_zret hC hT (bI_f (fun q => absurd h2 (Int32.not_lt.mpr q.1))) dX6_within_15
  · refine v_iload_0 hC dX6_within_5 ?_
    refine v_iload_2 hC dX6_within_6 ?_
    refine v_icgt (tgt := 14) hC dX6_within_7 (by decide) (fun h7 => ?_) (fun h7 => ?_)
    · refine v_iconst hC dX6_within_14 ic_0 ?_
      exact v_zret hC hT (bI_f (fun q => absurd h7 (Int32.not_lt.mpr q.2))) dX6_within_15
    · refine v_iconst hC dX6_within_10 ic_1 ?_
      refine v_goto (tgt := 15) hC dX6_within_11 (by decide) ?_
      exact v_zret hC hT (bI_t ⟨Int32.not_lt.mp h2, Int32.not_lt.mp h7⟩) dX6_within_15
theorem k_X6_isMonth {l : Launch} {E : ET} {σ μ : St} (v : Int32) : Ct l E MX6_isMonth [.int v] (σ) (μ) (some (.int (bI (nI 0 ≤ v ∧ v ≤ nI 23)))) (σ) (μ) := by
  refine Ct.of (L := [some (.int v)]) (by decide) rfl (Nat.le_of_ble_eq_true rfl) rfl (fun X hC hT => ?_)
  refine v_iload_0 hC dX6_isMonth_0 ?_
  refine v_iconst hC dX6_isMonth_1 ic_0 ?_
  refine v_bipush hC dX6_isMonth_2 bp_23 ?_
  refine v_cs3r hC lX6_103 (k_X6_within _ _ _) ⟨Nat.le_of_ble_eq_true rfl, Nat.le_of_ble_eq_true rfl, rfl, rfl⟩ (Nat.le_of_ble_eq_true rfl) dX6_isMonth_4 ?_
  exact v_zret hC hT rfl dX6_isMonth_7
theorem k_X6_isKind {l : Launch} {E : ET} {σ μ : St} (v : Int32) : Ct l E MX6_isKind [.int v] (σ) (μ) (some (.int (bI (nI 0 ≤ v ∧ v ≤ nI 5)))) (σ) (μ) := by
  refine Ct.of (L := [some (.int v)]) (by decide) rfl (Nat.le_of_ble_eq_true rfl) rfl (fun X hC hT => ?_)
  refine v_iload_0 hC dX6_isKind_0 ?_
  refine v_iconst hC dX6_isKind_1 ic_0 ?_
  refine v_iconst hC dX6_isKind_2 ic_5 ?_
  refine v_cs3r hC lX6_103 (k_X6_within _ _ _) ⟨Nat.le_of_ble_eq_true rfl, Nat.le_of_ble_eq_true rfl, rfl, rfl⟩ (Nat.le_of_ble_eq_true rfl) dX6_isKind_3 ?_
  exact v_zret hC hT rfl dX6_isKind_6
theorem k_X6_isPlace {l : Launch} {E : ET} {σ μ : St} (v : Int32) : Ct l E MX6_isPlace [.int v] (σ) (μ) (some (.int (bI (nI 0 ≤ v ∧ v ≤ nI 30)))) (σ) (μ) := by
  refine Ct.of (L := [some (.int v)]) (by decide) rfl (Nat.le_of_ble_eq_true rfl) rfl (fun X hC hT => ?_)
  refine v_iload_0 hC dX6_isPlace_0 ?_
  refine v_iconst hC dX6_isPlace_1 ic_0 ?_
  refine v_bipush hC dX6_isPlace_2 bp_30 ?_
  refine v_cs3r hC lX6_103 (k_X6_within _ _ _) ⟨Nat.le_of_ble_eq_true rfl, Nat.le_of_ble_eq_true rfl, rfl, rfl⟩ (Nat.le_of_ble_eq_true rfl) dX6_isPlace_4 ?_
  exact v_zret hC hT rfl dX6_isPlace_7
theorem k_X6_isHeadBound {l : Launch} {E : ET} {σ μ : St} (v : Int32) : Ct l E MX6_isHeadBound [.int v] (σ) (μ) (some (.int (bI ((-100000) ≤ v ∧ v ≤ 100000)))) (σ) (μ) := by
  refine Ct.of (L := [some (.int v)]) (by decide) rfl (Nat.le_of_ble_eq_true rfl) rfl (fun X hC hT => ?_)
  refine v_iload_0 hC dX6_isHeadBound_0 ?_
  refine v_ldcw hC kX6_284 dX6_isHeadBound_1 ?_
  refine v_ldcw hC kX6_285 dX6_isHeadBound_4 ?_
  refine v_cs3r hC lX6_103 (k_X6_within _ _ _) ⟨Nat.le_of_ble_eq_true rfl, Nat.le_of_ble_eq_true rfl, rfl, rfl⟩ (Nat.le_of_ble_eq_true rfl) dX6_isHeadBound_7 ?_
  exact v_zret hC hT rfl dX6_isHeadBound_10
theorem k_X6_isAmount {l : Launch} {E : ET} {σ μ : St} (v : Int32) : Ct l E MX6_isAmount [.int v] (σ) (μ) (some (.int (bI (nI 0 ≤ v ∧ v ≤ nI 1000)))) (σ) (μ) := by
  refine Ct.of (L := [some (.int v)]) (by decide) rfl (Nat.le_of_ble_eq_true rfl) rfl (fun X hC hT => ?_)
  refine v_iload_0 hC dX6_isAmount_0 ?_
  refine v_iconst hC dX6_isAmount_1 ic_0 ?_
  refine v_sipush hC dX6_isAmount_2 sp_1000 ?_
  refine v_cs3r hC lX6_103 (k_X6_within _ _ _) ⟨Nat.le_of_ble_eq_true rfl, Nat.le_of_ble_eq_true rfl, rfl, rfl⟩ (Nat.le_of_ble_eq_true rfl) dX6_isAmount_5 ?_
  exact v_zret hC hT rfl dX6_isAmount_8
theorem k_X6_isLayer {l : Launch} {E : ET} {σ μ : St} (v : Int32) : Ct l E MX6_isLayer [.int v] (σ) (μ) (some (.int (bI (nI 0 ≤ v ∧ v ≤ nI 1)))) (σ) (μ) := by
  refine Ct.of (L := [some (.int v)]) (by decide) rfl (Nat.le_of_ble_eq_true rfl) rfl (fun X hC hT => ?_)
  refine v_iload_0 hC dX6_isLayer_0 ?_
  refine v_iconst hC dX6_isLayer_1 ic_0 ?_
  refine v_iconst hC dX6_isLayer_2 ic_1 ?_
  refine v_cs3r hC lX6_103 (k_X6_within _ _ _) ⟨Nat.le_of_ble_eq_true rfl, Nat.le_of_ble_eq_true rfl, rfl, rfl⟩ (Nat.le_of_ble_eq_true rfl) dX6_isLayer_3 ?_
  exact v_zret hC hT rfl dX6_isLayer_6
theorem k_X6_isAge {l : Launch} {E : ET} {σ μ : St} (v : Int32) : Ct l E MX6_isAge [.int v] (σ) (μ) (some (.int (bI (nI 0 ≤ v ∧ v ≤ nI 11)))) (σ) (μ) := by
  refine Ct.of (L := [some (.int v)]) (by decide) rfl (Nat.le_of_ble_eq_true rfl) rfl (fun X hC hT => ?_)
  refine v_iload_0 hC dX6_isAge_0 ?_
  refine v_iconst hC dX6_isAge_1 ic_0 ?_
  refine v_bipush hC dX6_isAge_2 bp_11 ?_
  refine v_cs3r hC lX6_103 (k_X6_within _ _ _) ⟨Nat.le_of_ble_eq_true rfl, Nat.le_of_ble_eq_true rfl, rfl, rfl⟩ (Nat.le_of_ble_eq_true rfl) dX6_isAge_4 ?_
  exact v_zret hC hT rfl dX6_isAge_7
theorem k_X6_isSheet {l : Launch} {E : ET} {σ μ : St} (v : Int32) : Ct l E MX6_isSheet [.int v] (σ) (μ) (some (.int (bI (nI 0 ≤ v ∧ v ≤ nI 3)))) (σ) (μ) := by
  refine Ct.of (L := [some (.int v)]) (by decide) rfl (Nat.le_of_ble_eq_true rfl) rfl (fun X hC hT => ?_)
  refine v_iload_0 hC dX6_isSheet_0 ?_
  refine v_iconst hC dX6_isSheet_1 ic_0 ?_
  refine v_iconst hC dX6_isSheet_2 ic_3 ?_
  refine v_cs3r hC lX6_103 (k_X6_within _ _ _) ⟨Nat.le_of_ble_eq_true rfl, Nat.le_of_ble_eq_true rfl, rfl, rfl⟩ (Nat.le_of_ble_eq_true rfl) dX6_isSheet_3 ?_
  exact v_zret hC hT rfl dX6_isSheet_6
theorem k_X6_isWell {l : Launch} {E : ET} {σ μ : St} (v : Int32) : Ct l E MX6_isWell [.ref (adr E 0), .int v] (σ) (μ) (some (.int (bI (nI 0 ≤ v ∧ v ≤ σ 2 0 - nI 1)))) (σ) (μ) := by
  refine Ct.of (L := [some (.ref (adr E 0)), some (.int v)]) (by decide) rfl (Nat.le_of_ble_eq_true rfl) rfl (fun X hC hT => ?_)
  refine v_iload_1 hC dX6_isWell_0 ?_
  refine v_iconst hC dX6_isWell_1 ic_0 ?_
  refine v_aload_0 hC dX6_isWell_2 ?_
  refine v_get hC fX6_10 (by decide) rfl rfl dX6_isWell_3 ?_
  refine v_get hC fX6_49 (by decide) rfl rfl dX6_isWell_6 ?_
  refine v_get hC fX6_53 (by decide) rfl rfl dX6_isWell_9 ?_
  refine v_iconst hC dX6_isWell_12 ic_1 ?_
  refine v_isub hC dX6_isWell_13 ?_
  refine v_cs3r hC lX6_103 (k_X6_within _ _ _) ⟨Nat.le_of_ble_eq_true rfl, Nat.le_of_ble_eq_true rfl, rfl, rfl⟩ (Nat.le_of_ble_eq_true rfl) dX6_isWell_14 ?_
  exact v_zret hC hT rfl dX6_isWell_17
theorem k_X6_finding {l : Launch} {E : ET} {σ μ : St} (v : Int32) : Ct l E MX6_finding [.ref (adr E 0), .int v] (σ) (μ) (some (.int v)) (fnd σ) (μ) := by
  refine Ct.of (L := [some (.ref (adr E 0)), some (.int v)]) (by decide) rfl (Nat.le_of_ble_eq_true rfl) rfl (fun X hC hT => ?_)
  refine v_aload_0 hC dX6_finding_0 ?_
  refine v_dup hC rfl dX6_finding_1 ?_
  refine v_get hC fX6_30 (by decide) rfl rfl dX6_finding_2 ?_
  refine v_iconst hC dX6_finding_5 ic_1 ?_
  refine v_iadd hC dX6_finding_6 ?_
  refine v_put hC pX6_30 (by decide) rfl (Nat.le_of_ble_eq_true rfl) rfl dX6_finding_7 ?_
  refine v_iload_1 hC dX6_finding_10 ?_
  exact v_iret hC hT rfl dX6_finding_11
