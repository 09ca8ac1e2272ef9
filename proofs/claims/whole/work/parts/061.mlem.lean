theorem sab_nI {x y : Nat} (hx : x < 1000000) (hy : y < 1000000) : sab (nI x - nI y) = nI (dst x y) := by
  have h := pk_sub_toInt (a := x) (b := y) (by omega) (by omega)
  unfold dst
  by_cases q : y ≤ x
  · rw [if_pos q, sab, if_pos (by rw [Int32.le_iff_toInt_le, h]; simp; omega), pk_sub q]
  · rw [if_neg q, sab, if_neg (by rw [Int32.le_iff_toInt_le, h]; simp; omega), ← pk_sub (by omega)]
    apply Int32.toBitVec_inj.mp
    simp
theorem gmx_nI {x y : Nat} (hx : x < 2 ^ 31) (hy : y < 2 ^ 31) : gmx (nI x) (nI y) = nI (max x y) := by
  unfold gmx
  by_cases h : x ≤ y
  · rw [if_pos (nI_le h hy), Nat.max_eq_right h]
  · rw [if_neg (nI_ge (by omega) hx), Nat.max_eq_left (by omega)]
theorem cap9_nI {x : Nat} (hx : x < 2 ^ 31) : cap9 (nI x) = nI (min x 9) := by
  unfold cap9
  by_cases h : x ≤ 9
  · rw [if_pos (nI_le h (by decide)), Nat.min_eq_left h]
  · rw [if_neg (nI_ge (by omega) hx), Nat.min_eq_right (by omega)]
theorem mAp_eq {μ : St} (h : WM μ) {a b : Nat} (ha : a < 10) (hb : b < 10) : mAp μ a b = nI (min (max (dst (μ 1 (0 + 5 * a + 1)).toNatClampNeg (μ 1 (0 + 5 * b + 1)).toNatClampNeg) (dst (μ 1 (0 + 5 * a + 2)).toNatClampNeg (μ 1 (0 + 5 * b + 2)).toNatClampNeg)) 9) := by
  have a1 := (h.2.1 a ha).1
  have a2 := (h.2.1 a ha).2
  have b1 := (h.2.1 b hb).1
  have b2 := (h.2.1 b hb).2
  unfold mAp
  generalize μ 1 (0 + 5 * a + 1) = x1 at *
  generalize μ 1 (0 + 5 * a + 2) = x2 at *
  generalize μ 1 (0 + 5 * b + 1) = y1 at *
  generalize μ 1 (0 + 5 * b + 2) = y2 at *
  have e1 : dst x1.toNatClampNeg y1.toNatClampNeg ≤ 30 := by have := a1.2; have := b1.2; unfold dst; split <;> omega
  have e2 : dst x2.toNatClampNeg y2.toNatClampNeg ≤ 30 := by have := a2.2; have := b2.2; unfold dst; split <;> omega
  rw [show x1 - y1 = nI x1.toNatClampNeg - nI y1.toNatClampNeg by rw [← a1.1, ← b1.1], show x2 - y2 = nI x2.toNatClampNeg - nI y2.toNatClampNeg by rw [← a2.1, ← b2.1], sab_nI (by have := a1.2; omega) (by have := b1.2; omega), sab_nI (by have := a2.2; omega) (by have := b2.2; omega), gmx_nI (by omega) (by omega), cap9_nI (by omega)]
theorem mapN_eq {μ : St} (h : WM μ) {a b : Nat} (ha : a < 10) (hb : b < 10) : mapN μ a b = min (max (dst (μ 1 (0 + 5 * a + 1)).toNatClampNeg (μ 1 (0 + 5 * b + 1)).toNatClampNeg) (dst (μ 1 (0 + 5 * a + 2)).toNatClampNeg (μ 1 (0 + 5 * b + 2)).toNatClampNeg)) 9 := by
  unfold mapN
  rw [mAp_eq h ha hb]
  exact nI_clamp (by omega)
theorem mapN_9 {μ : St} (h : WM μ) {a b : Nat} (ha : a < 10) (hb : b < 10) : mapN μ a b ≤ 9 := by rw [mapN_eq h ha hb]; omega
theorem mAp_N {μ : St} (h : WM μ) {a b : Nat} (ha : a < 10) (hb : b < 10) : mAp μ a b = nI (mapN μ a b) := by rw [mapN_eq h ha hb, mAp_eq h ha hb]
theorem mly_1 (μ : St) (a b : Nat) : mly μ a b ≤ 1 := by unfold mly; split <;> omega
/-- nothing but the cells of ks differs -/
def Offs (ks : List Nat) (σ τ : St) : Prop := ∀ j, j ∉ ks → τ j = σ j
theorem Offs.rf {ks : List Nat} {σ : St} : Offs ks σ σ := fun _ _ => rfl
theorem Offs.wr {ks : List Nat} {k j : Nat} {σ τ : St} {x : Int32} (h : Offs ks σ τ) (hk : k ∈ ks) : Offs ks σ (wr τ k j x) := fun i hi => (wr_ne (fun q : i = k => hi (by rw [q]; exact hk))).trans (h i hi)
theorem Offs.tr {ks : List Nat} {σ τ ρ : St} (h : Offs ks σ τ) (h2 : Offs ks τ ρ) : Offs ks σ ρ := fun i hi => (h2 i hi).trans (h i hi)
theorem WM.of {μ τ : St} (h : WM μ) (h1 : τ 1 = μ 1) (h4 : τ 4 = μ 4) : WM τ := by unfold WM; rw [h1, h4]; exact h
theorem Offs.wm {ks : List Nat} {μ τ : St} (h : Offs ks μ τ) (h1 : 1 ∉ ks) (h4 : 4 ∉ ks) (hw : WM μ) : WM τ := hw.of (h 1 h1) (h 4 h4)
/-- a place of the row 'now' that no index is read from -/
def pOK (j : Nat) : Prop := j ≠ 1086 ∧ j ≠ 1087 ∧ (∀ w, w < 10 → j ≠ 0 + 5 * w + 1 ∧ j ≠ 0 + 5 * w + 2) ∧ ∀ i, i < 10 → j ≠ 566 + 4 * i + 0
theorem pOK_mid {j : Nat} (h : 50 ≤ j) (h2 : j < 566) : pOK j := ⟨by omega, by omega, fun w hw => ⟨by omega, by omega⟩, fun i hi => by omega⟩
theorem pOK_hi {j : Nat} (h : 606 ≤ j) (h2 : j < 1086 ∨ 1087 < j) : pOK j := ⟨by omega, by omega, fun w hw => ⟨by omega, by omega⟩, fun i hi => by omega⟩
theorem wr_out {σ : St} {k j a b : Nat} {x : Int32} (h : b ≠ j) : wr σ k j x a b = σ a b := by simp [wr, h]
theorem wr_in {σ : St} {k j : Nat} {x : Int32} : wr σ k j x k j = x := by simp [wr]
theorem WM.put {μ : St} (h : WM μ) {j : Nat} {x : Int32} (hj : pOK j) : WM (wr μ 1 j x) := by
  refine ⟨?_, fun w hw => ⟨?_, ?_⟩, ?_, fun i hi => ?_, fun s hs => ?_⟩
  · rw [wr_out (Ne.symm hj.1)]; exact h.1
  · rw [wr_out (Ne.symm (hj.2.2.1 w hw).1)]; exact (h.2.1 w hw).1
  · rw [wr_out (Ne.symm (hj.2.2.1 w hw).2)]; exact (h.2.1 w hw).2
  · rw [wr_out (Ne.symm hj.2.1)]; exact h.2.2.1
  · rw [wr_out (Ne.symm (hj.2.2.2 i hi))]; exact h.2.2.2.1 i hi
  · rw [wr_ne (by decide)]; exact h.2.2.2.2 s hs
theorem WM.oth {μ : St} (h : WM μ) {k j : Nat} {x : Int32} (h1 : k ≠ 1) (h4 : k ≠ 4) : WM (wr μ k j x) := h.of (wr_ne (Ne.symm h1)) (wr_ne (Ne.symm h4))
theorem isMW_nat {μ : St} (hwm : WM μ) {v : Int32} (h : isMW μ v) : ∃ j, j < mN μ ∧ v = nI j := by
  obtain ⟨h1, h2⟩ := h
  rw [hwm.n] at h2
  have h10 := hwm.n10
  obtain ⟨j, hj, rfl⟩ := nI_of (Int32.not_lt.mpr h1)
  refine ⟨j, ?_, rfl⟩
  rw [Int32.le_iff_toInt_le, nI_toInt hj, pk_sub_toInt (by omega) (by omega)] at h2
  omega
theorem isML_nat {μ : St} (hwm : WM μ) {v : Int32} (h : nI 0 ≤ v ∧ v ≤ μ 1 1087 - nI 1) : ∃ j, j < mL μ ∧ v = nI j := by
  obtain ⟨h1, h2⟩ := h
  rw [hwm.l] at h2
  have h10 := hwm.l10
  obtain ⟨j, hj, rfl⟩ := nI_of (Int32.not_lt.mpr h1)
  refine ⟨j, ?_, rfl⟩
  rw [Int32.le_iff_toInt_le, nI_toInt hj, pk_sub_toInt (by omega) (by omega)] at h2
  omega
theorem isMS_nat {μ : St} (hwm : WM μ) {s : Nat} (hs : s < 4) {v : Int32} (h : nI 0 ≤ v ∧ v ≤ μ 4 s - nI 1) : ∃ j, j < (μ 4 s).toNatClampNeg ∧ v = nI j := by
  obtain ⟨h1, h2⟩ := h
  have h3 := hwm.2.2.2.2 s hs
  have h4 := h3.2
  rw [h3.1] at h2
  obtain ⟨j, hj, rfl⟩ := nI_of (Int32.not_lt.mpr h1)
  refine ⟨j, ?_, rfl⟩
  rw [Int32.le_iff_toInt_le, nI_toInt hj, pk_sub_toInt (by omega) (by omega)] at h2
  omega
theorem rem2 {w : Nat} (hw : w < 1000) : nI w - nI w / nI 2 * nI 2 = nI (w % 2) := pk_rem (by omega) (by decide) (by decide)
theorem dec1 (q : Nat) : nI (q + 1) + Int32.ofInt (-1) = nI q := by rw [show Int32.ofInt (-1) = -1 from by decide]; exact pk_m1 q
