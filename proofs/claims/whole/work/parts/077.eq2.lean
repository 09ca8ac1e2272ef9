theorem nI_m1 {j : Nat} (hj : j < 2000000) : ¬ nI j = -1 := fun q => by
  have := congrArg Int32.toInt q
  rw [nI_toInt (by omega)] at this
  simp at this
theorem wr_same {μ : St} {k j : Nat} {x : Int32} (h : μ k j = x) : wr μ k j x = μ := by
  funext a b
  unfold wr
  by_cases c : a = k ∧ b = j
  · rw [if_pos c, c.1, c.2, h]
  · rw [if_neg c]
section
variable {σ μ : St}
theorem Rel.sN (h : Rel σ μ) : μ 1 1089 = nI (μ 1 1089).toNatClampNeg ∧ (μ 1 1089).toNatClampNeg ≤ 10 := h.b (J := 1089) (n := 10) (by decide) (by decide) rfl
theorem e_served (h : Rel σ μ) (i b : Int32) : EQ (cfServed σ i b) (mfServed μ i b) := by
  refine EQ.ite (by rw [h.l]) (fun c => ?_) (fun _ => relF h _)
  obtain ⟨j, hj, rfl⟩ := isL_nat h.wc c
  have h10 := h.wc.l10
  rw [tnI (by omega)]
  have hs := h.sN
  have hS := h.2.1.2.2 j (by omega) (by rw [show (μ 1 1087).toNatClampNeg = nLi σ from h.L.symm]; exact hj)
  have hv := h.b (J := 566 + 4 * j + 3) (n := 1000) (by omega) (by decide) (b_sv (by omega))
  rw [hs.1]
  have hs2 := hs.2
  generalize (μ 1 1089).toNatClampNeg = S at *
  refine EQ.ite' ?_ (fun _ => relF h _) (fun c2 => ?_)
  · rw [nI_ltI (by omega) (by omega)]
    constructor
    · intro q z
      have := (hS.1 z).symm.trans q
      rw [hv.1] at this
      exact nI_m1 (by have := hv.2; omega) this
    · exact hS.2
  · have hS1 : σ 16 j = μ 1 (566 + 4 * j + 3) := by
      by_cases z : j < S
      · exact hS.1 z
      · exact absurd (hS.2 z) c2
    refine EQ.ite Iff.rfl (fun _ => h.v hS1) (fun _ => h.v ?_)
    rw [hS1, h.la (by omega)]
theorem ctf_kd : ∀ k : Fin 6, (0 < ctf k ↔ nI k ≤ nI 2) := by decide +kernel
theorem Rel.pos (h : Rel σ μ) {w : Nat} (hw : w < 10) : 0 < ctf (kd σ w) ↔ mKind μ w ≤ nI 2 := by
  rw [h.kind hw, h.wc.k hw]
  have h5 := h.wc.k5 hw
  exact ctf_kd ⟨kd σ w, by omega⟩
theorem Rel.lic (h : Rel σ μ) {n : Nat} (hn : n < 10) (hL : μ 1 1087 = nI n) (hw : (μ 1 (566 + 4 * n)).toNatClampNeg < (μ 1 1086).toNatClampNeg) : Rel (wr (wr σ 16 n (-1)) 12 0 (nI (n + 1))) (wr (wr μ 1 (566 + 4 * n + 3) (nI 0)) 1 1087 (nI (n + 1))) := by
  refine h.chg (by rw [wr_ne (by decide), wr_ne (by decide)]) (fun k hk => by rw [wr_ne (by omega), wr_ne (by omega)]) (by rw [wr_ne (by decide), wr_ne (by decide)]) (by rw [wr_ne (by decide), wr_ne (by decide)]) (by rw [wr_ne (by decide), wr_ne (by decide)]) (by rw [wr_ne (by decide), wr_ne (by decide)]) (by rw [wr_ne (by decide), wr_ne (by decide)]) ⟨fun J hJ => ?_, by rw [wr_out (by decide), wr_out (by omega), ctm_cong (r := μ 1) (fun k hk => by rw [wr_out (by omega), wr_out (by omega)])]; exact h.1.2.1, fun i hi h2 => ?_⟩ ⟨fun K j J hK => ?_, ?_⟩
  · by_cases e : J = 1087
    · rw [e, wr_in]; exact nI_B (n := 10) (by decide) (by omega) rfl
    · rw [wr_out e]
      by_cases e2 : J = 566 + 4 * n + 3
      · rw [e2, wr_in]; exact nI_B (by decide) (by decide) (b_sv hn)
      · rw [wr_out e2]; exact h.1.1 J hJ
  · rw [wr_in, nI_clamp (by omega)] at h2
    rw [wr_out (by omega), wr_out (by omega), wr_out (by decide), wr_out (by omega)]
    by_cases e : i = n
    · rw [e]; exact hw
    · exact h.1.2.2 i hi (by rw [hL, nI_clamp (by omega)]; omega)
  · have hl := po_lt hK
    by_cases e : J = 1087
    · subst e
      have hi := po_ip hK
      have h1 : K = 11 := (Prod.mk.inj hi).1.symm
      have h2 : j = 0 := (Prod.mk.inj hi).2.symm
      subst h1; subst h2
      rw [wr_in, wr_in]
    · have hr : wr (wr μ 1 (566 + 4 * n + 3) (nI 0)) 1 1087 (nI (n + 1)) 1 J = μ 1 J := (wr_out e).trans (wr_out (by omega))
      rw [hr, ← h.2.1.1 K j J hK]
      have h3 : ¬ (1 + K = 12 ∧ j = 0) := fun q => e (by
        obtain ⟨q1, q2⟩ := q
        obtain rfl : K = 11 := by omega
        subst q2
        exact (Option.some.inj hK).symm)
      have h4 : ¬ (1 + K = 16 ∧ j = n) := by omega
      unfold wr
      rw [if_neg h3, if_neg h4]
  · unfold Svd
    rw [wr_in, nI_clamp (by omega), wr_out (by decide), wr_out (by omega)]
    have h2 := h.2.1.2
    unfold Svd at h2
    rw [hL, nI_clamp (by omega)] at h2
    refine ⟨by omega, fun i hi hi2 => ?_⟩
    have g1 : wr (wr σ 16 n (-1)) 12 0 (nI (n + 1)) (1 + 15) i = wr σ 16 n (-1) 16 i := by rw [wr_ne (by decide)]
    have g2 : wr (wr μ 1 (566 + 4 * n + 3) (nI 0)) 1 1087 (nI (n + 1)) 1 (566 + 4 * i + 3) = wr μ 1 (566 + 4 * n + 3) (nI 0) 1 (566 + 4 * i + 3) := wr_out (by omega)
    rw [g1, g2]
    by_cases e : i = n
    · subst e
      rw [wr_in]
      exact ⟨fun q => absurd q (by omega), fun _ => rfl⟩
    · have g3 : wr σ 16 n (-1) 16 i = σ 16 i := wr_out e
      have g4 : wr μ 1 (566 + 4 * n + 3) (nI 0) 1 (566 + 4 * i + 3) = μ 1 (566 + 4 * i + 3) := wr_out (by omega)
      rw [g3, g4]
      exact h2.2 i hi (by omega)
theorem b_ly {i : Nat} (hi : i < 10) : bnd (566 + 4 * i + 1) = (0, ((9999 : Nat) : Int)) := by unfold bnd; rw [if_neg (by omega), if_neg (by omega), if_pos (by omega), if_neg (by omega), if_pos (by omega)]; rfl
theorem e_licence (h : Rel σ μ) (w y v : Int32) : EQ (cfLicence σ w y v) (mfLicence μ w y v) := by
  refine EQ.ite (and_congr (h.iw w) Iff.rfl) (fun c => ?_) (fun _ => relF h _)
  have hw := h.ix c.1
  refine EQ.ite (h.pos hw.1) (fun _ => ?_) (fun _ => relF h _)
  have h10 := h.wc.l10
  refine EQ.ite' (by rw [← h.l]; exact nI_10 h.wc.l h10) (fun c2 => ?_) (fun _ => relF h _)
  have hn : nLi σ < 10 := by
    rcases Nat.lt_or_ge (nLi σ) 10 with q | q
    · exact q
    · rw [h.wc.l, show nLi σ = 10 by omega] at c2; exact absurd c2 (nI_nlt (Nat.le_refl _) (by decide))
  rw [← h.L]
  refine ⟨rfl, ?_⟩
  have e1 := h.wc.l
  have e2 := h.l.symm.trans e1
  generalize nLi σ = n at *
  show Rel (cLic σ n w y v) (mLic μ n w y v)
  have hwB : inB (566 + 4 * n) w := by rw [hw.2.1]; exact nI_B (by decide) (by omega) (b_lw hn)
  have h1 := h.setW hn hwB (by rw [e2, nI_clamp (by omega)]; exact Nat.le_refl _)
  have h2 := h1.set (K := 13) (j := n) (v := y) (if_pos hn) (isR_B (by decide) c.2.1 (b_ly hn)) (by omega)
  have h3 := h2.set (K := 14) (j := n) (v := v) (if_pos hn) (isR_B (by decide) c.2.2 (b_la hn)) (by omega)
  have h4 := h3.lic hn (by rw [wr_out (by omega), wr_out (by omega), wr_out (by omega)]; exact e2) (by
    rw [wr_out (by omega), wr_out (by omega), wr_in, wr_out (by omega), wr_out (by omega), wr_out (by omega)]
    have := hw.2.2
    unfold nW at this
    rw [h.n] at this
    exact this)
  unfold cLic mLic
  have a1 : cLicT σ n w y v 12 0 + nI 1 = nI (n + 1) := by
    unfold cLicT
    rw [wr_ne (by decide), wr_ne (by decide), wr_ne (by decide), wr_ne (by decide), e1, nI_add]
  have a2 : mLicT μ n w y v 1 1087 + nI 1 = nI (n + 1) := by
    unfold mLicT
    rw [wr_out (by omega), wr_out (by omega), wr_out (by omega), wr_out (by omega), e2, nI_add]
  rw [a1, a2]
  exact h4
/-- rows are cleared alike -/
theorem relClr (h : Rel σ μ) {c K B N : Nat} (hc : c = 1 + K) (hp : ∀ j, j < N → po K j = some (B + j)) (hB : 50 ≤ B ∧ B + N ≤ 566) (a : Int32) : ∀ n, n ≤ N → a + (it0 (clr c) n (nI 0, σ)).1 = (it fmDry B n (a, μ)).1 ∧ Rel (it0 (clr c) n (nI 0, σ)).2 (it fmDry B n (a, μ)).2
  | 0, _ => ⟨Int32.add_zero a, h⟩
  | n + 1, hn => by
    have ih := relClr h hc hp hB a n (by omega)
    show a + (clr c n (it0 (clr c) n (nI 0, σ))).1 = (fmDry (B + n) (it fmDry B n (a, μ))).1 ∧ Rel (clr c n (it0 (clr c) n (nI 0, σ))).2 (fmDry (B + n) (it fmDry B n (a, μ))).2
    generalize it0 (clr c) n (nI 0, σ) = x at *
    generalize it fmDry B n (a, μ) = y at *
    have he := ih.2.2.1.1 K n _ (hp n (by omega))
    subst hc
    unfold clr fmDry
    by_cases q : x.2 (1 + K) n = 0
    · rw [if_pos q]
      rw [he] at q
      refine ⟨?_, ?_⟩
      · show a + x.1 = y.1 + (if y.2 1 (B + n) = 0 then nI 0 else nI 1)
        rw [if_pos q, ih.1, nI00, Int32.add_zero]
      · show Rel x.2 (wr y.2 1 (B + n) (nI 0))
        rw [wr_same (by rw [q]; rfl)]
        exact ih.2
    · rw [if_neg q]
      rw [he] at q
      refine ⟨?_, ?_⟩
      · show a + (x.1 + nI 1) = y.1 + (if y.2 1 (B + n) = 0 then nI 0 else nI 1)
        rw [if_neg q, ← ih.1, Int32.add_assoc]
      · exact ih.2.set (hp n (by omega)) (nI_B (n := 1000) (by decide) (by decide) (b_mid (by omega) (by omega))) (by omega)
theorem dryFin {x y z : Int32 × St} {w : Int32 × St} (h1 : x.1 = y.1) (h2 : y.1 + z.1 = w.1 ∧ Rel z.2 w.2) : EQ (x.1 + z.1, z.2) w := ⟨by rw [h1]; exact h2.1, h2.2⟩
theorem dryStep {x y : Int32 × St} (h1 : nI 0 + x.1 = y.1 ∧ Rel x.2 y.2) : EQ (x.1 + (cClr x.2 21 24).1, (cClr x.2 21 24).2) (it fmDry 542 24 y) := by
  have h2 := relClr h1.2 (c := 21) (K := 20) (B := 542) (N := 24) rfl (fun j hj => if_pos hj) (by decide) y.1 24 (Nat.le_refl _)
  obtain ⟨y1, y2⟩ := y
  unfold cClr
  exact dryFin (by rw [← h1.1, nI00, Int32.zero_add]) h2
theorem e_dry (h : Rel σ μ) : EQ (cfDry σ) (mfDry μ) := by
  have h1 := relClr h (c := 20) (K := 19) (B := 50) (N := 240) rfl (fun j hj => if_pos hj) (by decide) (nI 0) 240 (Nat.le_refl _)
  unfold cfDry mfDry mDry1
  refine dryStep ?_
  rw [cClr]
  exact h1
/-- the sheets change, and nothing else -/
theorem Rel.she (h : Rel σ μ) {σ' μ' : St} (e1 : ∀ k, k < 46 → σ' k = σ k) (e2 : ∀ k, k < 3 → μ' k = μ k) (hs : Shs σ' μ') : Rel σ' μ' := by
  obtain ⟨h1, h2, h3, h4, h5⟩ := h
  refine ⟨by rw [e2 1 (by decide)]; exact h1, ?_, hs, by rw [e1 0 (by decide), e2 0 (by decide)]; exact h4, ?_⟩
  · rw [e2 1 (by decide)]
    refine ⟨fun K j J hK => ?_, h2.2.1, fun i hi hi2 => ?_⟩
    · have hl := po_lt hK
      rw [e1 (1 + K) (by omega)]
      exact h2.1 K j J hK
    · rw [e1 (1 + 15) (by decide)]
      exact h2.2.2 i hi hi2
  · unfold Kpt
    rw [e1 0 (by decide), e2 0 (by decide), e2 2 (by decide)]
    rcases h5 with h5 | ⟨a1, a2, a3, a4, a5, a6⟩
    · exact Or.inl h5
    · refine Or.inr ⟨a1, a2, a3, fun K j J hK => ?_, a5, fun i hi hi2 => ?_⟩
      · have hl := po_lt hK
        rw [e1 (23 + K) (by omega)]; exact a4 K j J hK
      · rw [e1 (23 + 15) (by decide)]; exact a6 i hi hi2
theorem clr_at (k : Nat) (a : Int32) (σ : St) : ∀ n, (∀ j, j ≠ k → (it0 (clr k) n (a, σ)).2 j = σ j) ∧ (∀ i, i < n → (it0 (clr k) n (a, σ)).2 k i = nI 0) ∧ ∀ i, n ≤ i → (it0 (clr k) n (a, σ)).2 k i = σ k i
  | 0 => ⟨fun _ _ => rfl, fun i hi => absurd hi (Nat.not_lt_zero i), fun _ _ => rfl⟩
  | n + 1 => by
    have ih := clr_at k a σ n
    rw [it0]
    generalize it0 (clr k) n (a, σ) = x at *
    unfold clr
    by_cases q : x.2 k n = 0
    · rw [if_pos q]
      refine ⟨ih.1, fun i hi => ?_, fun i hi => ih.2.2 i (by omega)⟩
      by_cases e : i = n
      · rw [e]; exact q
      · exact ih.2.1 i (by omega)
    · rw [if_neg q]
      refine ⟨fun j hj => (wr_ne hj).trans (ih.1 j hj), fun i hi => ?_, fun i hi => (wr_out (by omega)).trans (ih.2.2 i (by omega))⟩
      by_cases e : i = n
      · rw [e]; exact wr_in
      · exact (wr_out e).trans (ih.2.1 i (by omega))
theorem st_at (s : Nat) (μ : St) : ∀ n, (∀ j, j ≠ 5 → (it0 (fmSt s) n μ) j = μ j) ∧ (∀ i, 24 * s ≤ i → i < 24 * s + n → (it0 (fmSt s) n μ) 5 i = nI 0) ∧ ∀ i, i < 24 * s ∨ 24 * s + n ≤ i → (it0 (fmSt s) n μ) 5 i = μ 5 i
  | 0 => ⟨fun _ _ => rfl, fun i hi h2 => absurd h2 (by omega), fun _ _ => rfl⟩
  | n + 1 => by
    have ih := st_at s μ n
    rw [it0]
    generalize it0 (fmSt s) n μ = x at *
    unfold fmSt
    refine ⟨fun j hj => (wr_ne hj).trans (ih.1 j hj), fun i hi h2 => ?_, fun i hi => (wr_out (by omega)).trans (ih.2.2 i (by omega))⟩
    by_cases e : i = 24 * s + n
    · rw [e]; exact wr_in
    · exact (wr_out e).trans (ih.2.1 i (by omega) (by omega))
theorem isR_Nb {v : Int32} {n : Nat} (hn : n < 2000000) (h : isR v n) : Nb v n := by
  have := ix_R hn h
  exact ⟨this.2, this.1⟩
theorem e_sheet (h : Rel σ μ) (s k n : Int32) : EQ (cfSheet σ s k n) (mfSheet μ s k n) := by
  refine EQ.ite Iff.rfl (fun c => EQ.ite Iff.rfl (fun c2 => EQ.ite Iff.rfl (fun c3 => ?_) (fun _ => relF h _)) (fun _ => relF h _)) (fun _ => relF h _)
  have hs : tn s < 4 := by have := (ix_R (by decide) c.1).1; omega
  have hk := isR_Nb (by decide) c.2
  have hn : Nb (if k = 0 then nI 0 else n) 24 := by
    split
    · exact Nb.of rfl (by decide) (by decide)
    · exact isR_Nb (by decide) ⟨c2, c3⟩
  generalize tn s = t at *
  have a1 := clr_at (50 + t) (nI 0) (cSt0 σ t k n) 24
  have a2 := st_at t (mSt0 μ t k n) 24
  unfold cStart mStart cClr
  generalize (it0 (clr (50 + t)) 24 (nI 0, cSt0 σ t k n)).2 = x at *
  generalize it0 (fmSt t) 24 (mSt0 μ t k n) = y at *
  have e1 : x (46 + t) 0 = k := by
    rw [a1.1 _ (by omega)]
    unfold cSt0
    rw [wr_out (by decide), wr_in]
  have e2 : x (46 + t) 1 = if k = 0 then nI 0 else n := by
    rw [a1.1 _ (by omega)]
    unfold cSt0
    rw [wr_in]
  have f1 : y 3 t = k := by
    rw [a2.1 _ (by decide)]
    unfold mSt0
    rw [wr_ne (by decide), wr_in]
  have f2 : y 4 t = if k = 0 then nI 0 else n := by
    rw [a2.1 _ (by decide)]
    unfold mSt0
    rw [wr_in]
  refine ⟨e2.trans f2.symm, h.she (fun j hj => ?_) (fun j hj => ?_) (fun u hu => ?_)⟩
  · show x j = σ j
    rw [a1.1 _ (by omega)]
    unfold cSt0
    rw [wr_ne (by omega), wr_ne (by omega)]
  · show y j = μ j
    rw [a2.1 _ (by omega)]
    unfold mSt0
    rw [wr_ne (by omega), wr_ne (by omega)]
  · show x (46 + u) 0 = y 3 u ∧ x (46 + u) 1 = y 4 u ∧ Nb (y 3 u) 2 ∧ Nb (y 4 u) 24 ∧ ∀ i, i < 24 → x (50 + u) i = y 5 (24 * u + i)
    by_cases e : u = t
    · subst e
      rw [e1, e2, f1, f2]
      exact ⟨rfl, rfl, hk, hn, fun i hi => by rw [a1.2.1 i hi, a2.2.1 _ (by omega) (by omega)]⟩
    · have h3 := h.2.2.1 u hu
      have b1 : x (46 + u) = σ (46 + u) := by
        rw [a1.1 _ (by omega)]
        unfold cSt0
        rw [wr_ne (by omega), wr_ne (by omega)]
      have b2 : x (50 + u) = σ (50 + u) := by
        rw [a1.1 _ (by omega)]
        unfold cSt0
        rw [wr_ne (by omega), wr_ne (by omega)]
      have b3 : y 3 u = μ 3 u := by
        rw [a2.1 _ (by decide)]
        unfold mSt0
        rw [wr_ne (by decide), wr_out e]
      have b4 : y 4 u = μ 4 u := by
        rw [a2.1 _ (by decide)]
        unfold mSt0
        rw [wr_out e, wr_ne (by decide)]
      have b5 : ∀ i, i < 24 → y 5 (24 * u + i) = μ 5 (24 * u + i) := fun i hi => by
        rw [a2.2.2 _ (by omega)]
        unfold mSt0
        rw [wr_ne (by decide), wr_ne (by decide)]
      rw [b1, b2, b3, b4]
      exact ⟨h3.1, h3.2.1, h3.2.2.1, h3.2.2.2.1, fun i hi => by rw [b5 i hi]; exact h3.2.2.2.2 i hi⟩
theorem Rel.setS (h : Rel σ μ) {s i : Nat} {v : Int32} (hs : s < 4) (hi : i < 24) : Rel (wr σ (50 + s) i v) (wr μ 5 (24 * s + i) v) := by
  refine h.she (fun k hk => wr_ne (by omega)) (fun k hk => wr_ne (by omega)) (fun u hu => ?_)
  have h3 := h.2.2.1 u hu
  rw [wr_ne (a := 46 + u) (by omega), wr_ne (a := 3) (by decide), wr_ne (a := 4) (by decide)]
  refine ⟨h3.1, h3.2.1, h3.2.2.1, h3.2.2.2.1, fun j hj => ?_⟩
  by_cases e : u = s ∧ j = i
  · rw [e.1, e.2, wr_in, wr_in]
  · rw [wr_out (b := 24 * u + j) (by omega), ← h3.2.2.2.2 j hj]
    unfold wr
    rw [if_neg (by omega)]
theorem e_put (h : Rel σ μ) (s i v : Int32) : EQ (cfPut σ s i v) (mfPut μ s i v) := by
  refine EQ.ite Iff.rfl (fun c => ?_) (fun _ => relF h _)
  have hs : tn s < 4 := by have := (ix_R (by decide) c).1; omega
  generalize tn s = t at *
  have h3 := h.2.2.1 t hs
  refine EQ.ite (by rw [h3.1]) (fun _ => relF h _) (fun _ => EQ.ite (by rw [h3.2.1]) (fun c2 => ?_) (fun _ => relF h _))
  obtain ⟨j, hj, rfl⟩ := isS_nat h.ws hs c2
  have h24 := h3.2.2.2.1.2
  rw [h3.2.1] at hj
  rw [tnI (by omega)]
  refine ⟨rfl, ?_⟩
  have : cPutV σ t v = mPutV μ t v := by unfold cPutV mPutV; rw [h3.1]
  show Rel (wr σ (50 + t) j (cPutV σ t v)) (wr μ 5 (24 * t + j) (mPutV μ t v))
  rw [this]
  exact h.setS hs (by omega)
theorem fit_in {f n l : Int32} {N : Nat} (hN : N < 2000) (hl : Nb l N) (hf : ¬ f < 0) (hn : ¬ n < 0) : (f ≤ l ∧ n ≤ l - f) ↔ f.toInt64 + n.toInt64 ≤ l.toInt64 := by
  obtain ⟨a, ha, rfl⟩ := nI_of hf
  obtain ⟨b, hb, rfl⟩ := nI_of hn
  have h1 := hl.1
  have h2 := hl.2
  generalize l.toNatClampNeg = c at *
  subst h1
  rw [nI_l ha, nI_l hb, nI_l (by omega), lN_add, pk_lLE (by omega) (by omega), nI_leI ha (by omega)]
  constructor
  · rintro ⟨q1, q2⟩
    rw [pk_sub q1, nI_leI hb (by omega)] at q2
    omega
  · intro q
    refine ⟨by omega, ?_⟩
    rw [pk_sub (by omega)]
    exact nI_le (by omega) (by omega)
theorem c1_at (s f : Nat) (μ : St) : ∀ n, (∀ j, j ≠ 6 → (it0 (fmC1 s f) n μ) j = μ j) ∧ ∀ i, i < n → (it0 (fmC1 s f) n μ) 6 i = μ 5 (24 * s + f + i)
  | 0 => ⟨fun _ _ => rfl, fun i hi => absurd hi (Nat.not_lt_zero i)⟩
  | n + 1 => by
    have ih := c1_at s f μ n
    rw [it0]
    generalize it0 (fmC1 s f) n μ = x at *
    unfold fmC1
    refine ⟨fun j hj => (wr_ne hj).trans (ih.1 j hj), fun i hi => ?_⟩
    by_cases e : i = n
    · rw [e, wr_in, ih.1 5 (by decide)]
    · exact (wr_out e).trans (ih.2 i (by omega))
theorem c2_at (t g : Nat) (μ : St) : ∀ n, (∀ j, j ≠ 5 → (it0 (fmC2 t g) n μ) j = μ j) ∧ (∀ i, i < n → (it0 (fmC2 t g) n μ) 5 (24 * t + g + i) = μ 6 i) ∧ ∀ i, i < 24 * t + g ∨ 24 * t + g + n ≤ i → (it0 (fmC2 t g) n μ) 5 i = μ 5 i
  | 0 => ⟨fun _ _ => rfl, fun i hi => absurd hi (Nat.not_lt_zero i), fun _ _ => rfl⟩
  | n + 1 => by
    have ih := c2_at t g μ n
    rw [it0]
    generalize it0 (fmC2 t g) n μ = x at *
    unfold fmC2
    refine ⟨fun j hj => (wr_ne hj).trans (ih.1 j hj), fun i hi => ?_, fun i hi => (wr_out (by omega)).trans (ih.2.2 i (by omega))⟩
    by_cases e : i = n
    · rw [e, wr_in, ih.1 6 (by decide)]
    · exact (wr_out (by omega)).trans (ih.2.1 i (by omega))
theorem e_copy (h : Rel σ μ) (s f t g n : Int32) : EQ (cfCopy σ s f t g n) (mfCopy μ s f t g n) := by
  refine EQ.ite Iff.rfl (fun c => ?_) (fun _ => relF h _)
  have hs : tn s < 4 := by have := (ix_R (by decide) c.1).1; omega
  have ht : tn t < 4 := by have := (ix_R (by decide) c.2).1; omega
  generalize tn s = s at *
  generalize tn t = t at *
  have h3 := h.2.2.1 s hs
  have h4 := h.2.2.1 t ht
  refine EQ.ite (by rw [h3.1, h4.1]) (fun _ => relF h _) (fun _ => EQ.ite (by rw [h3.1, h4.1]) (fun _ => EQ.ite ?_ (fun c2 => ?_) (fun _ => relF h _)) (fun _ => relF h _))
  · show ((¬ f < 0 ∧ ¬ n < 0 ∧ f ≤ σ (46 + s) 1 ∧ n ≤ σ (46 + s) 1 - f) ∧ (¬ g < 0 ∧ ¬ n < 0 ∧ g ≤ σ (46 + t) 1 ∧ n ≤ σ (46 + t) 1 - g)) ↔ (¬ f < 0 ∧ ¬ g < 0 ∧ ¬ n < 0 ∧ f.toInt64 + n.toInt64 ≤ (μ 4 s).toInt64 ∧ g.toInt64 + n.toInt64 ≤ (μ 4 t).toInt64)
    rw [h3.2.1, h4.2.1]
    constructor
    · rintro ⟨⟨q1, q2, q3⟩, q4, -, q5⟩
      exact ⟨q1, q4, q2, (fit_in (by decide) h3.2.2.2.1 q1 q2).mp q3, (fit_in (by decide) h4.2.2.2.1 q4 q2).mp q5⟩
    · rintro ⟨q1, q4, q2, q3, q5⟩
      exact ⟨⟨q1, q2, (fit_in (by decide) h3.2.2.2.1 q1 q2).mpr q3⟩, q4, q2, (fit_in (by decide) h4.2.2.2.1 q4 q2).mpr q5⟩
  · obtain ⟨⟨q1, q2, q3⟩, q4, -, q5⟩ := c2
    rw [h3.2.1] at q3
    rw [h4.2.1] at q5
    have b3 := (fit_in (by decide) h3.2.2.2.1 q1 q2).mp q3
    have b5 := (fit_in (by decide) h4.2.2.2.1 q4 q2).mp q5
    obtain ⟨a, ha, rfl⟩ := nI_of q1
    obtain ⟨b, hb, rfl⟩ := nI_of q2
    obtain ⟨d, hd, rfl⟩ := nI_of q4
    have c3 := h3.2.2.2.1
    have c4 := h4.2.2.2.1
    have k3 := c3.2
    have k4 := c4.2
    rw [c3.1, nI_l ha, nI_l hb, nI_l (by omega), lN_add, pk_lLE (by omega) (by omega)] at b3
    rw [c4.1, nI_l hd, nI_l hb, nI_l (by omega), lN_add, pk_lLE (by omega) (by omega)] at b5
    rw [show tn (nI a) = a from nI_clamp ha, show tn (nI b) = b from nI_clamp hb, show tn (nI d) = d from nI_clamp hd]
    have m1 := c1_at s a μ b
    have m2 := c2_at t d (it0 (fmC1 s a) b μ) b
    generalize it0 (fmC1 s a) b μ = x at *
    generalize it0 (fmC2 t d) b x = y at *
    have key : Rel (wrA σ (50 + t) (va_cpy (σ (50 + s)) (σ (50 + t)) a d b)) y := by
      refine h.she (fun k hk => wrA_ne (by omega)) (fun k hk => (m2.1 k (by omega)).trans (m1.1 k (by omega))) (fun u hu => ?_)
      have h5 := h.2.2.1 u hu
      rw [wrA_ne (a := 46 + u) (by omega), m2.1 3 (by decide), m2.1 4 (by decide), m1.1 3 (by decide), m1.1 4 (by decide)]
      refine ⟨h5.1, h5.2.1, h5.2.2.1, h5.2.2.2.1, fun j hj => ?_⟩
      by_cases e : u = t
      · subst e
        rw [wrA_row]
        by_cases r : d ≤ j ∧ j < d + b
        · rw [pk_cpy_in r.1 r.2, show 24 * u + j = 24 * u + d + (j - d) by omega, m2.2.1 _ (by omega), m1.2 _ (by omega), h3.2.2.2.2 _ (by omega), show 24 * s + (a + (j - d)) = 24 * s + a + (j - d) by omega]
        · rw [pk_cpy_out (by omega), m2.2.2 _ (by omega), m1.1 5 (by decide)]
          exact h5.2.2.2.2 j hj
      · rw [wrA_ne (by omega), m2.2.2 _ (by omega), m1.1 5 (by decide)]
        exact h5.2.2.2.2 j hj
    exact ⟨rfl, key⟩
end
