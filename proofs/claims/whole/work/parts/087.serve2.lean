section
variable {σ μ x y : St}
theorem hat_lw (h : Rel (hS x) (hM y)) {i : Nat} (hi : i < 10) : mlw y i = lwl x i ∧ lwl x i < 10 := by
  have h1 := h.lw hi
  rw [hS_ne (by decide)] at h1
  unfold hM at h1
  rw [wr_out (by omega)] at h1
  have h2 := h.wc.w10 hi
  unfold lwl at h2
  rw [hS_ne (by decide)] at h2
  unfold mlw lwl
  rw [show 566 + 4 * i + 0 = 566 + 4 * i by omega, h1]
  rw [h1] at h2
  exact ⟨rfl, h2⟩
theorem uns_all (h : Rel σ μ) {fr : Nat} (hfr : fr ≤ 24) : ∀ n, n ≤ 10 → Rel (hS (it0 (gUns fr) n σ)) (hM (it0 (gmU fr) n μ)) ∧ (∀ j, j ≠ 16 → j ≠ 20 → it0 (gUns fr) n σ j = σ j) ∧ (∀ i, i < n → it0 (gUns fr) n σ 16 i = -1) ∧ ∀ i, i < n → ∀ m, fr ≤ m → m < 24 → it0 (gUns fr) n σ 20 (lwl σ i * 24 + m) = nI 0
  | 0, _ => ⟨h.hat, fun _ _ _ => rfl, fun i hi => absurd hi (Nat.not_lt_zero i), fun i hi => absurd hi (Nat.not_lt_zero i)⟩
  | n + 1, hn => by
    have ih := uns_all h hfr n (by omega)
    rw [it0, it0]
    generalize it0 (gUns fr) n σ = a at *
    generalize it0 (gmU fr) n μ = b at *
    have hl := hat_lw ih.1 (i := n) (by omega)
    have hla : lwl a n = lwl σ n := by unfold lwl; rw [ih.2.1 13 (by decide) (by decide)]
    unfold gUns gmU
    rw [hl.1, hla]
    rw [hla] at hl
    have h16 : Rel (hS (wr a 16 n (-1))) (hM b) := by rw [hS_16]; exact ih.1
    have t := uns_in h16 (w := lwl σ n) (fr := fr) hl.2 (24 - fr) (by omega)
    generalize it (fUns (lwl σ n)) fr (24 - fr) (wr a 16 n (-1)) = c at *
    refine ⟨t.1, fun j h1 h2 => ?_, fun i hi => ?_, fun i hi m h1 h2 => ?_⟩
    · rw [t.2.1 j h2, wr_ne h1]
      exact ih.2.1 j h1 h2
    · rw [t.2.1 16 (by decide)]
      by_cases e : i = n
      · rw [e, wr_in]
      · rw [wr_out e]
        exact ih.2.2.1 i (by omega)
    · by_cases e : i = n
      · rw [e]
        have := t.2.2.1 (m - fr) (by omega)
        rw [show fr + (m - fr) = m by omega] at this
        exact this
      · refine t.2.2.2 _ m h2 ?_
        rw [wr_ne (by decide)]
        exact ih.2.2.2 i (by omega) m h1 h2
theorem giv_at (μ : St) : ∀ n, (∀ j, j ≠ 9 → it0 fmG n μ j = μ j) ∧ ∀ i, i < n → it0 fmG n μ 9 i = nI 0
  | 0 => ⟨fun _ _ => rfl, fun i hi => absurd hi (Nat.not_lt_zero i)⟩
  | n + 1 => by
    have ih := giv_at μ n
    rw [it0]
    generalize it0 fmG n μ = a at *
    unfold fmG
    refine ⟨fun j hj => (wr_ne hj).trans (ih.1 j hj), fun i hi => ?_⟩
    by_cases e : i = n
    · rw [e, wr_in]
    · exact (wr_out e).trans (ih.2 i (by omega))
/-- the numbers in which both agree behind some turns -/
def Sv (σ : St) (fr : Nat) (D : Nat) (x y : St) : Prop := Rel (hS x) (hM y) ∧ (∀ j, j ≠ 16 → j ≠ 20 → j ≠ 22 → x j = σ j) ∧ (∀ i, i < nLi σ → (D.testBit i = false → x 16 i = -1) ∧ (D.testBit i = true → x 16 i = y 1 (566 + 4 * i + 3) ∧ Nb (x 16 i) 1000)) ∧ (∀ p n, p < nW σ → fr ≤ n → n < 24 → x 22 (p * 24 + n) = cAbv (hS x) p n) ∧ ∀ i, i < nLi σ → ∀ m, fr ≤ m → m < 24 → own σ (lwl σ i) m → Nb (y 9 (lwl σ i)) 1000 ∧ x 20 (lwl σ i * 24 + m) = y 9 (lwl σ i)
theorem sv_start (h : Rel σ μ) {fr : Nat} (hfr : fr < 24) : Sv σ fr 0 (cFsp (cUns σ fr) fr) (mGiv (mUns μ fr)) := by
  have h10 := h.wc.l10
  have u := uns_all h (fr := fr) (by omega) (nLi σ) h10
  unfold cUns mUns
  rw [← h.L]
  generalize it0 (gUns fr) (nLi σ) σ = a at *
  generalize it0 (gmU fr) (nLi σ) μ = b at *
  have hna : nW a = nW σ := by unfold nW; rw [u.2.1 2 (by decide) (by decide)]
  have f := fsp_at (σ := a) (by rw [hna]; exact h.wc.n10) fr
  have g := giv_at b 10
  unfold mGiv
  generalize cFsp a fr = x at *
  generalize it0 fmG 10 b = y at *
  have hR : Rel (hS x) (hM y) := by
    refine u.1.scr (fun k _ h22 => ?_) (fun k hk => ?_)
    · by_cases e : k = 16
      · subst e
        unfold hS
        rw [wrA_row, wrA_row]
      · rw [hS_ne e, hS_ne e, f.1 k h22]
    · unfold hM
      by_cases e : k = 1
      · subst e
        rw [wr_row, wr_row, g.1 1 (by decide)]
      · rw [wr_ne e, wr_ne e, g.1 k (by omega)]
  refine ⟨hR, fun j h1 h2 h3 => (f.1 j h3).trans (u.2.1 j h1 h2), fun i hi => ⟨fun _ => ?_, fun q => absurd q (by simp)⟩, fun p n hp h1 h2 => ?_, fun i hi m h1 h2 _ => ?_⟩
  · rw [f.1 16 (by decide)]
    exact u.2.2.1 i hi
  · have hx : Hat a (hS x) := ⟨fun k hk _ => by rw [hS_ne (by omega), f.1 k (by omega)], by rw [hS_ne (by decide), f.1 20 (by decide)], by rw [hS_ne (by decide), f.1 21 (by decide)]⟩
    rw [f.2 p n ⟨by rw [hna]; exact hp, h1⟩ h2, hat_abv hx (by rw [hna]; exact h.wc.n10) h2]
  · have hw := h.wc.w10 (i := i) (by omega)
    rw [g.2 _ hw]
    refine ⟨Nb.z, ?_⟩
    rw [f.1 20 (by decide)]
    exact u.2.2.2 i hi m h1 h2
end
