theorem not_R {n : Nat} (h : 1000 < n) (h2 : n < 2 ^ 31) : ¬ isR (nI n) 1000 := fun q => by
  have := (nI_leI h2 (by decide)).mp q.2
  omega
theorem not_Rn {n : Nat} (h : 0 < n) (h2 : n < 2 ^ 30) : ¬ isR (-(nI n)) 1000 := fun q => by
  have h1 := q.1
  rw [show -(nI n) = nI 0 - nI n by rw [nI00, Int32.zero_sub], Int32.le_iff_toInt_le, pk_sub_toInt (by decide) h2, nI_toInt (by decide)] at h1
  omega
/-- what is cut is alike where it is an amount, and no amount of both else -/
theorem cut_eq (b : Int32) : (isR (cCut b) 1000 ∧ cCut b = mCut b) ∨ (¬ isR (cCut b) 1000 ∧ ¬ isR (mCut b) 1000) := by
  obtain ⟨j, hj, ej⟩ := pk_andE (b >>> (nI 23 &&& 31)) (m := nI 255) 8 (by decide)
  obtain ⟨m, hm, em⟩ := pk_andE b (m := 8388607) 23 (by decide)
  unfold cCut mCut
  rw [ex_eq, ej, em, show (8388608 : Int32) = nI 8388608 from rfl, or_nI]
  have hM : 8388608 ≤ m ||| 8388608 := Nat.right_le_or
  have hM2 : m ||| 8388608 < 16777216 := Nat.or_lt_two_pow (n := 24) (by omega) (by decide)
  generalize m ||| 8388608 = M at *
  by_cases c : j < 127
  · have h1 : nI j - nI 127 < 0 := by
      rw [Int32.lt_iff_toInt_lt, pk_sub_toInt (by omega) (by decide)]
      simp
      omega
    rw [if_pos h1, if_neg (Int32.not_le.mpr h1)]
    refine Or.inl ⟨⟨Int32.le_refl _, nI_le (by decide) (by decide)⟩, ?_⟩
    split
    · rfl
    · rfl
  · rw [pk_sub (by omega)]
    have ha : j - 127 < 129 := by omega
    generalize j - 127 = a at *
    rw [if_neg (nI_pos (by omega)), if_pos (nI_pos' (by omega))]
    by_cases c2 : a ≤ 10
    · rw [if_pos (nI_le c2 (by decide)), if_neg (nI_nlt (by omega) (by decide)), pk_sub (by omega), pk_shrN (n := M) (by omega) _ (23 - a) (sm_nI _ (by omega))]
      have hp : 0 < 2 ^ (23 - a) := Nat.pow_pos (by decide)
      have hq : M / 2 ^ (23 - a) ≤ M := Nat.div_le_self _ _
      have hq0 : 0 < M / 2 ^ (23 - a) := Nat.div_pos (Nat.le_trans (Nat.pow_le_pow_right (n := 2) (j := 23) (by decide) (by omega)) hM) hp
      generalize M / 2 ^ (23 - a) = Q at *
      by_cases cb : b < 0
      · rw [if_pos cb, if_neg (Int32.not_le.mpr cb)]
        exact Or.inr ⟨not_Rn hq0 (by omega), not_Rn hq0 (by omega)⟩
      · rw [if_neg cb, if_pos (Int32.not_lt.mp cb)]
        by_cases r : isR (nI Q) 1000
        · exact Or.inl ⟨r, rfl⟩
        · exact Or.inr ⟨r, r⟩
    · have hn : ¬ nI a ≤ nI 10 := fun q => by have := (nI_leI (by omega) (by decide)).mp q; omega
      rw [if_neg hn]
      refine Or.inr ⟨?_, ?_⟩
      · by_cases c3 : 22 < a
        · rw [if_pos (nI_lt c3 (by omega))]
          exact not_R (by decide) (by decide)
        · rw [if_neg (nI_nlt (by omega) (by decide)), pk_sub (by omega), pk_shrN (n := M) (by omega) _ (23 - a) (sm_nI _ (by omega))]
          have h12 : 2 ^ (23 - a) ≤ 2 ^ 12 := Nat.pow_le_pow_right (by decide) (by omega)
          have hp : 0 < 2 ^ (23 - a) := Nat.pow_pos (by decide)
          have hq : M / 2 ^ (23 - a) ≤ M := Nat.div_le_self _ _
          have hq0 : 2048 ≤ M / 2 ^ (23 - a) := by
            rw [Nat.le_div_iff_mul_le hp]
            have : 2048 * 2 ^ (23 - a) ≤ 2048 * 2 ^ 12 := Nat.mul_le_mul_left _ h12
            omega
          generalize M / 2 ^ (23 - a) = Q at *
          split
          · exact not_Rn (by omega) (by omega)
          · exact not_R (by omega) (by omega)
      · split
        · exact not_R (by decide) (by decide)
        · exact not_Rn (by decide) (by decide)
theorem scan_none {p : Nat → Bool} : ∀ {n lo : Nat}, scan p lo n = none ↔ ∀ i, lo ≤ i → i < lo + n → p i = false
  | 0, lo => ⟨fun _ i h1 h2 => absurd h2 (by omega), fun _ => rfl⟩
  | n + 1, lo => by
    rw [scan]
    by_cases q : p lo = true
    · rw [if_pos q]
      exact ⟨fun h => (by cases h), fun h => by have := h lo (by omega) (by omega); rw [q] at this; cases this⟩
    · rw [if_neg q, scan_none]
      constructor
      · intro h i h1 h2
        by_cases e : i = lo
        · rw [e]; simpa using q
        · exact h i (by omega) (by omega)
      · intro h i h1 h2
        exact h i (by omega) (by omega)
section
variable {σ μ : St}
theorem Rel.who (h : Rel σ μ) {s i : Nat} (hs : s < 4) (hi : i < 24) : (isR (cWhole σ s i) 1000 ∧ cWhole σ s i = mWhole μ s i) ∨ (¬ isR (cWhole σ s i) 1000 ∧ ¬ isR (mWhole μ s i) 1000) := by
  have h3 := h.2.2.1 s hs
  unfold cWhole mWhole
  rw [h3.1, h3.2.2.2.2 i hi]
  split
  · exact cut_eq _
  · by_cases r : isR (μ 5 (24 * s + i)) 1000
    · exact Or.inl ⟨r, rfl⟩
    · exact Or.inr ⟨r, r⟩
theorem car_at (s : Nat) (μ : St) : ∀ n, (∀ j, j ≠ 6 → (it0 (fmCar s) n μ) j = μ j) ∧ ∀ i, i < n → (it0 (fmCar s) n μ) 6 i = mWhole μ s i
  | 0 => ⟨fun _ _ => rfl, fun i hi => absurd hi (Nat.not_lt_zero i)⟩
  | n + 1 => by
    have ih := car_at s μ n
    rw [it0]
    generalize it0 (fmCar s) n μ = x at *
    have hw : mWhole x s n = mWhole μ s n := by unfold mWhole; rw [ih.1 3 (by decide), ih.1 5 (by decide)]
    unfold fmCar
    refine ⟨fun j hj => (wr_ne hj).trans (ih.1 j hj), fun i hi => ?_⟩
    by_cases e : i = n
    · rw [e, wr_in, hw]
    · exact (wr_out e).trans (ih.2 i (by omega))
theorem drw_at {x : St} (h : Rel σ x) {w m s N : Nat} (hw : w < 10) (hN : N ≤ 24 - m) (hx : ∀ i, i < N → isR (cWhole σ s i) 1000 ∧ x 6 i = cWhole σ s i) : ∀ n, n ≤ N → Rel (it0 (fDrw w m s) n σ) (it0 (fmDrw w m) n x) ∧ (∀ k, k ≠ 20 → it0 (fDrw w m s) n σ k = σ k) ∧ ∀ k, k ≠ 1 → it0 (fmDrw w m) n x k = x k
  | 0, _ => ⟨h, fun _ _ => rfl, fun _ _ => rfl⟩
  | n + 1, hn => by
    have ih := drw_at h hw hN hx n (by omega)
    rw [it0, it0]
    generalize it0 (fDrw w m s) n σ = a at *
    generalize it0 (fmDrw w m) n x = b at *
    have e1 : cWhole a s n = cWhole σ s n := by
      unfold cWhole
      by_cases q : 46 + s = 20
      · omega
      · by_cases q2 : 50 + s = 20
        · omega
        · rw [ih.2.1 _ q, ih.2.1 _ q2]
    have hxn := hx n (by omega)
    unfold fDrw fmDrw
    rw [e1, ih.2.2 6 (by decide), hxn.2]
    refine ⟨?_, fun k hk => (wr_ne hk).trans (ih.2.1 k hk), fun k hk => (wr_ne hk).trans (ih.2.2 k hk)⟩
    rw [show 50 + 24 * w + m + n = 50 + 24 * w + (m + n) by omega]
    exact ih.1.setD hw (by omega) hxn.1
theorem e_draws (h : Rel σ μ) (w m s : Int32) : EQ (cfDraws σ w m s) (mfDraws μ w m s) := by
  refine EQ.ite (and_congr (h.iw w) Iff.rfl) (fun c => ?_) (fun _ => relF h _)
  have hw := (h.ix c.1).1
  have hm : tn m < 24 := by have := (ix_R (by decide) c.2.1).1; omega
  have hs : tn s < 4 := by have := (ix_R (by decide) c.2.2).1; omega
  generalize tn w = w at *
  generalize tn m = m at *
  generalize tn s = s at *
  have h3 := h.2.2.1 s hs
  have hd : drN σ m s = mdrN μ m s := by unfold drN mdrN; rw [h3.2.1]
  have hdN : mdrN μ m s ≤ 24 - m := by unfold mdrN; omega
  rw [hd]
  generalize mdrN μ m s = N at *
  refine EQ.ite (by rw [h.kind hw]) (fun _ => relF h _) (fun _ => EQ.ite (by rw [h3.1]) (fun _ => relF h _) (fun _ => EQ.ite ?_ (fun _ => ?_) (fun _ => relF h _)))
  · refine forall_congr' (fun i => forall_congr' (fun hi => ?_))
    rw [h3.1, h3.2.2.2.2 i (by omega)]
  · have hb : mBad μ s N = scan (fun i => decide (¬ isR (mWhole μ s i) 1000)) 0 N := by
      unfold mBad
      refine scan_cong (fun i h1 h2 => ?_)
      have ha := car_at s μ i
      have : mWhole (it0 (fmCar s) i μ) s i = mWhole μ s i := by unfold mWhole; rw [ha.1 3 (by decide), ha.1 5 (by decide)]
      rw [this]
    unfold mDrws
    rw [hb]
    by_cases q : swa σ s N
    · have hq : ∀ i, i < N → isR (cWhole σ s i) 1000 ∧ cWhole σ s i = mWhole μ s i := fun i hi => by
        rcases h.who (i := i) hs (by omega) with z | z
        · exact z
        · exact absurd (q i hi) z.1
      rw [if_pos q, scan_none.mpr (fun i h1 h2 => by have := hq i (by omega); rw [← this.2]; simpa using this.1)]
      have ha := car_at s μ N
      have hr : Rel σ (it0 (fmCar s) N μ) := h.scr (fun k _ _ => rfl) (fun k hk => ha.1 k (by omega))
      have := drw_at hr (s := s) hw hdN (fun i hi => ⟨(hq i hi).1, by rw [ha.2 i hi]; exact (hq i hi).2.symm⟩) N (Nat.le_refl _)
      exact ⟨rfl, this.1⟩
    · rw [if_neg q]
      have : ∃ k, scan (fun i => decide (¬ isR (mWhole μ s i) 1000)) 0 N = some k := by
        cases hh : scan (fun i => decide (¬ isR (mWhole μ s i) 1000)) 0 N with
        | some k => exact ⟨k, rfl⟩
        | none =>
          exfalso
          refine q (fun i hi => ?_)
          have h1 := scan_none.mp hh i (by omega) (by omega)
          have h2 : isR (mWhole μ s i) 1000 := by simpa using h1
          rcases h.who (i := i) hs (by omega) with z | z
          · exact z.1
          · exact absurd h2 z.2
      obtain ⟨k, hk⟩ := this
      rw [hk]
      have ha := car_at s μ (k + 1)
      exact relF (h.scr (fun k _ _ => rfl) (fun k hk => ha.1 k (by omega))) _
end
