/-- the turn of one licence -/
theorem ctb_top (D : Nat) : ∀ n, ctb D n ≤ n
  | 0 => Nat.le_refl _
  | n + 1 => by
    have h := ctb_top D n
    rw [ctb]
    split <;> omega
theorem ctb_all {D : Nat} : ∀ {n : Nat}, n ≤ ctb D n → ∀ i, i < n → D.testBit i = true
  | 0, _, i, hi => absurd hi (Nat.not_lt_zero i)
  | n + 1, h, i, hi => by
    have h1 := ctb_top D n
    rw [ctb] at h
    by_cases q : D.testBit n = true
    · rw [if_pos q] at h
      by_cases e : i = n
      · rw [e]; exact q
      · exact ctb_all (n := n) (by omega) i (by omega)
    · rw [if_neg q] at h
      omega
theorem ctb_new {D j : Nat} (hj : D.testBit j = false) : ∀ n, ctb (D ||| 2 ^ j) n = ctb D n + (if j < n then 1 else 0)
  | 0 => by rw [ctb, ctb, if_neg (Nat.not_lt_zero j)]
  | n + 1 => by
    rw [ctb, ctb, ctb_new hj n, bit_set]
    by_cases e : n = j
    · subst e
      rw [hj, if_neg (Nat.lt_irrefl n), if_pos (Nat.lt_succ_self n)]
      simp
    · by_cases q : j < n
      · rw [if_pos q, if_pos (show j < n + 1 by omega)]
        simp only [e, decide_false, Bool.or_false]
        omega
      · rw [if_neg q, if_neg (show ¬ j < n + 1 by omega)]
        simp only [e, decide_false, Bool.or_false]
        omega
theorem fma_hi {w fr : Nat} {v : Int32} (hw : w < 10) (y : St) : ∀ k, fr + k ≤ 24 → ∀ J, 290 ≤ J → it (fmA w v) fr k y 1 J = y 1 J
  | 0, _, J, _ => by rw [it]
  | k + 1, hk, J, hJ => by
    have ih := fma_hi hw (v := v) (fr := fr) y k (by omega) J hJ
    rw [it]
    generalize it (fmA w v) fr k y = a at *
    unfold fmA
    split
    · exact ih
    · rw [wr_out (by omega)]
      exact ih
section
variable {σ μ x y : St}
/-- what was served changes while nothing counts as served -/
theorem Rel.setV (h : Rel σ μ) (h0 : μ 1 1089 = nI 0) {j r : Nat} (hj : j < 10) (hr : r ≤ 1000) : Rel σ (wr μ 1 (566 + 4 * j + 3) (nI r)) := by
  refine h.chg rfl (fun k hk => rfl) (wr_ne (by decide)) (wr_ne (by decide)) (wr_ne (by decide)) (wr_ne (by decide)) (wr_ne (by decide)) ⟨fun J hJ => ?_, ?_, ?_⟩ ⟨fun K i J hK => ?_, ?_⟩
  · by_cases e : J = 566 + 4 * j + 3
    · rw [e, wr_in]; exact nI_B (n := 1000) (by decide) hr (b_sv hj)
    · rw [wr_out e]; exact h.1.1 J hJ
  · rw [wr_out (by omega), ctm_cong (r := μ 1) (fun k hk => wr_out (by omega))]
    exact h.1.2.1
  · exact h.1.2.2.same (fun J hJ => wr_out (by omega))
  · have hl := po_lt hK
    rw [wr_out (by omega)]
    exact h.2.1.1 K i J hK
  · have hs := h.2.1.2
    unfold Svd at hs ⊢
    rw [wr_out (show (1089 : Nat) ≠ 566 + 4 * j + 3 by omega), wr_out (show (1087 : Nat) ≠ 566 + 4 * j + 3 by omega)]
    have hz : (μ 1 1089).toNatClampNeg = 0 := by rw [h0]; exact nI_clamp (by decide)
    rw [hz] at hs ⊢
    exact ⟨hs.1, fun i hi hi2 => ⟨fun z => absurd z (Nat.not_lt_zero i), (hs.2 i hi hi2).2⟩⟩
theorem wm_hM (h : WM (hM y)) : WM y := by
  have e : ∀ J, J ≠ 1089 → hM y 1 J = y 1 J := fun J q => wr_out q
  have e4 : hM y 4 = y 4 := wr_ne (by decide)
  obtain ⟨a1, a2, a3, a4, a5⟩ := h
  refine ⟨?_, fun w hw => ⟨?_, ?_⟩, ?_, fun i hi => ?_, fun s hs => ?_⟩
  · rw [← e 1086 (by decide)]; exact a1
  · rw [← e (0 + 5 * w + 1) (by omega)]; exact (a2 w hw).1
  · rw [← e (0 + 5 * w + 2) (by omega)]; exact (a2 w hw).2
  · rw [← e 1087 (by decide)]; exact a3
  · rw [← e (566 + 4 * i + 0) (by omega)]; exact a4 i hi
  · rw [← e4]; exact a5 s hs
theorem hat_lwN (h : Rel (hS x) (hM y)) {i : Nat} (hi : i < nLi x) : lwl x i < nW x := by
  have h10 := h.wc.l10
  have e0 : nLi (hS x) = nLi x := by unfold nLi; rw [hS_ne (by decide)]
  rw [e0] at h10
  have h1 := h.1.2.2 i (by omega)
  rw [← h.l, ← h.lw (i := i) (by omega), ← h.n, hS_ne (by decide), hS_ne (by decide), hS_ne (by decide)] at h1
  exact h1 hi
/-- both frees, and what the reference's leaves behind -/
theorem turn_free (h : Rel (hS x) (hM y)) {w fr : Nat} (hw : w < 10) (hfr : fr < 24) (h22 : ∀ p n, p < nW x → fr ≤ n → n < 24 → x 22 (p * 24 + n) = cAbv (hS x) p n) : ∃ b, b ≤ 1000 ∧ cFree x w fr = nI b ∧ (mFree y w fr).1 = nI b ∧ (∀ k, k ≠ 7 → k ≠ 8 → (mFree y w fr).2 k = y k) ∧ (0 < ctf (kd x w) ∨ b = 0) := by
  have hk : kd (hS x) w = kd x w := by unfold kd; rw [hS_ne (by decide)]
  have hn : nW (hS x) = nW x := by unfold nW; rw [hS_ne (by decide)]
  have hm := wm_hM h.wm
  by_cases hc : 0 < ctf (kd x w)
  · obtain ⟨b, b1, b2, b3⟩ := free_eq h hS_hat lo_hM hm hw hfr (fun p n a1 a2 a3 => h22 p n (by rw [← hn]; exact a1) a2 a3) (by rw [hk]; exact hc)
    refine ⟨b, b1, b2, by rw [b3], fun k h7 h8 => ?_, Or.inl hc⟩
    rw [b3]
    exact (fill_at hm hw hfr).1 k h7 h8
  · have hq : ¬ mKind y w ≤ nI 2 := by
      intro z
      refine hc ?_
      rw [← hk]
      refine (h.pos hw).mpr ?_
      rw [lo_kind hM_lo hw]
      exact z
    refine ⟨0, by decide, ?_, ?_, fun k _ _ => ?_, Or.inr rfl⟩
    · unfold cFree; rw [if_neg hc]
    · unfold mFree; rw [if_neg hq]
    · unfold mFree; rw [if_neg hq]
/-- the room of a well that does not pump: nothing is granted -/
theorem room_no {w fr : Nat} (hfr : fr < 24) (hc : ¬ 0 < ctf (kd x w)) (hG : ∀ m, fr ≤ m → m < 24 → own x w m → Nb (y 9 w) 1000 ∧ x 20 (w * 24 + m) = y 9 w) : mn (nI 0) (cRoom x w fr) = nI 0 ∧ mAm2 y w fr (nI 0) = nI 0 ∧ Nb (y 9 w) 1000 := by
  have h2 : ¬ x 3 w = nI 2 := fun e => hc (by unfold kd; rw [e]; decide)
  have hg := (hG fr (Nat.le_refl _) hfr (Or.inl h2)).1
  have hx : ∀ m, fr ≤ m → m < 24 → own x w m → x 20 (w * 24 + m) = nI (y 9 w).toNatClampNeg := fun m h1 h2 h3 => by
    rw [← hg.1]
    exact (hG m h1 h2 h3).2
  have hg2 := hg.2
  refine ⟨?_, ?_, hg⟩
  · unfold cRoom
    rcases room_in hg2 hx (24 - fr) (by omega) with ⟨-, e⟩ | ⟨-, e⟩
    · rw [e, mn_nI (by omega) (by omega), Nat.min_eq_left (Nat.zero_le _)]
    · rw [e, mn_nI (by omega) (by omega), Nat.min_eq_left (Nat.zero_le _)]
  · unfold mAm2
    rw [hg.1, pk_sub hg2]
    exact if_neg (fun z => nI_nlt (Nat.zero_le _) (by omega) z.2)
/-- both amounts -/
theorem turn_amt (h : Rel (hS x) (hM y)) {j w fr : Nat} (hj : j < 10) (hw : w < 10) (hwj : lwl x j = w) (hfr : fr < 24) (h22 : ∀ p n, p < nW x → fr ≤ n → n < 24 → x 22 (p * 24 + n) = cAbv (hS x) p n) (hG : ∀ m, fr ≤ m → m < 24 → own x w m → Nb (y 9 w) 1000 ∧ x 20 (w * 24 + m) = y 9 w) : ∃ r, r ≤ 1000 ∧ cMore x j fr (cFree x w fr) = nI r ∧ mAmt y j fr = nI r ∧ (0 < ctf (kd x w) ∨ r = 0) ∧ ((∃ m, fr ≤ m ∧ m < 24 ∧ own x w m) → r + (y 9 w).toNatClampNeg ≤ 1000) ∧ ∀ k, k ≠ 7 → k ≠ 8 → (mFree y w fr).2 k = y k := by
  obtain ⟨b, b1, b2, b3, b4, b5⟩ := turn_free h hw hfr h22
  have hla := hat_la h hj
  have hlw : mlw y j = w := by rw [(hat_lw h hj).1]; exact hwj
  unfold cMore mAmt
  rw [hlw, hwj, b2, b3]
  generalize (mFree y w fr).2 = z at *
  have e1 : mAm2 z w fr = mAm2 y w fr := by
    funext v
    unfold mAm2 mDrs mSgn mKind
    rw [b4 1 (by decide) (by decide), b4 9 (by decide) (by decide)]
  rw [e1, hla.1, hla.2.1]
  have hv := hla.2.2
  generalize (x 15 j).toNatClampNeg = v at *
  rw [amt1 hv b1, mn_nI (by omega) (by omega)]
  rcases b5 with hc | hb
  · obtain ⟨r, r1, r2, r3, r4⟩ := room_eq h (a := min v b) hw hfr hc (by omega) hG
    exact ⟨r, by omega, r3, r4, Or.inl hc, r2, b4⟩
  · by_cases hc : 0 < ctf (kd x w)
    · obtain ⟨r, r1, r2, r3, r4⟩ := room_eq h (a := min v b) hw hfr hc (by omega) hG
      exact ⟨r, by omega, r3, r4, Or.inl hc, r2, b4⟩
    · obtain ⟨n1, n2, n3⟩ := room_no hfr hc hG
      rw [hb, Nat.min_eq_right (Nat.zero_le _)]
      exact ⟨0, by decide, n1, n2, Or.inr rfl, fun _ => by have := n3.2; omega, b4⟩
end
