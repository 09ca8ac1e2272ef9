section
variable {σ μ x y : St}
/-- one turn keeps what the run needs -/
theorem svk_turn {fr D j : Nat} (h : Sv σ fr D x y) (hl : nLi σ ≤ 10) (hN : nW σ ≤ 10) (hfr : fr < 24) (hj : j < nLi σ) : ∃ r, cMore x j fr (cFree x (lwl x j) fr) = nI r ∧ mAmt y j fr = nI r ∧ Sv σ fr (D ||| 2 ^ j) (cGrant x j fr (cFree x (lwl x j) fr)) (mGrT (mFree y (mlw y j) fr).2 j (mlw y j) fr (mAmt y j fr)) := by
  obtain ⟨h1, h2, h3, h4, h5⟩ := h
  have hL := (sv_l h2).1
  have hW := (sv_l h2).2
  have hlw : ∀ i, lwl x i = lwl σ i := fun i => by unfold lwl; rw [h2 13 (by decide) (by decide) (by decide)]
  have hown : ∀ u m, own x u m ↔ own σ u m := fun u m => by unfold own; rw [h2 3 (by decide) (by decide) (by decide)]
  have hwN := hat_lwN h1 (i := j) (by rw [hL]; exact hj)
  have hm := (hat_lw h1 (i := j) (by omega)).1
  have hw := (hat_lw h1 (i := j) (by omega)).2
  have hG : ∀ m, fr ≤ m → m < 24 → own x (lwl x j) m → Nb (y 9 (lwl x j)) 1000 ∧ x 20 (lwl x j * 24 + m) = y 9 (lwl x j) := fun m a b c => by
    have := h5 j hj m a b
    rw [← hlw j] at this
    exact this ((hown _ _).mp c)
  obtain ⟨r, r0, r1, r2, r3, r4, r5⟩ := turn_amt h1 (w := lwl x j) (by omega) hw rfl hfr (fun p n a b c => h4 p n (by rw [← hW]; exact a) b c) hG
  refine ⟨r, r1, r2, ?_⟩
  unfold cGrant mGrT
  rw [r1, r2, hm]
  have hlj := hlw j
  generalize lwl x j = w at *
  generalize (mFree y w fr).2 = z at *
  -- the reference's row of what was given
  have hR3 : Rel (hS x) (hM (wr z 9 w (z 9 w + nI r))) := by
    refine h1.scr (fun k _ _ => rfl) (fun k hk => ?_)
    unfold hM
    by_cases e : k = 1
    · subst e
      rw [wr_row, wr_row, wr_ne (by decide), r5 1 (by decide) (by decide)]
    · rw [wr_ne e, wr_ne e, wr_ne (by omega), r5 k (by omega) (by omega)]
  have h9 : z 9 = y 9 := r5 9 (by decide) (by decide)
  have hv : ∀ m, fr ≤ m → m < 24 → own x w m → isR (x 20 (w * 24 + m) + nI r) 1000 := fun m a b c => by
    have g := hG m a b c
    have g2 := r4 ⟨m, a, b, c⟩
    rw [g.2, g.1.1, nI_add]
    exact ⟨nI_le (Nat.zero_le _) (by omega), nI_le (by omega) (by decide)⟩
  obtain ⟨i1, i2, i3, i4, i5⟩ := gr_any hR3 (r := r) hw (by omega) r3 hv
  have ihi := fma_hi (fr := fr) (v := nI r) hw (wr z 9 w (z 9 w + nI r)) (24 - fr) (by omega)
  have hzero : r = 0 → cGr1 x w fr (nI r) = x := fun e => by rw [e]; unfold cGr1; exact grZ0 x _
  generalize it (fmA w (nI r)) fr (24 - fr) (wr z 9 w (z 9 w + nI r)) = t at *
  generalize cGr1 x w fr (nI r) = a at *
  have ha : nW a = nW σ := by rw [← hW]; unfold nW; rw [i2 2 (by decide)]
  have u := use_all (s := w) (fr := fr) (v := nI r) a (nW a)
  unfold cUse
  generalize it0 (gUse w fr (nI r)) (nW a) a = c at *
  obtain ⟨u1, -, u3⟩ := u
  have hc : ∀ k, k ≠ 20 → k ≠ 22 → c k = x k := fun k q1 q2 => (u1 k q2).trans (i2 k q1)
  have hSc : ∀ k, k ≠ 16 → hS (wr c 16 j (nI r)) k = c k := fun k q => by rw [hS_16, hS_ne q]
  refine ⟨?_, fun k a1 a2 a3 => ?_, fun i hi => ?_, fun p n hp q1 q2 => ?_, fun i hi m q1 q2 q3 => ?_⟩
  · rw [hS_16, hM_wr (by omega)]
    refine Rel.setV ?_ (by unfold hM; rw [wr_in]) (by omega) r0
    refine i1.scr (fun k _ k22 => ?_) (fun k _ => rfl)
    by_cases e : k = 16
    · subst e
      unfold hS
      rw [wrA_row, wrA_row]
    · rw [hS_ne e, hS_ne e, u1 k k22]
  · rw [wr_ne a1, hc k a2 a3]
    exact h2 k a1 a2 a3
  · rw [bit_set]
    by_cases e : i = j
    · subst e
      rw [wr_in, wr_in]
      refine ⟨fun q => absurd q (by simp), fun _ => ⟨rfl, ?_⟩⟩
      refine ⟨by rw [nI_clamp (by omega)], by rw [nI_clamp (by omega)]; exact r0⟩
    · rw [wr_out e, wr_out (by omega), hc 16 (by decide) (by decide), ihi _ (by omega), wr_ne (by decide), r5 1 (by decide) (by decide)]
      simp only [e, decide_false, Bool.or_false]
      exact h3 i hi
  · rw [wr_ne (by decide), u3 p n (by rw [ha]; exact hp) q1 q2, i2 22 (by decide), h4 p n hp q1 q2]
    have hx0 : nW (hS x) = nW σ := by rw [← hW]; unfold nW; rw [hS_ne (by decide)]
    rcases r3 with hk | hk
    · have hd : Dif w (hS x) (hS (wr c 16 j (nI r))) := ⟨fun k k1 k2 => by rw [hSc k (by omega), hc k (by omega) (by omega), hS_ne (by omega)], by rw [hSc 21 (by decide), hc 21 (by decide) (by decide), hS_ne (by decide)], fun v i v1 v2 => by rw [hSc 20 (by decide), u1 20 (by decide), i4 v i v2 (Or.inl v1), hS_ne (by decide)]⟩
      have hda : Dif w (hS x) a := ⟨fun k k1 k2 => by rw [i2 k (by omega), hS_ne (by omega)], by rw [i2 21 (by decide), hS_ne (by decide)], fun v i v1 v2 => by rw [i4 v i v2 (Or.inl v1), hS_ne (by decide)]⟩
      have hkd : kd (hS x) w = kd x w := by unfold kd; rw [hS_ne (by decide)]
      rw [abv_more (v := nI r) (fr := fr) hd q2 q1 (by rw [hx0, ← hW]; exact hwN) (h1.ct1 hw (by rw [hkd]; exact hk)) (fun m m1 m2 m3 => by
        rw [hSc 20 (by decide), u1 20 (by decide), hS_ne (by decide)]
        refine i5 m m1 m2 ?_
        unfold own at m3 ⊢
        rw [hS_ne (by decide)] at m3
        exact m3) (fun m m1 => by
        rw [hSc 20 (by decide), u1 20 (by decide), hS_ne (by decide)]
        exact i4 w m (by omega) (Or.inr m1)), dif_one hda]
    · have hax := hzero hk
      have hh : Hat (hS x) (hS (wr c 16 j (nI r))) := ⟨fun k k1 k2 => by rw [hSc k (by omega), hc k (by omega) (by omega), hS_ne (by omega)], by rw [hSc 20 (by decide), u1 20 (by decide), hax, hS_ne (by decide)], by rw [hSc 21 (by decide), hc 21 (by decide) (by decide), hS_ne (by decide)]⟩
      rw [hat_abv hh (by rw [hx0]; exact hN) q2, hk, nI00, Int32.zero_mul, Int32.sub_zero]
  · rw [wr_ne (by decide), wr_ne (by decide), u1 20 (by decide), i3 9 (by decide)]
    by_cases e : lwl σ i = w
    · rw [e, wr_in, h9]
      rw [e] at q3
      have q4 := (hown w m).mpr q3
      have g := hG m q1 q2 q4
      have g2 := r4 ⟨m, q1, q2, q4⟩
      rw [i5 m q1 q2 q4, g.2]
      refine ⟨?_, rfl⟩
      have e2 : y 9 w + nI r = nI ((y 9 w).toNatClampNeg + r) := by
        rw [← nI_add, ← g.1.1]
      rw [e2]
      exact ⟨by rw [nI_clamp (by omega)], by rw [nI_clamp (by omega)]; omega⟩
    · rw [wr_out e, h9, i4 _ m q2 (Or.inl e)]
      exact h5 i hi m q1 q2 q3
/-- all turns -/
theorem svk_loop (h : Rel σ μ) {fr : Nat} (hfr : fr < 24) : ∀ n, n ≤ nLi σ → (it0 (fServe fr) n (nI 0, cFsp (cUns σ fr) fr)).1 = (mSv μ fr n).1.1 ∧ Sv σ fr (mSv μ fr n).1.2 (it0 (fServe fr) n (nI 0, cFsp (cUns σ fr) fr)).2 (mSv μ fr n).2 ∧ n ≤ ctb (mSv μ fr n).1.2 (nLi σ)
  | 0, _ => by
    unfold mSv
    rw [it0, it0]
    exact ⟨rfl, sv_start h hfr, Nat.zero_le _⟩
  | n + 1, hn => by
    obtain ⟨k1, k2, k3⟩ := svk_loop h hfr n (by omega)
    obtain ⟨v1, v2, v3⟩ := sv_inv h.wm (fr := fr) (by omega) n (by rw [← h.L]; omega)
    have hstep : mSv μ fr (n + 1) = fmServe fr n (mSv μ fr n) := by unfold mSv; rw [it0]
    rw [hstep, it0]
    generalize it0 (fServe fr) n (nI 0, cFsp (cUns σ fr) fr) = q at *
    generalize mSv μ fr n = p at *
    have hwm := v1.wm h.wm
    have hmL : mL p.2 = nLi σ := by rw [v1.l, h.L]
    obtain ⟨o1, o2, o3⟩ := nx_ok hwm (D := p.1.2) (by rw [hmL]; exact ctb_ex (by rw [← h.L] at v3; omega))
    have hnx := sv_next k2 h.wc.l10
    rw [hmL] at o2
    unfold fServe fmServe
    rw [hnx, if_pos (Int32.not_lt.mp o1)]
    show q.1 + cMore q.2 (mNx p.2 p.1.2).toNatClampNeg fr (cFree q.2 (lwl q.2 (mNx p.2 p.1.2).toNatClampNeg) fr) = p.1.1 + mAmt p.2 (mNx p.2 p.1.2).toNatClampNeg fr ∧ Sv σ fr (p.1.2 ||| 2 ^ (mNx p.2 p.1.2).toNatClampNeg) (cGrant q.2 (mNx p.2 p.1.2).toNatClampNeg fr (cFree q.2 (lwl q.2 (mNx p.2 p.1.2).toNatClampNeg) fr)) (mGrT (mFree p.2 (mlw p.2 (mNx p.2 p.1.2).toNatClampNeg) fr).2 (mNx p.2 p.1.2).toNatClampNeg (mlw p.2 (mNx p.2 p.1.2).toNatClampNeg) fr (mAmt p.2 (mNx p.2 p.1.2).toNatClampNeg fr)) ∧ n + 1 ≤ ctb (p.1.2 ||| 2 ^ (mNx p.2 p.1.2).toNatClampNeg) (nLi σ)
    generalize (mNx p.2 p.1.2).toNatClampNeg = j at *
    obtain ⟨r, r1, r2, r3⟩ := svk_turn k2 h.wc.l10 h.wc.n10 hfr o2
    refine ⟨by rw [r1, r2, k1], r3, ?_⟩
    rw [ctb_new o3, if_pos o2]
    omega
theorem e_serve (h : Rel σ μ) (m : Int32) : EQ (cfServe σ m) (mfServe μ m) := by
  refine EQ.ite Iff.rfl (fun c => ?_) (fun _ => relF h _)
  have hm : tn m < 24 := by have := (ix_R (by decide) c).1; omega
  generalize tn m = fr at *
  obtain ⟨k1, k2, k3⟩ := svk_loop h hm (nLi σ) (Nat.le_refl _)
  have v1 := (sv_inv h.wm (fr := fr) (by omega) (mL μ) (Nat.le_refl _)).1
  have h10 := h.wc.l10
  unfold cServe mServe
  rw [← h.L] at v1 ⊢
  generalize it0 (fServe fr) (nLi σ) (nI 0, cFsp (cUns σ fr) fr) = q at *
  generalize mSv μ fr (nLi σ) = p at *
  refine ⟨k1, ?_⟩
  have hall := ctb_all k3
  refine k2.1.bare h10 ?_
  have hmL : (p.2 1 1087).toNatClampNeg = nLi σ := by
    have := v1.l
    unfold mL at this
    rw [this]
    exact h.L.symm
  unfold Svd
  rw [wr_in, nI_clamp (by omega), wr_out (show (1087 : Nat) ≠ 1089 by decide), hmL]
  refine ⟨Nat.le_refl _, fun i hi hi2 => ⟨fun _ => ?_, fun z => absurd hi2 z⟩⟩
  rw [wr_out (show 566 + 4 * i + 3 ≠ 1089 by omega)]
  exact ((k2.2.2.1 i hi2).2 (hall i hi2)).1
end
