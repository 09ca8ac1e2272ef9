/-- both answer alike, and stay related -/
def EQ (a b : Int32 × St) : Prop := a.1 = b.1 ∧ Rel a.2 b.2
theorem EQ.ite {c d : Prop} [Decidable c] [Decidable d] {a a2 b b2 : Int32 × St} (hcd : c ↔ d) (h1 : c → EQ a b) (h2 : ¬ c → EQ a2 b2) : EQ (if c then a else a2) (if d then b else b2) := by
  by_cases q : c
  · rw [if_pos q, if_pos (hcd.mp q)]; exact h1 q
  · rw [if_neg q, if_neg (fun z => q (hcd.mpr z))]; exact h2 q
theorem ix_R {v : Int32} {n : Nat} (hn : n < 2000000) (h : isR v n) : tn v ≤ n ∧ v = nI (tn v) := by
  obtain ⟨j, hj, rfl⟩ := isR_nat hn h
  have : tn (nI j) = j := nI_clamp (by omega)
  rw [this]
  exact ⟨hj, rfl⟩
theorem isR_B {v : Int32} {n J : Nat} (hn : n < 2000000) (h : isR v n) (hb : bnd J = (0, (n : Int))) : inB J v := by
  obtain ⟨j, hj, rfl⟩ := isR_nat hn h
  unfold inB
  rw [hb, nI_toInt (by omega)]
  show (0 : Int) ≤ (j : Int) ∧ (j : Int) ≤ (n : Int)
  omega
theorem isH_B {v : Int32} {J : Nat} (h : isH v) (hb : bnd J = (-100000, 100000)) : inB J v := by
  obtain ⟨h1, h2⟩ := h
  rw [Int32.le_iff_toInt_le] at h1 h2
  unfold inB
  rw [hb]
  exact ⟨h1, h2⟩
theorem b_r {w : Nat} (hw : w < 10) : bnd (5 * w + 3) = (-100000, 100000) := by unfold bnd; rw [if_pos (by omega), if_neg (by omega), if_neg (by omega)]
theorem b_li {w : Nat} (hw : w < 10) : bnd (5 * w + 4) = (-100000, 100000) := by unfold bnd; rw [if_pos (by omega), if_neg (by omega), if_neg (by omega)]
theorem nI_B {J j n : Nat} (hn : n < 2000000) (h : j ≤ n) (hb : bnd J = (0, (n : Int))) : inB J (nI j) := by
  unfold inB
  rw [hb, nI_toInt (by omega)]
  show (0 : Int) ≤ (j : Int) ∧ (j : Int) ≤ (n : Int)
  omega
section
variable {σ μ : St}
theorem relF (h : Rel σ μ) (c : Int32) : EQ (c, fnd σ) (c, mfnd μ) := ⟨rfl, h.fnd⟩
theorem Rel.v (h : Rel σ μ) {a b : Int32} (e : a = b) : EQ (a, σ) (b, μ) := ⟨e, h⟩
theorem Rel.ix (h : Rel σ μ) {v : Int32} (hv : isW σ v) : tn v < 10 ∧ v = nI (tn v) ∧ tn v < nW σ := by
  obtain ⟨j, hj, rfl⟩ := isW_nat h.wc hv
  have h10 := h.wc.n10
  have : tn (nI j) = j := nI_clamp (by omega)
  rw [this]
  exact ⟨by omega, rfl, hj⟩
theorem e_limit (h : Rel σ μ) (w v : Int32) : EQ (cfLimit σ w v) (mfLimit μ w v) := by
  refine EQ.ite (and_congr (h.iw w) Iff.rfl) (fun c => ?_) (fun _ => relF h _)
  have hw := (h.ix c.1).1
  rw [show 0 + 5 * tn w + 4 = 5 * tn w + 4 by omega]
  exact ⟨h.li hw, h.set (K := 6) (j := tn w) (if_pos hw) (isH_B c.2 (b_li hw)) (by omega)⟩
theorem e_as (h : Rel σ μ) (w k : Int32) : EQ (cfAs σ w k) (mfAs μ w k) := by
  refine EQ.ite (and_congr (h.iw w) Iff.rfl) (fun c => ?_) (fun _ => relF h _)
  have hw := (h.ix c.1).1
  refine EQ.ite ?_ (fun _ => h.v rfl) (fun _ => relF h _)
  rw [h.kind hw]
  constructor
  · rintro (q | q | q)
    · exact Or.inr (Or.inl q.symm)
    · exact Or.inl q
    · exact Or.inr (Or.inr ⟨q.2, q.1⟩)
  · rintro (q | q | q)
    · exact Or.inr (Or.inl q)
    · exact Or.inl q.symm
    · exact Or.inr (Or.inr ⟨q.2, q.1⟩)
theorem Rel.sum (h : Rel σ μ) {w : Nat} (hw : w < 10) : cSum σ w = mSum μ w := by
  unfold cSum mSum
  exact it0_cong (fun m a hm => by rw [h.draw hw hm])
theorem e_of (h : Rel σ μ) (w q : Int32) : EQ (cfOf σ w q) (mfOf μ w q) := by
  unfold cfOf mfOf
  by_cases c : isW σ w
  · have hw := (h.ix c).1
    rw [if_pos c]
    by_cases cq : isR q 5
    · rw [if_pos (show isMW μ w ∧ isR q 5 from ⟨(h.iw w).mp c, cq⟩)]
      obtain ⟨j, hj, rfl⟩ := isR_nat (by decide) cq
      rcases (show j = 0 ∨ j = 1 ∨ j = 2 ∨ j = 3 ∨ j = 4 ∨ j = 5 by omega) with rfl | rfl | rfl | rfl | rfl | rfl
      · rw [if_pos rfl, if_neg (by decide), tnI (by decide), show 0 + 5 * tn w + 0 = 5 * tn w by omega]; exact h.v (h.k hw)
      · rw [if_neg (by decide), if_pos rfl, if_neg (by decide), tnI (by decide), show 0 + 5 * tn w + 1 = 5 * tn w + 1 by omega]; exact h.v (h.x hw)
      · rw [if_neg (by decide), if_neg (by decide), if_pos rfl, if_neg (by decide), tnI (by decide), show 0 + 5 * tn w + 2 = 5 * tn w + 2 by omega]; exact h.v (h.y hw)
      · rw [if_neg (by decide), if_neg (by decide), if_neg (by decide), if_pos rfl, if_neg (by decide), tnI (by decide), show 0 + 5 * tn w + 3 = 5 * tn w + 3 by omega]; exact h.v (h.r hw)
      · rw [if_neg (by decide), if_neg (by decide), if_neg (by decide), if_neg (by decide), if_pos rfl, if_neg (by decide), tnI (by decide), show 0 + 5 * tn w + 4 = 5 * tn w + 4 by omega]; exact h.v (h.li hw)
      · rw [if_neg (by decide), if_neg (by decide), if_neg (by decide), if_neg (by decide), if_neg (by decide), if_pos rfl, if_pos (by decide)]; exact h.v (h.sum hw)
    · rw [if_neg (fun z : isMW μ w ∧ isR q 5 => cq z.2)]
      have hq : ∀ j, j ≤ 5 → q ≠ nI j := fun j hj z => cq (by rw [z]; exact ⟨nI_le (by omega) (by omega), nI_le hj (by decide)⟩)
      rw [if_neg (hq 0 (by decide)), if_neg (hq 1 (by decide)), if_neg (hq 2 (by decide)), if_neg (hq 3 (by decide)), if_neg (hq 4 (by decide)), if_neg (hq 5 (by decide))]
      exact relF h _
  · rw [if_neg c, if_neg (fun z : isMW μ w ∧ isR q 5 => c ((h.iw w).mpr z.1))]
    exact relF h _
theorem e_dist (h : Rel σ μ) (a b : Int32) : EQ (cfDist σ a b) (mfDist μ a b) := by
  refine EQ.ite (and_congr (h.iw a) (h.iw b)) (fun c => ?_) (fun _ => relF h _)
  exact h.v (by rw [h.ap (h.ix c.1).1 (h.ix c.2).1])
theorem Rel.fac (h : Rel σ μ) {l d g : Nat} (hl : l ≤ 1) (hd : d ≤ 9) (hg : g ≤ 11) : σ 9 ((l * 10 + d) * 12 + g) = μ 1 (mcl l d g) := by
  rw [h.fa (by omega)]
  congr 1
  show 290 + ((l * 10 + d) * 12 + g) = 290 + 120 * l + 12 * d + g
  omega
theorem Rel.setF (h : Rel σ μ) {l d g : Nat} {v : Int32} (hl : l ≤ 1) (hd : d ≤ 9) (hg : g ≤ 11) (hv : isR v 1000) : Rel (wr σ 9 ((l * 10 + d) * 12 + g) v) (wr μ 1 (mcl l d g) v) := by
  have hk : (l * 10 + d) * 12 + g < 240 := by omega
  have := h.set (K := 8) (j := (l * 10 + d) * 12 + g) (v := v) (if_pos hk) (isR_B (by decide) hv (b_mid (by omega) (by omega))) (by omega)
  rw [show 290 + ((l * 10 + d) * 12 + g) = mcl l d g by show _ = 290 + 120 * l + 12 * d + g; omega] at this
  exact this
theorem e_table (h : Rel σ μ) (i d g v : Int32) : EQ (cfTable σ i d g v) (mfTable μ i d g v) := by
  refine EQ.ite ⟨fun c => ⟨c.1, c.2.2.2, c.2.1, c.2.2.1⟩, fun c => ⟨c.1, c.2.2.1, c.2.2.2, c.2.1⟩⟩ (fun c => ?_) (fun _ => relF h _)
  have hi := (ix_R (by decide) c.1).1
  have hg := (ix_R (by decide) c.2.1).1
  have hd := (ix_R (by decide) c.2.2.2).1
  generalize tn i = i at *
  generalize tn d = d at *
  generalize tn g = g at *
  refine EQ.ite ?_ (fun _ => ⟨h.fac hi hd hg, h.setF hi hd hg c.2.2.1⟩) (fun _ => relF h _)
  refine and_congr ?_ ?_
  · refine or_congr Iff.rfl ?_
    rw [h.fac hi (show d - 1 ≤ 9 by omega) hg]
  · by_cases q : d = 9
    · exact ⟨fun _ => Or.inl (by omega), fun _ => Or.inl q⟩
    · rw [h.fac hi (show d + 1 ≤ 9 by omega) hg]
      exact ⟨fun z => z.elim (fun z => absurd z q) Or.inr, fun z => z.elim (fun z => absurd (show d = 9 by omega) q) Or.inr⟩
theorem e_rainT (h : Rel σ μ) (g v : Int32) : EQ (cfRainT σ g v) (mfRainT μ g v) := by
  refine EQ.ite Iff.rfl (fun c => ?_) (fun _ => relF h _)
  have hg := (ix_R (by decide) c.1).1
  have hk : tn g < 12 := by omega
  exact ⟨h.ri hk, h.set (K := 9) (j := tn g) (if_pos hk) (isR_B (by decide) c.2 (b_mid (by omega) (by omega))) (by omega)⟩
theorem e_rain (h : Rel σ μ) (m v : Int32) : EQ (cfRain σ m v) (mfRain μ m v) := by
  refine EQ.ite Iff.rfl (fun c => ?_) (fun _ => relF h _)
  have hg := (ix_R (by decide) c.1).1
  have hk : tn m < 24 := by omega
  exact ⟨h.ra hk, h.set (K := 20) (j := tn m) (if_pos hk) (isR_B (by decide) c.2 (b_mid (by omega) (by omega))) (by omega)⟩
theorem Rel.setD (h : Rel σ μ) {w m : Nat} {v : Int32} (hw : w < 10) (hm : m < 24) (hv : isR v 1000) : Rel (wr σ 20 (w * 24 + m) v) (wr μ 1 (50 + 24 * w + m) v) := by
  have hk : w * 24 + m < 240 := by omega
  have := h.set (K := 19) (j := w * 24 + m) (v := v) (if_pos hk) (isR_B (by decide) hv (b_mid (by omega) (by omega))) (by omega)
  rw [show 50 + (w * 24 + m) = 50 + 24 * w + m by omega] at this
  exact this
theorem e_draw (h : Rel σ μ) (w m v : Int32) : EQ (cfDraw σ w m v) (mfDraw μ w m v) := by
  refine EQ.ite (and_congr (h.iw w) Iff.rfl) (fun c => ?_) (fun _ => relF h _)
  have hw := (h.ix c.1).1
  have hm : tn m < 24 := by have := (ix_R (by decide) c.2.1).1; omega
  refine EQ.ite (by rw [h.kind hw]) (fun _ => relF h _) (fun _ => ⟨(h.draw hw hm).symm, h.setD hw hm c.2.2⟩)
theorem Rel.cnt (h : Rel σ μ) {w m : Nat} (hw : w < 10) (hm : m < 24) : cCnt σ w m = mSgn μ w m * mDr μ w m := by
  rw [h.sgn hw, h.draw hw hm]
  unfold cCnt
  split
  · rfl
  · rw [nI00, Int32.zero_mul]
theorem e_counts (h : Rel σ μ) (w m : Int32) : EQ (cfCounts σ w m) (mfCounts μ w m) := by
  refine EQ.ite (and_congr (h.iw w) Iff.rfl) (fun c => ?_) (fun _ => relF h _)
  have hm : tn m < 24 := by have := (ix_R (by decide) c.2).1; omega
  exact h.v (h.cnt (h.ix c.1).1 hm)
theorem e_head (h : Rel σ μ) (w m : Int32) : EQ (cfHead σ w m) (mfHead μ w m) := by
  refine EQ.ite (and_congr (h.iw w) Iff.rfl) (fun c => ?_) (fun _ => relF h _)
  have hm : tn m < 24 := by have := (ix_R (by decide) c.2).1; omega
  exact h.v (h.head (h.ix c.1).1 hm).symm
theorem e_by (h : Rel σ μ) (w m s : Int32) : EQ (cfBy σ w m s) (mfBy μ w m s) := by
  refine EQ.ite (and_congr (h.iw w) (and_congr Iff.rfl (h.iw s))) (fun c => ?_) (fun _ => relF h _)
  have hm : tn m < 24 := by have := (ix_R (by decide) c.2.1).1; omega
  exact h.v (h.low (h.ix c.1).1 hm (h.ix c.2.2).1 (by decide)).symm
theorem e_rained (h : Rel σ μ) (w m : Int32) : EQ (cfRained σ w m) (mfRained μ w m) := by
  refine EQ.ite (and_congr (h.iw w) Iff.rfl) (fun c => ?_) (fun _ => relF h _)
  have hm : tn m < 24 := by have := (ix_R (by decide) c.2).1; omega
  exact h.v (h.rain hm).symm
theorem e_without (h : Rel σ μ) (w m s f : Int32) : EQ (cfWithout σ w m s f) (mfWithout μ w m s f) := by
  refine EQ.ite (and_congr (h.iw w) (and_congr Iff.rfl (and_congr (h.iw s) Iff.rfl))) (fun c => ?_) (fun _ => relF h _)
  have hm : tn m < 24 := by have := (ix_R (by decide) c.2.1).1; omega
  have hf : tn f < 24 := by have := (ix_R (by decide) c.2.2.2).1; omega
  exact h.v (h.low (h.ix c.1).1 hm (h.ix c.2.2.1).1 hf).symm
theorem Rel.most (h : Rel σ μ) {w m : Nat} (hw : w < 10) (hm : m < 24) : ∀ n, n ≤ nW σ → (it0 (fMost σ w m) n (nI 0, -1000000006)).1 = (it0 (fmMost μ w m) n (nI 0, -1)).1 ∧ (((it0 (fMost σ w m) n (nI 0, -1000000006)).2 = -1000000006 ∧ (it0 (fmMost μ w m) n (nI 0, -1)).2 = -1) ∨ ∃ j, j < n ∧ (it0 (fMost σ w m) n (nI 0, -1000000006)).2 = nI j ∧ (it0 (fmMost μ w m) n (nI 0, -1)).2 = nI j)
  | 0, _ => ⟨rfl, Or.inl ⟨rfl, rfl⟩⟩
  | n + 1, hn => by
    have h10 := h.wc.n10
    have ih := h.most hw hm n (by omega)
    show (fMost σ w m n (it0 (fMost σ w m) n (nI 0, -1000000006))).1 = (fmMost μ w m n (it0 (fmMost μ w m) n (nI 0, -1))).1 ∧ (((fMost σ w m n (it0 (fMost σ w m) n (nI 0, -1000000006))).2 = -1000000006 ∧ (fmMost μ w m n (it0 (fmMost μ w m) n (nI 0, -1))).2 = -1) ∨ ∃ j, j < n + 1 ∧ (fMost σ w m n (it0 (fMost σ w m) n (nI 0, -1000000006))).2 = nI j ∧ (fmMost μ w m n (it0 (fmMost μ w m) n (nI 0, -1))).2 = nI j)
    generalize it0 (fMost σ w m) n (nI 0, -1000000006) = a at *
    generalize it0 (fmMost μ w m) n (nI 0, -1) = b at *
    unfold fMost fmMost
    rw [h.low hw hm (by omega) (by decide), ← ih.1]
    by_cases c : cLow σ w m n 0 ≤ a.1
    · rw [if_pos c, if_neg (Int32.not_lt.mpr c)]
      refine ⟨ih.1, ih.2.elim Or.inl (fun ⟨j, h1, h2⟩ => Or.inr ⟨j, by omega, h2⟩)⟩
    · rw [if_neg c, if_pos (Int32.not_le.mp c)]
      exact ⟨rfl, Or.inr ⟨n, by omega, rfl, rfl⟩⟩
theorem e_most (h : Rel σ μ) (w m : Int32) : EQ (cfMost σ w m) (mfMost μ w m) := by
  refine EQ.ite (and_congr (h.iw w) Iff.rfl) (fun c => ?_) (fun _ => relF h _)
  have hm : tn m < 24 := by have := (ix_R (by decide) c.2).1; omega
  have h10 := h.wc.n10
  have := h.most (h.ix c.1).1 hm (nW σ) (Nat.le_refl _)
  unfold cMost mMost
  rw [← h.N]
  rcases this.2 with ⟨h1, h2⟩ | ⟨j, hj, h1, h2⟩
  · rw [h1, h2, if_pos rfl, if_neg (by decide)]
    exact relF h _
  · rw [h1, h2, if_neg (fun q => by have := congrArg Int32.toInt q; rw [nI_toInt (by omega)] at this; simp at this), if_pos (Int32.not_lt.mp (nI_pos (by omega)))]
    exact h.v rfl
theorem scan_cong {p q : Nat → Bool} : ∀ {n lo : Nat}, (∀ i, lo ≤ i → i < lo + n → p i = q i) → scan p lo n = scan q lo n
  | 0, _, _ => rfl
  | n + 1, lo, h => by rw [scan, scan, h lo (by omega) (by omega), scan_cong (fun i h1 h2 => h i (by omega) (by omega))]
theorem e_when (h : Rel σ μ) (w m : Int32) : EQ (cfWhen σ w m) (mfWhen μ w m) := by
  refine EQ.ite (and_congr (h.iw w) Iff.rfl) (fun c => ?_) (fun _ => relF h _)
  have hm : tn m < 24 := by have := (ix_R (by decide) c.2).1; omega
  have : mWhen μ (tn w) (tn m) = cWhen σ (tn w) (tn m) := by
    unfold cWhen mWhen
    exact scan_cong (fun i h1 h2 => by rw [h.abv (h.ix c.1).1 (by omega)])
  rw [this]
  cases cWhen σ (tn w) (tn m) with
  | none => exact relF h _
  | some i => exact h.v rfl
theorem mn_le (a b : Int32) : mn a b = if a ≤ b then a else b := by
  unfold mn
  by_cases q : b < a
  · rw [if_pos q, if_neg (Int32.not_le.mpr q)]
  · rw [if_neg q, if_pos (Int32.not_lt.mp q)]
theorem e_near (h : Rel σ μ) (w m : Int32) : EQ (cfNear σ w m) (mfNear μ w m) := by
  refine EQ.ite (and_congr (h.iw w) Iff.rfl) (fun c => ?_) (fun _ => relF h _)
  have hm : tn m < 24 := by have := (ix_R (by decide) c.2).1; omega
  have hw := (h.ix c.1).1
  refine h.v ?_
  rw [show 24 - tn m = (23 - tn m) + 1 by omega, it_first, h.abv hw hm]
  have e : fmNear μ (tn w) (tn m) (cAbv σ (tn w) (tn m)) = cAbv σ (tn w) (tn m) := by
    unfold fmNear
    rw [h.abv hw hm, if_pos (Int32.le_refl _)]
  rw [e]
  exact it_cong (fun i a h1 h2 => by unfold fNear fmNear; rw [mn_le, h.abv hw (by omega)])
theorem e_low (h : Rel σ μ) (m : Int32) : EQ (cfLow σ m) (mfLow μ m) := by
  refine EQ.ite Iff.rfl (fun c => ?_) (fun _ => relF h _)
  have hm : tn m < 24 := by have := (ix_R (by decide) c).1; omega
  have h10 := h.wc.n10
  refine h.v ?_
  rw [← h.N]
  refine it0_cong (fun i a h1 => ?_)
  unfold fLows fmLows
  rw [h.abv (by omega) hm]
  split
  · rw [nI00, Int32.add_zero]
  · rfl
theorem e_told (h : Rel σ μ) (q : Int32) : EQ (cfTold σ q) (mfTold μ q) := by
  refine EQ.ite Iff.rfl (fun _ => h.v h.n) (fun _ => EQ.ite Iff.rfl (fun _ => h.v h.l) (fun _ => EQ.ite Iff.rfl (fun _ => h.v h.rm) (fun _ => EQ.ite Iff.rfl (fun _ => h.v h.2.2.2.1) (fun _ => relF h _))))
theorem nI_10 {x : Int32} {n : Nat} (h : x = nI n) (hn : n ≤ 10) : x < nI 10 ↔ ¬ x = nI 10 := by
  rw [h, nI_eq (by omega) (by decide)]
  constructor
  · intro q e; subst e; exact absurd q (nI_nlt (Nat.le_refl _) (by decide))
  · intro q; exact nI_lt (by omega) (by decide)
theorem EQ.ite' {c d : Prop} [Decidable c] [Decidable d] {a a2 b b2 : Int32 × St} (hcd : c ↔ ¬ d) (h1 : c → EQ a b2) (h2 : ¬ c → EQ a2 b) : EQ (if c then a else a2) (if d then b else b2) := by
  by_cases q : c
  · rw [if_pos q, if_neg (hcd.mp q)]; exact h1 q
  · rw [if_neg q, if_pos (Classical.byContradiction (fun z => q (hcd.mpr z)))]; exact h2 q
theorem e_well (h : Rel σ μ) (k x y r : Int32) : EQ (cfWell σ k x y r) (mfWell μ k x y r) := by
  refine EQ.ite Iff.rfl (fun c => ?_) (fun _ => relF h _)
  have h10 := h.wc.n10
  refine EQ.ite' (by rw [← h.n]; exact nI_10 h.wc.n h10) (fun c2 => ?_) (fun _ => relF h _)
  have hn : nW σ < 10 := by
    rcases Nat.lt_or_ge (nW σ) 10 with q | q
    · exact q
    · rw [h.wc.n, show nW σ = 10 by omega] at c2; exact absurd c2 (nI_nlt (Nat.le_refl _) (by decide))
  rw [← h.N]
  refine ⟨rfl, ?_⟩
  have e1 := h.wc.n
  have e2 := h.n.symm.trans e1
  generalize nW σ = n at *
  show Rel (cAdd σ n k x y r) (mWell μ n k x y r)
  have h1 := h.set (K := 2) (j := n) (v := k) (if_pos hn) (isR_B (by decide) c.1 (b_kd hn)) (by omega)
  have h2 := h1.set (K := 3) (j := n) (v := x) (if_pos hn) (isR_B (by decide) c.2.1 (b_x hn)) (by omega)
  have h3 := h2.set (K := 4) (j := n) (v := y) (if_pos hn) (isR_B (by decide) c.2.2.1 (b_y hn)) (by omega)
  have h4 := h3.set (K := 5) (j := n) (v := r) (if_pos hn) (isH_B c.2.2.2 (b_r hn)) (by omega)
  have h5 := h4.set (K := 6) (j := n) (v := -100000) (if_pos hn) (isH_B (by decide) (b_li hn)) (by omega)
  have h6 := h5.setN (v := nI (n + 1)) (nI_B (n := 10) (by decide) (by omega) rfl) (by rw [wr_out (by omega), wr_out (by omega), wr_out (by omega), wr_out (by omega), wr_out (by omega), e2, nI_clamp (by omega), nI_clamp (by omega)]; omega)
  unfold cAdd mWell
  have a1 : cAddT σ n k x y r 2 0 + nI 1 = nI (n + 1) := by
    unfold cAddT
    rw [wr_ne (by decide), wr_ne (by decide), wr_ne (by decide), wr_ne (by decide), wr_ne (by decide), e1, nI_add]
  have a2 : mWellT μ n k x y r 1 1086 + nI 1 = nI (n + 1) := by
    unfold mWellT
    rw [wr_out (by omega), wr_out (by omega), wr_out (by omega), wr_out (by omega), wr_out (by omega), e2, nI_add]
  rw [a1, a2]
  unfold cAddT mWellT
  rw [show 0 + 5 * n = 5 * n by omega]
  exact h6
theorem b_hd {k : Nat} (hk : k < 240) : bnd (606 + 2 * k + 1) = (-100000000, 100000000) := by unfold bnd; rw [if_neg (by omega), if_neg (by omega), if_neg (by omega), if_pos (by omega), if_neg (by omega)]
theorem b_mk {k : Nat} (hk : k < 240) : bnd (606 + 2 * k) = (0, ((1 : Nat) : Int)) := by unfold bnd; rw [if_neg (by omega), if_neg (by omega), if_neg (by omega), if_pos (by omega), if_pos (by omega)]; rfl
theorem b_rm : bnd 1088 = (0, ((40 : Nat) : Int)) := rfl
theorem e_differ (h : Rel σ μ) (w m : Int32) : EQ (cfDiffer σ w m) (mfDiffer μ w m) := by
  refine EQ.ite (and_congr (h.iw w) Iff.rfl) (fun c => ?_) (fun _ => relF h _)
  have hm : tn m < 24 := by have := (ix_R (by decide) c.2).1; omega
  have hw := (h.ix c.1).1
  rw [show mRd (tn w) (tn m) = 606 + 2 * (tn w * 24 + tn m) by show 606 + 2 * (24 * tn w + tn m) = _; omega, ← h.mk (by omega)]
  refine EQ.ite Iff.rfl (fun _ => relF h _) (fun _ => h.v ?_)
  unfold cDif mDif
  rw [show mRd (tn w) (tn m) = 606 + 2 * (tn w * 24 + tn m) by show 606 + 2 * (24 * tn w + tn m) = _; omega, ← h.hd (by omega), h.head hw hm]
theorem Rel.mk1 (h : Rel σ μ) {k : Nat} (hk : k < 240) : σ 18 k = 0 ∨ σ 18 k = nI 1 := by
  have h1 := h.b (J := 606 + 2 * k) (n := 1) (by omega) (by decide) (b_mk hk)
  rw [← h.mk hk] at h1
  obtain ⟨h1, h2⟩ := h1
  generalize (σ 18 k).toNatClampNeg = j at *
  rcases (show j = 0 ∨ j = 1 by omega) with rfl | rfl
  · exact Or.inl h1
  · exact Or.inr h1
theorem e_read (h : Rel σ μ) (w m v : Int32) : EQ (cfRead σ w m v) (mfRead μ w m v) := by
  refine EQ.ite (and_congr (h.iw w) Iff.rfl) (fun c => ?_) (fun _ => relF h _)
  have hm : tn m < 24 := by have := (ix_R (by decide) c.2.1).1; omega
  have hw := (h.ix c.1).1
  have hk : tn w * 24 + tn m < 240 := by omega
  rw [show mRd (tn w) (tn m) = 606 + 2 * (tn w * 24 + tn m) by show 606 + 2 * (24 * tn w + tn m) = _; omega]
  have hB : ∀ J, bnd J = (-100000000, 100000000) → inB J v := fun J q => by
    have c3 := c.2.2
    rw [Int32.le_iff_toInt_le, Int32.le_iff_toInt_le] at c3
    unfold inB
    rw [q]
    exact c3
  generalize tn w * 24 + tn m = k at *
  have hr := h.b (J := 1088) (n := 40) (by decide) (by decide) b_rm
  have hm1 := h.mk1 hk
  have e18 := h.mk hk
  have e17 := h.rm
  have hlt : σ 17 0 < nI 40 ↔ ¬ μ 1 1088 = nI 40 := by
    rw [e17, hr.1, nI_eq (by have := hr.2; omega) (by decide)]
    constructor
    · intro q e; rw [e] at q; exact absurd q (nI_nlt (Nat.le_refl _) (by decide))
    · intro q; exact nI_lt (by have := hr.2; omega) (by decide)
  refine EQ.ite (and_congr (by rw [e18]) ⟨fun q => Classical.byContradiction (fun z => q (hlt.mpr z)), fun q z => hlt.mp z q⟩) (fun _ => relF h _) (fun c2 => ?_)
  suffices hh : Rel (cWri σ k v) (mWri μ (606 + 2 * k) v) from ⟨hh.rm, hh⟩
  unfold cWri mWri mWr1
  rcases hm1 with q | q
  · rw [if_pos q, ← e18, q]
    have hlt2 : (μ 1 1088).toNatClampNeg < 40 := by
      have h2 := hr.2
      rcases Nat.lt_or_ge (μ 1 1088).toNatClampNeg 40 with z | z
      · exact z
      · exact absurd ⟨q, fun y => hlt.mp y (by rw [hr.1, show (μ 1 1088).toNatClampNeg = 40 by omega])⟩ c2
    have hs : μ 1 1088 + (nI 1 - 0) = nI ((μ 1 1088).toNatClampNeg + 1) := by
      rw [← nI00, pk_sub (by omega), ← nI_add, ← hr.1]
    have hs2 : cWriT σ k 17 0 + nI 1 = nI ((μ 1 1088).toNatClampNeg + 1) := by
      unfold cWriT
      rw [wr_ne (by decide), e17, ← nI_add, ← hr.1]
    rw [hs, hs2]
    have h2 := h.mrk hk (by rw [← e18]; exact q) hr.1 hlt2
    have h3 := h2.set (K := 18) (j := k) (v := v) (if_pos hk) (hB _ (b_hd hk)) (by omega)
    have hsw : wr (wr μ 1 1088 (nI ((μ 1 1088).toNatClampNeg + 1))) 1 (606 + 2 * k) (nI 1) = wr (wr μ 1 (606 + 2 * k) (nI 1)) 1 1088 (nI ((μ 1 1088).toNatClampNeg + 1)) := by
      funext a b
      unfold wr
      by_cases c1 : a = 1 ∧ b = 1088
      · rw [if_neg (show ¬ (a = 1 ∧ b = 606 + 2 * k) by omega), if_pos c1, if_pos c1]
      · rw [if_neg c1, if_neg c1]
    rw [hsw]
    exact h3
  · rw [if_neg (by rw [q]; decide), ← e18, q]
    have h3 := h.set (K := 18) (j := k) (v := v) (if_pos hk) (hB _ (b_hd hk)) (by omega)
    have hid : wr (wr μ 1 1088 (μ 1 1088 + (nI 1 - nI 1))) 1 (606 + 2 * k) (nI 1) = μ := by
      funext a b
      unfold wr
      by_cases c1 : a = 1 ∧ b = 606 + 2 * k
      · rw [if_pos c1, c1.1, c1.2, ← e18, q]
      · rw [if_neg c1]
        by_cases c4 : a = 1 ∧ b = 1088
        · rw [if_pos c4, c4.1, c4.2, pk_sub (Nat.le_refl _), Nat.sub_self, nI00, Int32.add_zero]
        · rw [if_neg c4]
    rw [hid]
    exact h3
end
