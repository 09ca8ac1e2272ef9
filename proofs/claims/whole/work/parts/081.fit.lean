section
variable {σ μ : St}
/-- the old row beside the tables -/
def Odd (σ μ : St) : Prop := ∀ d, d < 10 → σ 11 d = μ 10 d ∧ Nb (σ 11 d) 1000
theorem tryV {x f : Int32} {b : Nat} (hx : Nb x 1000) (hf : f = nI b) (hb : b ≤ 150) : isR (mn (x * f / nI 100) (nI 1000)) 1000 := by
  have h1 := hx.1
  have h2 := hx.2
  generalize x.toNatClampNeg = a at *
  subst h1; subst hf
  have h3 : a * b ≤ 1000 * 150 := Nat.mul_le_mul h2 hb
  rw [pk_mul, pk_div (by omega) (by decide) (by decide), mn_nI (by have := Nat.div_le_self (a * b) 100; omega) (by decide)]
  exact ⟨nI_le (Nat.zero_le _) (by omega), nI_le (by omega) (by decide)⟩
theorem tryR (h : Rel σ μ) (ho : Odd σ μ) {i g b : Nat} {f : Int32} (hi : i ≤ 1) (hg : g ≤ 11) (hf : f = nI b) (hb : b ≤ 150) : ∀ n, n ≤ 10 → Rel (it0 (fTry i g f) n σ) (it0 (fmT i g f) n μ) ∧ it0 (fTry i g f) n σ 11 = σ 11 ∧ it0 (fmT i g f) n μ 10 = μ 10
  | 0, _ => ⟨h, rfl, rfl⟩
  | n + 1, hn => by
    have ih := tryR h ho hi hg hf hb n (by omega)
    rw [it0, it0]
    generalize it0 (fTry i g f) n σ = x at *
    generalize it0 (fmT i g f) n μ = y at *
    unfold fTry fmT
    refine ⟨?_, (wr_ne (by decide)).trans ih.2.1, (wr_ne (by decide)).trans ih.2.2⟩
    have e : cap1 (y 10 n * f / nI 100) = mn (x 11 n * f / nI 100) (nI 1000) := by
      rw [mn_le, ih.2.1, ih.2.2, (ho n (by omega)).1]
      rfl
    rw [e]
    refine ih.1.setF hi (by omega) hg ?_
    rw [ih.2.1]
    exact tryV (ho n (by omega)).2 hf hb
theorem Rel.tryA (h : Rel σ μ) (ho : Odd σ μ) {i g b : Nat} {f : Int32} (hi : i ≤ 1) (hg : g ≤ 11) (hf : f = nI b) (hb : b ≤ 150) : Rel (cTry σ i g f) (mTm μ i g f) ∧ Odd (cTry σ i g f) (mTm μ i g f) := by
  have h1 := tryR h ho hi hg hf hb 10 (Nat.le_refl _)
  unfold cTry mTm
  refine ⟨h1.1, fun d hd => ?_⟩
  rw [h1.2.1, h1.2.2]
  exact ho d hd
theorem sta_at (l g : Nat) (σ : St) : ∀ n, (∀ j, j ≠ 11 → it0 (fSta l g) n σ j = σ j) ∧ ∀ d, d < n → it0 (fSta l g) n σ 11 d = σ 9 ((l * 10 + d) * 12 + g)
  | 0 => ⟨fun _ _ => rfl, fun d hd => absurd hd (Nat.not_lt_zero d)⟩
  | n + 1 => by
    have ih := sta_at l g σ n
    rw [it0]
    generalize it0 (fSta l g) n σ = x at *
    unfold fSta
    refine ⟨fun j hj => (wr_ne hj).trans (ih.1 j hj), fun i hi => ?_⟩
    by_cases e : i = n
    · rw [e, wr_in, ih.1 9 (by decide)]
    · exact (wr_out e).trans (ih.2 i (by omega))
theorem old_at (l g : Nat) (μ : St) : ∀ n, (∀ j, j ≠ 10 → it0 (fmOld l g) n μ j = μ j) ∧ ∀ d, d < n → it0 (fmOld l g) n μ 10 d = μ 1 (mcl l d g)
  | 0 => ⟨fun _ _ => rfl, fun d hd => absurd hd (Nat.not_lt_zero d)⟩
  | n + 1 => by
    have ih := old_at l g μ n
    rw [it0]
    generalize it0 (fmOld l g) n μ = x at *
    unfold fmOld
    refine ⟨fun j hj => (wr_ne hj).trans (ih.1 j hj), fun i hi => ?_⟩
    by_cases e : i = n
    · rw [e, wr_in, ih.1 1 (by decide)]
    · exact (wr_out e).trans (ih.2 i (by omega))
theorem Rel.sta (h : Rel σ μ) {i g : Nat} (hi : i ≤ 1) (hg : g ≤ 11) : Rel (cSta σ i g) (mOld μ i g) ∧ Odd (cSta σ i g) (mOld μ i g) := by
  have h1 := sta_at i g σ 10
  have h2 := old_at i g μ 10
  unfold cSta mOld
  refine ⟨h.scr (fun k a _ => h1.1 k a) (fun k hk => h2.1 k (by omega)), fun d hd => ?_⟩
  rw [h1.2 d hd, h2.2 d hd, ← h.fac hi (by omega) hg]
  exact ⟨rfl, h.fB (by omega)⟩
/-- behind j trials -/
def Fi (j : Nat) (q p : (Int32 × Int64) × St) : Prop := Rel q.2 p.2 ∧ Odd q.2 p.2 ∧ (j = 0 → p.1.1 = nI 0) ∧ (0 < j → q.1 = p.1 ∧ ∃ a, 50 ≤ a ∧ a ≤ 150 ∧ p.1.1 = nI a)
theorem fitR (h : Rel σ μ) {i g : Nat} (hi : i ≤ 1) (hg : g ≤ 11) : ∀ n, n ≤ 11 → Fi n (it0 (fFit i g) n ((nI 50, 0), cSta σ i g)) (it0 (fmFit i g) n ((nI 0, 0), mOld μ i g))
  | 0, _ => ⟨(h.sta hi hg).1, (h.sta hi hg).2, fun _ => rfl, fun q => absurd q (by decide)⟩
  | n + 1, hn => by
    have ih := fitR h hi hg n (by omega)
    rw [it0, it0]
    generalize it0 (fFit i g) n ((nI 50, 0), cSta σ i g) = q at *
    generalize it0 (fmFit i g) n ((nI 0, 0), mOld μ i g) = p at *
    obtain ⟨i1, i2, i3, i4⟩ := ih
    have ht := i1.tryA i2 hi hg (f := nI (50 + 10 * n)) rfl (by omega)
    have hs := ht.1.sq
    unfold fFit fmFit
    generalize cTry q.2 i g (nI (50 + 10 * n)) = x at *
    generalize mTm p.2 i g (nI (50 + 10 * n)) = y at *
    rcases Nat.eq_zero_or_pos n with e | e
    · have a2 := i3 e
      rw [if_pos (show nI (50 + 10 * n) = nI 50 ∨ cSq x < q.1.2 from Or.inl (congrArg nI (show 50 + 10 * n = 50 by omega))), if_pos (show p.1.1 = 0 ∨ mSq y < p.1.2 from Or.inl a2)]
      exact ⟨ht.1, ht.2, fun z => absurd z (by omega), fun _ => ⟨by rw [hs], _, by omega, by omega, rfl⟩⟩
    · obtain ⟨a1, a, b1, b2, b3⟩ := i4 e
      have hne : ¬ p.1.1 = 0 := by
        rw [b3, ← nI00, nI_eq (by omega) (by decide)]
        omega
      have hn5 : ¬ nI (50 + 10 * n) = nI 50 := by
        rw [nI_eq (by omega) (by decide)]
        omega
      by_cases c : cSq x < q.1.2
      · rw [if_pos (show nI (50 + 10 * n) = nI 50 ∨ cSq x < q.1.2 from Or.inr c), if_pos (Or.inr (by rw [← hs, ← a1]; exact c))]
        exact ⟨ht.1, ht.2, fun z => absurd z (by omega), fun _ => ⟨by rw [hs], _, by omega, by omega, rfl⟩⟩
      · rw [if_neg (show ¬ (nI (50 + 10 * n) = nI 50 ∨ cSq x < q.1.2) from fun z => z.elim hn5 c), if_neg (fun z => z.elim hne (fun z => c (by rw [hs, a1]; exact z)))]
        exact ⟨ht.1, ht.2, fun z => absurd z (by omega), fun _ => ⟨a1, a, b1, b2, b3⟩⟩
theorem fitF {q p : (Int32 × Int64) × St} {i g : Nat} (hi : i ≤ 1) (hg : g ≤ 11) (h : Fi 11 q p) : EQ (q.1.1, cTry q.2 i g q.1.1) (p.1.1, mTm p.2 i g p.1.1) := by
  obtain ⟨i1, i2, -, i4⟩ := h
  obtain ⟨a1, a, b1, b2, b3⟩ := i4 (by decide)
  rw [a1]
  exact ⟨rfl, (i1.tryA i2 hi hg b3 b2).1⟩
theorem e_fit (h : Rel σ μ) (i g : Int32) : EQ (cfFit σ i g) (mfFit μ i g) := by
  refine EQ.ite Iff.rfl (fun c => EQ.ite (by rw [h.rm]) (fun _ => relF h _) (fun _ => ?_)) (fun _ => relF h _)
  have hi := (ix_R (by decide) c.1).1
  have hg := (ix_R (by decide) c.2).1
  have := fitR h hi hg 11 (Nat.le_refl _)
  unfold cFit mFit lFit lmFit
  exact fitF hi hg this
end
