theorem cpy_ne {τ : St} {k j n a : Nat} (h : a ≠ j) : cpy τ k j n a = τ a := wrA_ne h
theorem cpy_in {τ : St} {k j n b : Nat} (h : b < n) : cpy τ k j n j b = τ k b := by
  unfold cpy
  rw [wrA_row, pk_cpy_in (Nat.zero_le _) (by omega), Nat.zero_add, Nat.sub_zero]
/-- how long the row K of a water is -/
def rl (K : Nat) : Nat := match K with
  | 1 => 1
  | 2 => 10
  | 3 => 10
  | 4 => 10
  | 5 => 10
  | 6 => 10
  | 8 => 240
  | 9 => 12
  | 11 => 1
  | 12 => 10
  | 13 => 10
  | 14 => 10
  | 15 => 10
  | 16 => 1
  | 17 => 240
  | 18 => 240
  | 19 => 240
  | 20 => 24
  | _ => 0
theorem rl_po {K j J : Nat} (h : po K j = some J) : j < rl K := by
  unfold po at h
  split at h <;> (first | (cases h; done) | (split at h <;> (first | (cases h; done) | (unfold rl; simp only []; omega))))
theorem take_out {σ : St} {f t a : Nat} (h : a ≤ t ∨ t + 21 ≤ a) : takeA σ f t a = σ a := by
  unfold takeA takeR takeL takeT takeW
  simp (disch := omega) only [cpy_ne, wr_ne]
theorem take_k {σ : St} {K j : Nat} (h : j < rl K) : takeA σ 1 23 (23 + K) j = σ (1 + K) j := by
  have hK : K < 21 := by
    rcases Nat.lt_or_ge K 21 with q | q
    · exact q
    · exfalso
      unfold rl at h
      split at h <;> omega
  unfold takeA takeR takeL takeT takeW
  unfold rl at h
  split at h <;> first | (exact absurd h (Nat.not_lt_zero _)) | (simp (disch := omega) only [cpy_ne, cpy_in, wr_ne, wr_in]; done) | (have hj : j = 0 := (by omega); subst hj; simp (disch := omega) only [cpy_ne, cpy_in, wr_ne, wr_in])
theorem take_b {σ : St} {K j : Nat} (h : j < rl K) : takeA σ 23 1 (1 + K) j = σ (23 + K) j := by
  unfold takeA takeR takeL takeT takeW
  unfold rl at h
  split at h <;> first | (exact absurd h (Nat.not_lt_zero _)) | (simp (disch := omega) only [cpy_ne, cpy_in, wr_ne, wr_in]; done) | (have hj : j = 0 := (by omega); subst hj; simp (disch := omega) only [cpy_ne, cpy_in, wr_ne, wr_in])
theorem k_at (μ : St) : ∀ n, (∀ j, j ≠ 2 → (it0 fmK n μ) j = μ j) ∧ ∀ i, i < n → (it0 fmK n μ) 2 i = μ 1 i
  | 0 => ⟨fun _ _ => rfl, fun i hi => absurd hi (Nat.not_lt_zero i)⟩
  | n + 1 => by
    have ih := k_at μ n
    rw [it0]
    generalize it0 fmK n μ = x at *
    unfold fmK
    refine ⟨fun j hj => (wr_ne hj).trans (ih.1 j hj), fun i hi => ?_⟩
    by_cases e : i = n
    · rw [e, wr_in, ih.1 1 (by decide)]
    · exact (wr_out e).trans (ih.2 i (by omega))
theorem b_at (μ : St) : ∀ n, (∀ j, j ≠ 1 → (it0 fmB n μ) j = μ j) ∧ ∀ i, i < n → (it0 fmB n μ) 1 i = μ 2 i
  | 0 => ⟨fun _ _ => rfl, fun i hi => absurd hi (Nat.not_lt_zero i)⟩
  | n + 1 => by
    have ih := b_at μ n
    rw [it0]
    generalize it0 fmB n μ = x at *
    unfold fmB
    refine ⟨fun j hj => (wr_ne hj).trans (ih.1 j hj), fun i hi => ?_⟩
    by_cases e : i = n
    · rw [e, wr_in, ih.1 2 (by decide)]
    · exact (wr_out e).trans (ih.2 i (by omega))
theorem Bd.same {r r2 : Nat → Int32} (h : Bd r) (e : ∀ J, J < 1090 → r2 J = r J) : Bd r2 := by
  refine ⟨fun J hJ => by rw [e J hJ]; exact h.1 J hJ, ?_, h.2.2.same (fun J hJ => e J (by omega))⟩
  rw [e 1088 (by decide), ctm_cong (r := r) (fun k hk => e _ (by omega))]
  exact h.2.1
theorem Eqs.same {b b2 : Nat} {σ σ2 : St} {r r2 : Nat → Int32} (h : Eqs b σ r) (e1 : ∀ K j, j < rl K → σ2 (b2 + K) j = σ (b + K) j) (e : ∀ J, J < 1090 → r2 J = r J) : Eqs b2 σ2 r2 := by
  refine ⟨fun K j J hK => ?_, ?_⟩
  · have hl := po_lt hK
    rw [e1 K j (rl_po hK), e J (by omega)]
    exact h.1 K j J hK
  · unfold Svd
    rw [e 1089 (by decide), e 1087 (by decide)]
    refine ⟨h.2.1, fun i hi hi2 => ?_⟩
    rw [e1 15 i hi, e (566 + 4 * i + 3) (by omega)]
    exact h.2.2 i hi hi2
section
variable {σ μ : St}
theorem keepR (h : Rel σ μ) {x y : St} (a1 : ∀ a, a ≤ 23 ∨ 23 + 21 ≤ a → x a = σ a) (a2 : ∀ K j, j < rl K → x (23 + K) j = σ (1 + K) j) (b1 : ∀ j, j ≠ 2 → y j = μ j) (b2 : ∀ i, i < 1090 → y 2 i = μ 1 i) : EQ (wr x 0 2 (nI 1) 2 0, wr x 0 2 (nI 1)) (wr y 0 2 (nI 1) 1 1086, wr y 0 2 (nI 1)) := by
  obtain ⟨h1, h2, h3, h4, h5⟩ := h
  refine ⟨?_, ?_, ?_, ?_, ?_, Or.inr ⟨by show wr x 0 2 (nI 1) 0 2 = nI 1; exact wr_in, by show wr y 0 2 (nI 1) 0 2 = nI 1; exact wr_in, ?_, ?_⟩⟩
  · show wr x 0 2 (nI 1) 2 0 = wr y 0 2 (nI 1) 1 1086
    rw [wr_ne (by decide), wr_ne (by decide), a1 2 (by omega), b1 1 (by decide)]
    exact h2.1 1 0 _ rfl
  · show Bd (wr y 0 2 (nI 1) 1)
    rw [wr_ne (by decide), b1 1 (by decide)]
    exact h1
  · show Eqs 1 (wr x 0 2 (nI 1)) (wr y 0 2 (nI 1) 1)
    rw [wr_ne (a := 1) (by decide), b1 1 (by decide)]
    exact h2.same (fun K j hj => by
      by_cases c : K < 21
      · rw [wr_ne (by omega), a1 (1 + K) (by omega)]
      · exfalso
        unfold rl at hj
        split at hj <;> omega) (fun _ _ => rfl)
  · intro s hs
    show wr x 0 2 (nI 1) (46 + s) 0 = wr y 0 2 (nI 1) 3 s ∧ wr x 0 2 (nI 1) (46 + s) 1 = wr y 0 2 (nI 1) 4 s ∧ Nb (wr y 0 2 (nI 1) 3 s) 2 ∧ Nb (wr y 0 2 (nI 1) 4 s) 24 ∧ ∀ i, i < 24 → wr x 0 2 (nI 1) (50 + s) i = wr y 0 2 (nI 1) 5 (24 * s + i)
    rw [wr_ne (a := 46 + s) (by omega), wr_ne (a := 50 + s) (by omega), wr_ne (a := 3) (by decide), wr_ne (a := 4) (by decide), wr_ne (a := 5) (by decide), a1 (46 + s) (by omega), a1 (50 + s) (by omega), b1 3 (by decide), b1 4 (by decide), b1 5 (by decide)]
    exact h3 s hs
  · show wr x 0 2 (nI 1) 0 4 = wr y 0 2 (nI 1) 0 6
    rw [wr_out (by decide), wr_out (by decide), a1 0 (by omega), b1 0 (by decide)]
    exact h4
  · show Bd (wr y 0 2 (nI 1) 2)
    rw [wr_ne (by decide)]
    exact h1.same b2
  · show Eqs 23 (wr x 0 2 (nI 1)) (wr y 0 2 (nI 1) 2)
    rw [wr_ne (a := 2) (by decide)]
    exact h2.same (fun K j hj => by rw [wr_ne (by omega)]; exact a2 K j hj) b2
theorem e_keep (h : Rel σ μ) : EQ (cfKeep σ) (mfKeep μ) := by
  have h1 := k_at μ 1090
  unfold cfKeep mfKeep
  exact keepR h (fun a ha => take_out ha) (fun K j hj => take_k hj) h1.1 h1.2
theorem backR (h : Rel σ μ) {x y : St} (hk : Bd (μ 2) ∧ Eqs 23 σ (μ 2)) (a1 : ∀ a, a ≤ 1 ∨ 1 + 21 ≤ a → x a = σ a) (a2 : ∀ K j, j < rl K → x (1 + K) j = σ (23 + K) j) (b1 : ∀ j, j ≠ 1 → y j = μ j) (b2 : ∀ i, i < 1090 → y 1 i = μ 2 i) : EQ (x 2 0, x) (y 1 1086, y) := by
  obtain ⟨h1, h2, h3, h4, h5⟩ := h
  have he : Eqs 1 x (y 1) := hk.2.same a2 b2
  refine ⟨he.1 1 0 _ rfl, hk.1.same b2, he, ?_, ?_, ?_⟩
  · intro s hs
    show x (46 + s) 0 = y 3 s ∧ x (46 + s) 1 = y 4 s ∧ Nb (y 3 s) 2 ∧ Nb (y 4 s) 24 ∧ ∀ i, i < 24 → x (50 + s) i = y 5 (24 * s + i)
    rw [a1 (46 + s) (by omega), a1 (50 + s) (by omega), b1 3 (by decide), b1 4 (by decide), b1 5 (by decide)]
    exact h3 s hs
  · show x 0 4 = y 0 6
    rw [a1 0 (by omega), b1 0 (by decide)]
    exact h4
  · show Kpt x y
    unfold Kpt
    rw [a1 0 (by omega), b1 0 (by decide), b1 2 (by decide)]
    rcases h5 with h5 | ⟨c1, c2, c3, c4⟩
    · exact Or.inl h5
    · exact Or.inr ⟨c1, c2, c3, c4.same (fun K j hj => by rw [a1 (23 + K) (by omega)]) (fun _ _ => rfl)⟩
theorem e_back (h : Rel σ μ) : EQ (cfBack σ) (mfBack μ) := by
  have h1 := b_at μ 1090
  unfold cfBack mfBack
  rcases h.2.2.2.2 with ⟨c1, c2⟩ | ⟨c1, c2, c3, c4⟩
  · rw [if_pos c1, if_pos c2]
    exact relF h _
  · rw [if_neg (by rw [c1]; decide), if_neg (by rw [c2]; decide)]
    exact backR h ⟨c3, c4⟩ (fun a ha => take_out ha) (fun K j hj => take_b hj) h1.1 h1.2
theorem Rel.sq (h : Rel σ μ) : cSq σ = mSq μ := by
  have h10 := h.wc.n10
  unfold cSq mSq
  rw [← h.N]
  refine it0_cong (fun w a hw => ?_)
  unfold gSq gmSq
  refine it0_cong (fun m b hm => ?_)
  unfold fSq fmSq cDif mDif
  rw [show mRd w m = 606 + 2 * (w * 24 + m) by show 606 + 2 * (24 * w + m) = _; omega, ← h.mk (by omega), ← h.hd (by omega), h.head (by omega) hm]
/-- the exponent is the same whether the shift keeps the sign or not -/
theorem ex_eq (b : Int32) : (b.toUInt32 >>> ((nI 23).toUInt32 &&& Int32.toUInt32 31)).toInt32 &&& nI 255 = b >>> (nI 23 &&& 31) &&& nI 255 := by
  apply Int32.toBitVec_inj.1
  show (b.toBitVec >>> (23 : BitVec 32)) &&& 255#32 = (b.toBitVec.sshiftRight 23) &&& 255#32
  apply BitVec.eq_of_getLsbD_eq
  intro i hi
  rw [BitVec.getLsbD_and, BitVec.getLsbD_and]
  by_cases q : i < 8
  · congr 1
    have h23 : (b.toBitVec >>> (23 : BitVec 32)) = b.toBitVec >>> 23 := rfl
    rw [BitVec.getLsbD_sshiftRight, h23, BitVec.getLsbD_ushiftRight, if_pos (by omega)]
    simp
    omega
  · have : (255#32).getLsbD i = false := by
      have h2 : ∀ i : Fin 32, ¬ i.val < 8 → (255#32).getLsbD i = false := by decide
      exact h2 ⟨i, hi⟩ q
    rw [this, Bool.and_false, Bool.and_false]
end
