theorem or_nI (a b : Nat) : nI a ||| nI b = nI (a ||| b) := by
  apply Int32.toBitVec_inj.1
  show BitVec.ofNat 32 a ||| BitVec.ofNat 32 b = BitVec.ofNat 32 (a ||| b)
  apply BitVec.eq_of_getLsbD_eq
  intro i hi
  simp [hi]
theorem sm_nI : ∀ n, n < 32 → ((nI n &&& 31).toBitVec.smod 32).toNat = n := by decide +kernel
theorem sh_bit {D e : Nat} (hD : D < 1024) (he : e < 10) : (nI D >>> (nI e &&& 31)) &&& nI 1 = 0 ↔ D.testBit e = false := by
  rw [pk_shrN (by omega) _ e (sm_nI e (by omega)), pk_andN (m := nI 1) (by have : D / 2 ^ e ≤ D := Nat.div_le_self _ _; omega) 1 (by decide), ← nI_0, nI_eq (by omega) (by decide), Nat.testBit_eq_decide_div_mod_eq]
  simp
theorem shl_or {D j : Nat} (hj : j < 10) : nI D ||| (nI 1 <<< (nI j &&& 31)) = nI (D ||| 2 ^ j) := by
  have h2 : 2 ^ j ≤ 2 ^ 9 := Nat.pow_le_pow_right (by decide) (by omega)
  rw [pk_shlN _ j (sm_nI j (by omega)) (by omega), Nat.one_mul, or_nI]
theorem bit_set (n j i : Nat) : (n ||| 2 ^ j).testBit i = (n.testBit i || decide (i = j)) := by
  rw [Nat.testBit_or, Nat.testBit_two_pow]
  congr 1
  by_cases h : i = j
  · simp [h]
  · simp [h, Ne.symm h]
theorem or_lt {D j : Nat} (hD : D < 1024) (hj : j < 10) : D ||| 2 ^ j < 1024 := by
  have h2 : 2 ^ j < 2 ^ 10 := Nat.pow_lt_pow_right (by decide) hj
  exact Nat.or_lt_two_pow (n := 10) hD h2
/-- how many of the first n bits are set -/
def ctb (D : Nat) : Nat → Nat
  | 0 => 0
  | n + 1 => ctb D n + (if D.testBit n = true then 1 else 0)
theorem ctb_0 : ∀ n, ctb 0 n = 0
  | 0 => rfl
  | n + 1 => by rw [ctb, ctb_0 n]; simp
theorem ctb_or (D j : Nat) : ∀ n, ctb (D ||| 2 ^ j) n ≤ ctb D n + (if j < n then 1 else 0)
  | 0 => by simp [ctb]
  | n + 1 => by
    have h := ctb_or D j n
    rw [ctb, ctb, bit_set]
    by_cases e : n = j
    · subst e
      simp at h ⊢
      split <;> omega
    · simp only [e, decide_false, Bool.or_false]
      have : (if j < n + 1 then 1 else 0) = (if j < n then 1 else 0) := by
        by_cases q : j < n
        · rw [if_pos q, if_pos (by omega)]
        · rw [if_neg q, if_neg (by omega)]
      omega
theorem ctb_ex {D : Nat} : ∀ {n : Nat}, ctb D n < n → ∃ i, i < n ∧ D.testBit i = false
  | 0, h => absurd h (Nat.not_lt_zero _)
  | n + 1, h => by
    rw [ctb] at h
    by_cases q : D.testBit n = true
    · rw [if_pos q] at h
      obtain ⟨i, h1, h2⟩ := ctb_ex (D := D) (n := n) (by omega)
      exact ⟨i, by omega, h2⟩
    · exact ⟨n, by omega, by simpa using q⟩
theorem neg1_lt : (-1 : Int32) < 0 := by decide
theorem nx_inv (μ : St) (D : Nat) : ∀ n, n ≤ 10 → (it0 (fmNx μ D) n (-1) = -1 ∧ ∀ i, i < n → D.testBit i = true) ∨ ∃ j, j < n ∧ it0 (fmNx μ D) n (-1) = nI j ∧ D.testBit j = false
  | 0, _ => Or.inl ⟨rfl, fun i hi => absurd hi (Nat.not_lt_zero i)⟩
  | n + 1, hn => by
    have h := nx_inv μ D n (by omega)
    show (fmNx μ D n (it0 (fmNx μ D) n (-1)) = -1 ∧ _) ∨ ∃ j, j < n + 1 ∧ fmNx μ D n (it0 (fmNx μ D) n (-1)) = nI j ∧ _
    unfold fmNx
    split
    · rename_i c
      exact Or.inr ⟨n, by omega, rfl, c.1⟩
    · rename_i c
      rcases h with ⟨h1, h2⟩ | ⟨j, h1, h2, h3⟩
      · refine Or.inl ⟨h1, fun i hi => ?_⟩
        rcases Nat.lt_or_ge i n with q | q
        · exact h2 i q
        · rw [show i = n by omega]
          by_cases e : D.testBit n = false
          · exact absurd ⟨e, Or.inl (by show it0 (fmNx μ D) n (-1) < 0; rw [h1]; exact neg1_lt)⟩ c
          · simpa using e
      · exact Or.inr ⟨j, by omega, h2, h3⟩
theorem nx_ok {μ : St} (hwm : WM μ) {D : Nat} (h : ∃ i, i < mL μ ∧ D.testBit i = false) : ¬ mNx μ D < 0 ∧ (mNx μ D).toNatClampNeg < mL μ ∧ D.testBit (mNx μ D).toNatClampNeg = false := by
  have h10 := hwm.l10
  unfold mNx
  rcases nx_inv μ D (mL μ) h10 with ⟨h1, h2⟩ | ⟨j, h1, h2, h3⟩
  · obtain ⟨i, h3, h4⟩ := h
    rw [h2 i h3] at h4
    cases h4
  · rw [h2, nI_clamp (by omega)]
    exact ⟨nI_pos (by omega), h1, h3⟩
theorem nx_10 {μ : St} {D n : Nat} (hn : n ≤ 10) : (it0 (fmNx μ D) n (-1)).toNatClampNeg < 10 := by
  rcases nx_inv μ D n hn with ⟨h1, -⟩ | ⟨j, h1, h2, -⟩
  · rw [h1]; decide
  · rw [h2, nI_clamp (by omega)]; omega
/-- the places of 'now' that serve writes: draws, and what was served -/
def svO (μ τ : St) : Prop := (∀ j, j < 50 ∨ 290 ≤ j ∧ j < 566 ∨ 606 ≤ j → τ 1 j = μ 1 j) ∧ (∀ i, i < 10 → τ 1 (566 + 4 * i + 0) = μ 1 (566 + 4 * i + 0) ∧ τ 1 (566 + 4 * i + 1) = μ 1 (566 + 4 * i + 1) ∧ τ 1 (566 + 4 * i + 2) = μ 1 (566 + 4 * i + 2)) ∧ ∀ j, j ≠ 1 → j ≠ 7 → j ≠ 8 → j ≠ 9 → τ j = μ j
theorem svO.rf {μ : St} : svO μ μ := ⟨fun _ _ => rfl, fun _ _ => ⟨rfl, rfl, rfl⟩, fun _ _ _ _ _ => rfl⟩
theorem svO.tr {μ τ ρ : St} (h : svO μ τ) (h2 : svO τ ρ) : svO μ ρ := ⟨fun j hj => (h2.1 j hj).trans (h.1 j hj), fun i hi => ⟨(h2.2.1 i hi).1.trans (h.2.1 i hi).1, (h2.2.1 i hi).2.1.trans (h.2.1 i hi).2.1, (h2.2.1 i hi).2.2.trans (h.2.1 i hi).2.2⟩, fun j a b c d => (h2.2.2 j a b c d).trans (h.2.2 j a b c d)⟩
theorem svO.dr {μ τ : St} (h : svO μ τ) {j : Nat} {x : Int32} (h1 : 50 ≤ j) (h2 : j < 290) : svO μ (wr τ 1 j x) := h.tr ⟨fun i hi => wr_out (by omega), fun i hi => ⟨wr_out (by omega), wr_out (by omega), wr_out (by omega)⟩, fun i a _ _ _ => wr_ne a⟩
theorem svO.sv {μ τ : St} (h : svO μ τ) {j : Nat} {x : Int32} (hj : j < 10) : svO μ (wr τ 1 (566 + 4 * j + 3) x) := h.tr ⟨fun i hi => wr_out (by omega), fun i hi => ⟨wr_out (by omega), wr_out (by omega), wr_out (by omega)⟩, fun i a _ _ _ => wr_ne a⟩
theorem svO.oth {μ τ : St} (h : svO μ τ) {k j : Nat} {x : Int32} (hk : k = 7 ∨ k = 8 ∨ k = 9) : svO μ (wr τ k j x) := h.tr ⟨fun i _ => by rw [wr_ne (by omega)], fun i _ => by rw [wr_ne (by omega)]; exact ⟨rfl, rfl, rfl⟩, fun i a b c d => wr_ne (by omega)⟩
theorem svO.off {μ τ ρ : St} (h : svO μ τ) (h2 : Offs [7, 8] τ ρ) : svO μ ρ := h.tr ⟨fun j _ => by rw [h2 1 (by decide)], fun i _ => by rw [h2 1 (by decide)]; exact ⟨rfl, rfl, rfl⟩, fun j a b c d => h2 j (by simp; omega)⟩
theorem svO.wm {μ τ : St} (h : svO μ τ) (hw : WM μ) : WM τ := by
  refine ⟨?_, fun w hw2 => ⟨?_, ?_⟩, ?_, fun i hi => ?_, fun s hs => ?_⟩
  · rw [h.1 1086 (by omega)]; exact hw.1
  · rw [h.1 (0 + 5 * w + 1) (by omega)]; exact (hw.2.1 w hw2).1
  · rw [h.1 (0 + 5 * w + 2) (by omega)]; exact (hw.2.1 w hw2).2
  · rw [h.1 1087 (by omega)]; exact hw.2.2.1
  · rw [(h.2.1 i hi).1]; exact hw.2.2.2.1 i hi
  · rw [h.2.2 4 (by decide) (by decide) (by decide) (by decide)]; exact hw.2.2.2.2 s hs
theorem svO.l {μ τ : St} (h : svO μ τ) : mL τ = mL μ := by unfold mL; rw [h.1 1087 (by omega)]
theorem freeOff (μ : St) (w fr : Nat) : Offs [7, 8] μ (mFree μ w fr).2 := by
  unfold mFree
  split
  · exact offFk w fr μ _
  · exact Offs.rf
theorem fmU_sv {w fr : Nat} (hw : w < 10) (hfr : fr ≤ 24) (μ : St) {n : Nat} (hn : n ≤ 24 - fr) : svO μ (it (fmU w) fr n μ) := it_inv (svO μ) n svO.rf (fun i τ h1 h2 q => q.dr (by omega) (by omega))
theorem gmU_sv {fr : Nat} (hfr : fr ≤ 24) {μ : St} (hw : WM μ) {n : Nat} (hn : n ≤ 10) : svO μ (it0 (gmU fr) n μ) := it0_inv (svO μ) n svO.rf (fun i τ h1 q => q.tr (fmU_sv ((q.wm hw).w10 (by omega)) hfr τ (Nat.le_refl _)))
theorem uns_sv {fr : Nat} (hfr : fr ≤ 24) {μ : St} (hw : WM μ) : svO μ (mUns μ fr) := gmU_sv hfr hw hw.l10
theorem giv_sv (μ : St) (n : Nat) : svO μ (it0 fmG n μ) := it0_inv (svO μ) n svO.rf (fun _ _ _ q => q.oth (by omega))
theorem fmA_sv {w fr : Nat} (hw : w < 10) (hfr : fr ≤ 24) (v : Int32) (μ : St) {n : Nat} (hn : n ≤ 24 - fr) : svO μ (it (fmA w v) fr n μ) := it_inv (svO μ) n svO.rf (fun i τ h1 h2 q => by
  unfold fmA
  split
  · exact q
  · exact q.dr (by omega) (by omega))
theorem turn_sv {μ : St} (hwm : WM μ) {j fr : Nat} (hj : j < 10) (hfr : fr ≤ 24) (v : Int32) : svO μ (mGrT (mFree μ (mlw μ j) fr).2 j (mlw μ j) fr v) :=
  (((svO.rf.off (freeOff μ (mlw μ j) fr)).oth (by omega)).tr (fmA_sv (hwm.w10 hj) hfr v _ (Nat.le_refl _))).sv hj
/-- behind n turns: at most n licences are done -/
theorem sv_inv {μ : St} (hwm : WM μ) {fr : Nat} (hfr : fr ≤ 24) : ∀ n, n ≤ mL μ → svO μ (mSv μ fr n).2 ∧ (mSv μ fr n).1.2 < 1024 ∧ ctb (mSv μ fr n).1.2 (mL μ) ≤ n
  | 0, _ => ⟨(uns_sv hfr hwm).tr (giv_sv _ _), by show 0 < 1024; decide, by show ctb 0 _ ≤ 0; rw [ctb_0]; exact Nat.le_refl _⟩
  | n + 1, hn => by
    obtain ⟨h1, h2, h3⟩ := sv_inv hwm hfr n (by omega)
    show svO μ (fmServe fr n (mSv μ fr n)).2 ∧ (fmServe fr n (mSv μ fr n)).1.2 < 1024 ∧ ctb (fmServe fr n (mSv μ fr n)).1.2 (mL μ) ≤ n + 1
    generalize mSv μ fr n = q at *
    have hwq := h1.wm hwm
    have h10 := hwq.l10
    have hok := nx_ok hwq (D := q.1.2) (by rw [h1.l]; exact ctb_ex (by omega))
    refine ⟨h1.tr (turn_sv hwq (by show (mNx q.2 q.1.2).toNatClampNeg < 10; omega) hfr _), or_lt h2 (by show (mNx q.2 q.1.2).toNatClampNeg < 10; omega), ?_⟩
    have := ctb_or q.1.2 (mNx q.2 q.1.2).toNatClampNeg (mL μ)
    show ctb (q.1.2 ||| 2 ^ (mNx q.2 q.1.2).toNatClampNeg) (mL μ) ≤ n + 1
    split at this <;> omega
