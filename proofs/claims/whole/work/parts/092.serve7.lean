/-- what cUse leaves in row 22 -/
theorem use_in {s fr p : Nat} {v : Int32} (τ : St) : ∀ k, (∀ j, j ≠ 22 → it (fUse s fr v p) fr k τ j = τ j) ∧ (∀ j, (∀ i, i < k → j ≠ p * 24 + (fr + i)) → it (fUse s fr v p) fr k τ 22 j = τ 22 j) ∧ ∀ i, i < k → it (fUse s fr v p) fr k τ 22 (p * 24 + (fr + i)) = τ 22 (p * 24 + (fr + i)) - v * cOne τ p (fr + i) s fr
  | 0 => by
    rw [it]
    exact ⟨fun _ _ => rfl, fun _ _ => rfl, fun i hi => absurd hi (Nat.not_lt_zero i)⟩
  | k + 1 => by
    obtain ⟨i1, i2, i3⟩ := use_in (s := s) (fr := fr) (p := p) (v := v) τ k
    rw [it]
    generalize it (fUse s fr v p) fr k τ = a at *
    have hd : Dif 0 τ a := ⟨fun j hj _ => i1 j (by omega), i1 21 (by decide), fun u i _ _ => by rw [i1 20 (by decide)]⟩
    unfold fUse
    refine ⟨fun j hj => (wr_ne hj).trans (i1 j hj), fun j hj => ?_, fun i hi => ?_⟩
    · rw [wr_out (hj k (by omega))]
      exact i2 j (fun i hi => hj i (by omega))
    · by_cases e : i = k
      · rw [e, wr_in, dif_one hd, i2 _ (fun i hi => by omega)]
      · rw [wr_out (by omega)]
        exact i3 i (by omega)
theorem use_all {s fr : Nat} {v : Int32} (τ : St) : ∀ k, (∀ j, j ≠ 22 → it0 (gUse s fr v) k τ j = τ j) ∧ (∀ p n, k ≤ p → n < 24 → it0 (gUse s fr v) k τ 22 (p * 24 + n) = τ 22 (p * 24 + n)) ∧ ∀ p n, p < k → fr ≤ n → n < 24 → it0 (gUse s fr v) k τ 22 (p * 24 + n) = τ 22 (p * 24 + n) - v * cOne τ p n s fr
  | 0 => by
    rw [it0]
    exact ⟨fun _ _ => rfl, fun _ _ _ _ => rfl, fun p n hp => absurd hp (Nat.not_lt_zero p)⟩
  | k + 1 => by
    obtain ⟨i1, i2, i3⟩ := use_all (s := s) (fr := fr) (v := v) τ k
    rw [it0]
    generalize it0 (gUse s fr v) k τ = a at *
    have hd : Dif 0 τ a := ⟨fun j hj _ => i1 j (by omega), i1 21 (by decide), fun u i _ _ => by rw [i1 20 (by decide)]⟩
    have t := use_in (s := s) (fr := fr) (p := k) (v := v) a (24 - fr)
    unfold gUse
    refine ⟨fun j hj => (t.1 j hj).trans (i1 j hj), fun p n hp hn => ?_, fun p n hp h1 h2 => ?_⟩
    · rw [t.2.1 _ (fun i hi => by omega)]
      exact i2 p n (by omega) hn
    · by_cases e : p = k
      · have h3 := t.2.2 (n - fr) (by omega)
        rw [show fr + (n - fr) = n by omega] at h3
        rw [e, h3, i2 k n (Nat.le_refl _) h2, dif_one hd]
      · rw [t.2.1 _ (fun i hi => by omega)]
        exact i3 p n (by omega) h1 h2
