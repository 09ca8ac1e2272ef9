theorem room_in {x : St} {w fr g : Nat} (hg : g ≤ 1000) (hx : ∀ m, fr ≤ m → m < 24 → own x w m → x 20 (w * 24 + m) = nI g) : ∀ k, fr + k ≤ 24 → ((∃ i, i < k ∧ own x w (fr + i)) ∧ it (fRoom x w) fr k (nI 1000) = nI (1000 - g)) ∨ ((∀ i, i < k → ¬ own x w (fr + i)) ∧ it (fRoom x w) fr k (nI 1000) = nI 1000)
  | 0, _ => Or.inr ⟨fun i hi => absurd hi (Nat.not_lt_zero i), by rw [it]⟩
  | k + 1, hk => by
    have ih := room_in hg hx k (by omega)
    rw [it]
    generalize it (fRoom x w) fr k (nI 1000) = a at *
    unfold fRoom
    by_cases c : own x w (fr + k)
    · rw [if_pos c, hx (fr + k) (by omega) (by omega) c, pk_sub hg]
      refine Or.inl ⟨⟨k, by omega, c⟩, ?_⟩
      rcases ih with ⟨-, e⟩ | ⟨-, e⟩
      · rw [e, mn_nI (by omega) (by omega), Nat.min_self]
      · rw [e, mn_nI (by omega) (by omega), Nat.min_eq_right (by omega)]
    · rw [if_neg c]
      rcases ih with ⟨⟨i, h1, h2⟩, e⟩ | ⟨h1, e⟩
      · exact Or.inl ⟨⟨i, by omega, h2⟩, e⟩
      · refine Or.inr ⟨fun i hi => ?_, e⟩
        by_cases q : i = k
        · rw [q]; exact c
        · exact h1 i (by omega)
/-- of two months next to each other one is the well's own -/
theorem own_two (x : St) (w m : Nat) : own x w m ∨ own x w (m + 1) := by
  by_cases c : w % 2 = m % 2
  · exact Or.inl (Or.inr c)
  · exact Or.inr (Or.inr (by omega))
