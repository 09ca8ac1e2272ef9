/-- the grant, month by month, for a well that pumps -/
theorem gr_in {x y : St} (h : Rel (hS x) (hM y)) {w fr : Nat} {v : Int32} (hw : w < 10) (hc : 0 < ctf (kd x w)) (hv : ∀ m, fr ≤ m → m < 24 → own x w m → isR (x 20 (w * 24 + m) + v) 1000) : ∀ k, fr + k ≤ 24 → Rel (hS (it (fGr w v) fr k x)) (hM (it (fmA w v) fr k y)) ∧ (∀ j, j ≠ 20 → it (fGr w v) fr k x j = x j) ∧ (∀ j, j ≠ 1 → it (fmA w v) fr k y j = y j) ∧ (∀ j, (∀ i, i < k → own x w (fr + i) → j ≠ w * 24 + (fr + i)) → it (fGr w v) fr k x 20 j = x 20 j) ∧ ∀ i, i < k → own x w (fr + i) → it (fGr w v) fr k x 20 (w * 24 + (fr + i)) = x 20 (w * 24 + (fr + i)) + v
  | 0, _ => by
    rw [it, it]
    exact ⟨h, fun _ _ => rfl, fun _ _ => rfl, fun _ _ => rfl, fun i hi => absurd hi (Nat.not_lt_zero i)⟩
  | k + 1, hk => by
    obtain ⟨i1, i2, i3, i4, i5⟩ := gr_in h hw hc hv k (by omega)
    rw [it, it]
    generalize it (fGr w v) fr k x = a at *
    generalize it (fmA w v) fr k y = b at *
    have hka : kd a w = kd x w := by unfold kd; rw [i2 3 (by decide)]
    have hoa : own a w (fr + k) ↔ own x w (fr + k) := by unfold own; rw [i2 3 (by decide)]
    have hs := hat_sgn i1 (m := fr + k) hw (by rw [hka]; exact hc)
    have hd := hat_dr i1 hw (show fr + k < 24 by omega)
    have ha : a 20 (w * 24 + (fr + k)) = x 20 (w * 24 + (fr + k)) := i4 _ (fun i hi _ => by omega)
    unfold fGr fmA
    by_cases c : own x w (fr + k)
    · rw [if_pos (hoa.mpr c), if_neg (fun z => hs.mp z (hoa.mpr c)), hd]
      refine ⟨?_, fun j hj => (wr_ne hj).trans (i2 j hj), fun j hj => (wr_ne hj).trans (i3 j hj), fun j hj => ?_, fun i hi ho => ?_⟩
      · rw [hS_wr (by decide), hM_wr (by omega), ha]
        exact i1.setD hw (by omega) (hv _ (by omega) (by omega) c)
      · rw [wr_out (hj k (by omega) c)]
        exact i4 j (fun i hi => hj i (by omega))
      · by_cases e : i = k
        · rw [e, wr_in, ha]
        · rw [wr_out (by omega)]
          exact i5 i (by omega) ho
    · rw [if_neg (fun z => c (hoa.mp z)), if_pos (hs.mpr (fun z => c (hoa.mp z)))]
      refine ⟨i1, i2, i3, fun j hj => i4 j (fun i hi => hj i (by omega)), fun i hi ho => ?_⟩
      by_cases e : i = k
      · rw [e] at ho; exact absurd ho c
      · exact i5 i (by omega) ho
