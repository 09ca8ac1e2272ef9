theorem add00 (a : Int32) : a + nI 0 = a := by rw [nI00, Int32.add_zero]
theorem grZ0 {w fr : Nat} (x : St) : ∀ k, it (fGr w (nI 0)) fr k x = x
  | 0 => by rw [it]
  | k + 1 => by
    rw [it, grZ0 x k]
    unfold fGr
    split
    · exact wr_same (add00 _).symm
    · rfl
theorem fma_0 {w fr : Nat} (y : St) : ∀ k, it (fmA w (nI 0)) fr k y = y
  | 0 => by rw [it]
  | k + 1 => by
    rw [it, fma_0 y k]
    unfold fmA
    split
    · rfl
    · exact wr_same (add00 _).symm
/-- the grant, for any well: it pumps, or nothing is granted -/
theorem gr_any {x y : St} (h : Rel (hS x) (hM y)) {w fr r : Nat} (hw : w < 10) (hfr : fr ≤ 24) (hc : 0 < ctf (kd x w) ∨ r = 0) (hv : ∀ m, fr ≤ m → m < 24 → own x w m → isR (x 20 (w * 24 + m) + nI r) 1000) : Rel (hS (cGr1 x w fr (nI r))) (hM (it (fmA w (nI r)) fr (24 - fr) y)) ∧ (∀ j, j ≠ 20 → cGr1 x w fr (nI r) j = x j) ∧ (∀ j, j ≠ 1 → it (fmA w (nI r)) fr (24 - fr) y j = y j) ∧ (∀ u m, m < 24 → (u ≠ w ∨ m < fr) → cGr1 x w fr (nI r) 20 (u * 24 + m) = x 20 (u * 24 + m)) ∧ ∀ m, fr ≤ m → m < 24 → own x w m → cGr1 x w fr (nI r) 20 (w * 24 + m) = x 20 (w * 24 + m) + nI r := by
  unfold cGr1
  rcases hc with hc | rfl
  · obtain ⟨i1, i2, i3, i4, i5⟩ := gr_in h (fr := fr) hw hc hv (24 - fr) (by omega)
    refine ⟨i1, i2, i3, fun u m hm hq => i4 _ (fun i hi _ => by omega), fun m h1 h2 ho => ?_⟩
    have := i5 (m - fr) (by omega) (by rw [show fr + (m - fr) = m by omega]; exact ho)
    rw [show fr + (m - fr) = m by omega] at this
    exact this
  · rw [grZ0, fma_0]
    exact ⟨h, fun _ _ => rfl, fun _ _ => rfl, fun _ _ _ _ => rfl, fun _ _ _ _ => (add00 _).symm⟩
