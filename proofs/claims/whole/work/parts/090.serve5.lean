theorem hat_dr {x y : St} (h : Rel (hS x) (hM y)) {w m : Nat} (hw : w < 10) (hm : m < 24) : y 1 (50 + 24 * w + m) = x 20 (w * 24 + m) := by
  have h1 := h.draw hw hm
  rw [hS_ne (by decide)] at h1
  rw [← h1]
  unfold mDr hM
  rw [wr_out (by omega)]
theorem hat_sgn {x y : St} (h : Rel (hS x) (hM y)) {w m : Nat} (hw : w < 10) (hc : 0 < ctf (kd x w)) : mSgn y w m = 0 ↔ ¬ own x w m := by
  have h0 : kd (hS x) w = kd x w := by unfold kd; rw [hS_ne (by decide)]
  have h1 := h.sgn (m := m) hw
  rw [lo_sgn hM_lo hw, h.ct1 hw (by rw [h0]; exact hc)] at h1
  have h2 : own (hS x) w m ↔ own x w m := by unfold own; rw [hS_ne (by decide)]
  rw [h1]
  by_cases c : own x w m
  · rw [if_pos (h2.mpr c)]
    exact ⟨fun q => absurd q (by decide), fun q => absurd c q⟩
  · rw [if_neg (fun z => c (h2.mp z))]
    exact ⟨fun _ => c, fun _ => rfl⟩
