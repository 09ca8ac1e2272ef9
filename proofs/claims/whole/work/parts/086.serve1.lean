/-- SERVE: the relation without what was served -/
def hS (x : St) : St := wrA x 16 (fun _ => -1)
def hM (y : St) : St := wr y 1 1089 (nI 0)
section
variable {σ μ x y : St}
theorem hS_ne {k : Nat} (h : k ≠ 16) : hS x k = x k := wrA_ne h
theorem hS_wr {k j : Nat} {v : Int32} (h : k ≠ 16) : hS (wr x k j v) = wr (hS x) k j v := by
  funext a b
  unfold hS
  by_cases c : a = 16
  · subst c
    rw [wrA_row, wr_ne (Ne.symm h), wrA_row]
  · rw [wrA_ne c]
    unfold wr
    rw [wrA_ne c]
theorem hS_16 {j : Nat} {v : Int32} : hS (wr x 16 j v) = hS x := by
  funext a b
  unfold hS
  by_cases c : a = 16
  · subst c
    rw [wrA_row, wrA_row]
  · rw [wrA_ne c, wrA_ne c, wr_ne c]
theorem hM_wr {k j : Nat} {v : Int32} (h : k ≠ 1 ∨ j ≠ 1089) : hM (wr y k j v) = wr (hM y) k j v := by
  funext a b
  unfold hM wr
  by_cases c : a = 1 ∧ b = 1089
  · rw [if_pos c, if_neg (show ¬ (a = k ∧ b = j) by omega), if_pos c]
  · rw [if_neg c, if_neg c]
theorem hM_lo : Lo y (hM y) := fun J hJ => wr_out (by omega)
theorem lo_hM : Lo (hM y) y := fun J hJ => (wr_out (by omega)).symm
theorem hS_hat : Hat (hS x) x := ⟨fun k hk _ => (hS_ne (by omega)).symm, (hS_ne (by decide)).symm, (hS_ne (by decide)).symm⟩
theorem Rel.hat (h : Rel σ μ) : Rel (hS σ) (hM μ) := by
  refine h.chg (hS_ne (by decide)) (fun k hk => hS_ne (by omega)) (wr_ne (by decide)) (wr_ne (by decide)) (wr_ne (by decide)) (wr_ne (by decide)) (wr_ne (by decide)) ⟨fun J hJ => ?_, ?_, ?_⟩ ⟨fun K j J hK => ?_, ?_⟩
  · unfold hM
    by_cases e : J = 1089
    · rw [e, wr_in]; exact nI_B (n := 10) (by decide) (by decide) rfl
    · rw [wr_out e]; exact h.1.1 J hJ
  · unfold hM
    rw [wr_out (by decide), ctm_cong (r := μ 1) (fun k hk => wr_out (by omega))]
    exact h.1.2.1
  · unfold hM
    exact h.1.2.2.same (fun J hJ => wr_out (by omega))
  · have hl := po_lt hK
    unfold hM
    rw [hS_ne (by omega), wr_out (by omega)]
    exact h.2.1.1 K j J hK
  · unfold Svd hM
    rw [wr_in, wr_out (by decide)]
    refine ⟨Nat.zero_le _, fun i hi hi2 => ⟨fun z => absurd z (Nat.not_lt_zero i), fun _ => ?_⟩⟩
    unfold hS
    show wrA σ 16 (fun _ => -1) 16 i = -1
    rw [wrA_row]
/-- and back, with what was served -/
theorem Rel.bare (h : Rel (hS x) (hM y)) {L : Nat} (hL : L ≤ 10) (hs : Svd 1 x (wr y 1 1089 (nI L) 1)) : Rel x (wr y 1 1089 (nI L)) := by
  have e1 : ∀ J, J ≠ 1089 → wr y 1 1089 (nI L) 1 J = hM y 1 J := fun J e => by unfold hM; rw [wr_out e, wr_out e]
  refine h.chg (hS_ne (by decide)).symm (fun k hk => (hS_ne (by omega)).symm) ?_ ?_ ?_ ?_ ?_ ⟨fun J hJ => ?_, ?_, ?_⟩ ⟨fun K j J hK => ?_, hs⟩
  · unfold hM; rw [wr_ne (by decide), wr_ne (by decide)]
  · unfold hM; rw [wr_ne (by decide), wr_ne (by decide)]
  · unfold hM; rw [wr_ne (by decide), wr_ne (by decide)]
  · unfold hM; rw [wr_ne (by decide), wr_ne (by decide)]
  · unfold hM; rw [wr_ne (by decide), wr_ne (by decide)]
  · by_cases e : J = 1089
    · rw [e, wr_in]; exact nI_B (n := 10) (by decide) hL rfl
    · rw [e1 J e]; exact h.1.1 J hJ
  · rw [e1 1088 (by decide), ctm_cong (r := hM y 1) (fun k hk => e1 _ (by omega))]
    exact h.1.2.1
  · exact h.1.2.2.same (fun J hJ => e1 J (by omega))
  · have hl := po_lt hK
    rw [e1 J (by omega), ← h.2.1.1 K j J hK, hS_ne (by omega)]
/-- the draws of a well from fr on are cleared in both -/
theorem uns_in (h : Rel (hS x) (hM y)) {w fr : Nat} (hw : w < 10) : ∀ k, fr + k ≤ 24 → Rel (hS (it (fUns w) fr k x)) (hM (it (fmU w) fr k y)) ∧ (∀ j, j ≠ 20 → it (fUns w) fr k x j = x j) ∧ (∀ i, i < k → it (fUns w) fr k x 20 (w * 24 + (fr + i)) = nI 0) ∧ ∀ u m, m < 24 → x 20 (u * 24 + m) = nI 0 → it (fUns w) fr k x 20 (u * 24 + m) = nI 0
  | 0, _ => ⟨h, fun _ _ => rfl, fun i hi => absurd hi (Nat.not_lt_zero i), fun _ _ _ q => q⟩
  | k + 1, hk => by
    have ih := uns_in h hw (fr := fr) k (by omega)
    rw [it, it]
    generalize it (fUns w) fr k x = a at *
    generalize it (fmU w) fr k y = b at *
    unfold fUns fmU
    refine ⟨?_, fun j hj => (wr_ne hj).trans (ih.2.1 j hj), fun i hi => ?_, fun u m hm q => ?_⟩
    · rw [hS_wr (by decide), hM_wr (by omega)]
      exact ih.1.setD hw (by omega) ⟨nI_le (by omega) (by omega), nI_le (by omega) (by decide)⟩
    · by_cases e : i = k
      · rw [e, wr_in]
      · rw [wr_out (by omega)]
        exact ih.2.2.1 i (by omega)
    · by_cases e : u * 24 + m = w * 24 + (fr + k)
      · rw [e, wr_in]
      · rw [wr_out e]
        exact ih.2.2.2 u m hm q
end
