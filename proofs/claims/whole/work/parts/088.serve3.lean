theorem ifI {α : Type} {c d : Prop} [Decidable c] [Decidable d] {a b : α} (h : c ↔ d) : (if c then a else b) = (if d then a else b) := by
  by_cases q : c
  · rw [if_pos q, if_pos (h.mp q)]
  · rw [if_neg q, if_neg (fun z => q (h.mpr z))]
section
variable {σ μ x y : St}
theorem sv_l (hs : ∀ j, j ≠ 16 → j ≠ 20 → j ≠ 22 → x j = σ j) : nLi x = nLi σ ∧ nW x = nW σ := by
  unfold nLi nW
  rw [hs 12 (by decide) (by decide) (by decide), hs 2 (by decide) (by decide) (by decide)]
  exact ⟨rfl, rfl⟩
theorem hat_ly (h : Rel (hS x) (hM y)) {i : Nat} (hi : i < 10) : y 1 (566 + 4 * i + 1) = x 14 i := by
  have h1 := h.ly hi
  rw [hS_ne (by decide)] at h1
  unfold hM at h1
  rw [wr_out (by omega)] at h1
  exact h1.symm
theorem hat_la (h : Rel (hS x) (hM y)) {i : Nat} (hi : i < 10) : y 1 (566 + 4 * i + 2) = x 15 i ∧ Nb (x 15 i) 1000 := by
  have h1 := h.la hi
  have h2 := h.b (J := 566 + 4 * i + 2) (n := 1000) (by omega) (by decide) (b_la hi)
  rw [← h1, hS_ne (by decide)] at h2
  rw [hS_ne (by decide)] at h1
  unfold hM at h1
  rw [wr_out (by omega)] at h1
  exact ⟨h1.symm, h2⟩
theorem sv_next {fr D : Nat} (h : Sv σ fr D x y) (hl : nLi σ ≤ 10) : cNext x = mNx y D := by
  obtain ⟨h1, h2, h3, -, -⟩ := h
  have hL := (sv_l h2).1
  have hm : mL y = nLi σ := by
    have e := h1.l
    rw [hS_ne (by decide)] at e
    unfold hM at e
    rw [wr_out (by decide)] at e
    rw [← hL]
    unfold mL nLi
    rw [e]
  have key : ∀ n, n ≤ nLi σ → it0 (fNext x) n (-1) = it0 (fmNx y D) n (-1) := by
    intro n
    induction n with
    | zero => intro _; rw [it0, it0]
    | succ n ih =>
      intro hn
      have ih := ih (by omega)
      rw [it0, it0, ih]
      have h10 := nx_10 (μ := y) (D := D) (n := n) (by omega)
      generalize it0 (fmNx y D) n (-1) = a at *
      have hb := h3 n (by omega)
      unfold fNext fmNx
      rw [hat_ly h1 (i := n) (by omega), hat_ly h1 h10]
      have e : (x 16 n = -1) ↔ (D.testBit n = false) := by
        constructor
        · intro q
          cases hd : D.testBit n with
          | false => rfl
          | true =>
            exfalso
            have h4 := (hb.2 hd).2
            rw [h4.1] at q
            exact nI_m1 (by have := h4.2; omega) q
        · exact hb.1
      exact ifI (and_congr e Iff.rfl)
  unfold cNext mNx
  rw [hL, hm]
  exact key _ (Nat.le_refl _)
end
