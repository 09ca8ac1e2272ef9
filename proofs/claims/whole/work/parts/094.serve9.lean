theorem amt1 {v b : Nat} (hv : v ≤ 1000) (hb : b ≤ 1000) : mAm1 (nI b) (nI v) = nI (min v b) := by
  unfold mAm1
  by_cases c : v ≤ b
  · rw [if_pos (nI_le c (by omega)), Nat.min_eq_left c]
  · rw [if_neg (nI_ge (by omega) (by omega)), Nat.min_eq_right (by omega)]
/-- of a pumping well: the room, as both see it -/
theorem room_eq {x y : St} (h : Rel (hS x) (hM y)) {w fr g a : Nat} (hw : w < 10) (hfr : fr < 24) (hc : 0 < ctf (kd x w)) (hg : g ≤ 1000) (ha : a ≤ 1000) (hy : y 9 w = nI g) (hx : ∀ m, fr ≤ m → m < 24 → own x w m → x 20 (w * 24 + m) = nI g) : ∃ r, r ≤ a ∧ ((∃ m, fr ≤ m ∧ m < 24 ∧ own x w m) → r ≤ 1000 - g) ∧ mn (nI a) (cRoom x w fr) = nI r ∧ mAm2 y w fr (nI a) = nI r := by
  have hd : mDrs y w fr ↔ ∃ i, i < 24 - fr ∧ own x w (fr + i) := by
    unfold mDrs
    have hs := hat_sgn h (m := fr) hw hc
    constructor
    · rintro (q | q)
      · have := (nI_ltI (by omega) (by decide)).mp q
        rcases own_two x w fr with z | z
        · exact ⟨0, by omega, z⟩
        · exact ⟨1, by omega, z⟩
      · refine ⟨0, by omega, ?_⟩
        by_cases c : own x w fr
        · exact c
        · exact absurd (hs.mpr c) q
    · rintro ⟨i, hi, ho⟩
      by_cases e : fr < 23
      · exact Or.inl (nI_lt e (by decide))
      · refine Or.inr (fun q => hs.mp q ?_)
        rw [show fr + i = fr by omega] at ho
        exact ho
  unfold cRoom mAm2
  rw [hy, pk_sub hg]
  rcases room_in hg hx (24 - fr) (by omega) with ⟨h1, e⟩ | ⟨h1, e⟩
  · rw [e, mn_nI (by omega) (by omega)]
    refine ⟨min a (1000 - g), by omega, fun _ => by omega, rfl, ?_⟩
    by_cases c : 1000 - g < a
    · rw [if_pos ⟨hd.mpr h1, nI_lt c (by omega)⟩, Nat.min_eq_right (by omega)]
    · rw [if_neg (fun z => nI_nlt (by omega) (by omega) z.2), Nat.min_eq_left (by omega)]
  · rw [e, mn_nI (by omega) (by omega), Nat.min_eq_left ha, if_neg (fun z => by
      obtain ⟨i, h2, h3⟩ := hd.mp z.1
      exact h1 i h2 h3)]
    refine ⟨a, Nat.le_refl _, fun ⟨m, h2, h3, h4⟩ => ?_, rfl, rfl⟩
    exact absurd (show own x w (fr + (m - fr)) by rw [show fr + (m - fr) = m by omega]; exact h4) (h1 (m - fr) (by omega))
