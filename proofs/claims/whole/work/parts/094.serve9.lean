theorem amt1 {v b : Nat} (hv : v ≤ 1000) (hb : b ≤ 1000) : mAm1 (nI b) (nI v) = nI (min v b) := by
  unfold mAm1
  by_cases c : v ≤ b
  · rw [if_pos (nI_le c (by omega)), Nat.min_eq_left c]
  · rw [if_neg (nI_ge (by omega) (by omega)), Nat.min_eq_right (by omega)]
/-- of a pumping well: the room, as both see it -/
theorem room_eq {x y : St} (h : Rel (hS x) (hM y)) {w fr a : Nat} (hw : w < 10) (hfr : fr < 24) (hc : 0 < ctf (kd x w)) (ha : a ≤ 1000) (hG : ∀ m, fr ≤ m → m < 24 → own x w m → Nb (y 9 w) 1000 ∧ x 20 (w * 24 + m) = y 9 w) : ∃ r, r ≤ a ∧ ((∃ m, fr ≤ m ∧ m < 24 ∧ own x w m) → r + (y 9 w).toNatClampNeg ≤ 1000) ∧ mn (nI a) (cRoom x w fr) = nI r ∧ mAm2 y w fr (nI a) = nI r := by
  have hd : mDrs y w fr ↔ ∃ i, i < 24 - fr ∧ own x w (fr + i) := by
    unfold mDrs
    have hs := hat_sgn h (m := fr) hw hc
    constructor
    · rintro (q | q)
      · have := (nI_ltI (by omega) (by decide)).mp q
        rcases own_two x w fr with z | z
        · exact ⟨0, by omega, z⟩
        · exact ⟨1, by omega, z⟩
      · refine ⟨0, by omega, ?_⟩
        by_cases c : own x w fr
        · exact c
        · exact absurd (hs.mpr c) q
    · rintro ⟨i, hi, ho⟩
      by_cases e : fr < 23
      · exact Or.inl (nI_lt e (by decide))
      · refine Or.inr (fun q => hs.mp q ?_)
        rw [show fr + i = fr by omega] at ho
        exact ho
  unfold cRoom mAm2
  by_cases hex : ∃ i, i < 24 - fr ∧ own x w (fr + i)
  · obtain ⟨i0, hi0, ho0⟩ := hex
    have hg := (hG (fr + i0) (by omega) (by omega) ho0).1
    have hx : ∀ m, fr ≤ m → m < 24 → own x w m → x 20 (w * 24 + m) = nI (y 9 w).toNatClampNeg := fun m h1 h2 h3 => by
      rw [← hg.1]
      exact (hG m h1 h2 h3).2
    have hg2 := hg.2
    rw [hg.1, nI_clamp (by omega), pk_sub hg2]
    generalize (y 9 w).toNatClampNeg = g at *
    rcases room_in hg2 hx (24 - fr) (by omega) with ⟨h1, e⟩ | ⟨h1, e⟩
    · rw [e, mn_nI (by omega) (by omega)]
      refine ⟨min a (1000 - g), by omega, fun _ => by omega, rfl, ?_⟩
      by_cases c : 1000 - g < a
      · rw [if_pos ⟨hd.mpr h1, nI_lt c (by omega)⟩, Nat.min_eq_right (by omega)]
      · rw [if_neg (fun z => nI_nlt (by omega) (by omega) z.2), Nat.min_eq_left (by omega)]
    · exact absurd ho0 (h1 i0 hi0)
  · have hno : ∀ m, fr ≤ m → m < 24 → ¬ own x w m := fun m h1 h2 h3 => hex ⟨m - fr, by omega, by rw [show fr + (m - fr) = m by omega]; exact h3⟩
    rw [if_neg (fun z => hex (hd.mp z.1))]
    rcases room_in (x := x) (w := w) (fr := fr) (g := 0) (by decide) (fun m h1 h2 h3 => absurd h3 (hno m h1 h2)) (24 - fr) (by omega) with ⟨h1, e⟩ | ⟨h1, e⟩
    · exact absurd h1 hex
    · rw [e, mn_nI (by omega) (by omega), Nat.min_eq_left ha]
      exact ⟨a, Nat.le_refl _, fun ⟨m, h2, h3, h4⟩ => absurd h4 (hno m h2 h3), rfl, rfl⟩
