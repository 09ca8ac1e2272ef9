theorem sm_one {g k : Nat → Int32} {lo j : Nat} : ∀ {n : Nat}, lo ≤ j → j < lo + n → (∀ i, lo ≤ i → i < lo + n → i ≠ j → g i = k i) → sm g lo n = sm k lo n + (g j - k j)
  | 0, h1, h2, _ => absurd h2 (by omega)
  | n + 1, h1, h2, h => by
    rw [sm, sm]
    by_cases e : j = lo + n
    · rw [sm_cong (g := g) (k := k) (fun i a b => h i a (by omega) (by omega)), e]
      grind
    · rw [sm_one h1 (by omega) (fun i a b c => h i a (by omega) c), h (lo + n) (by omega) (by omega) (by omega)]
      grind
/-- the draws of the well s differ, and nothing that heads are made of -/
def Dif (s : Nat) (σ τ : St) : Prop := (∀ k, k < 16 → k ≠ 11 → τ k = σ k) ∧ τ 21 = σ 21 ∧ ∀ w i, w ≠ s → i < 24 → τ 20 (w * 24 + i) = σ 20 (w * 24 + i)
section
variable {σ τ μ : St} {s : Nat}
theorem dif_rw (hd : Dif s σ τ) (p w : Nat) : rwN τ p w = rwN σ p w := by
  unfold rwN lyN apN cAp
  rw [hd.1 3 (by decide) (by decide), hd.1 4 (by decide) (by decide), hd.1 5 (by decide) (by decide)]
theorem dif_kd (hd : Dif s σ τ) (w : Nat) : kd τ w = kd σ w := by
  unfold kd
  rw [hd.1 3 (by decide) (by decide)]
theorem dif_lw (hd : Dif s σ τ) (p n w m : Nat) (e : τ 20 (w * 24 + m) = σ 20 (w * 24 + m)) : lwS τ p n w m = lwS σ p n w m := by
  unfold lwS own
  rw [dif_rw hd, e, hd.1 3 (by decide) (by decide), hd.1 9 (by decide) (by decide)]
theorem dif_low (hd : Dif s σ τ) {p n w fr : Nat} (hn : n < 24) (hw : w ≠ s) : cLow τ p n w fr = cLow σ p n w fr := by
  rw [cLow_sm, cLow_sm, dif_kd hd]
  congr 1
  exact sm_cong (fun i h1 h2 => dif_lw hd p n w i (hd.2.2 w i hw (by omega)))
theorem dif_heads (hd : Dif s σ τ) {p n : Nat} (hn : n < 24) (z : Int32) : ∀ k, it0 (fHead τ p n) k z = it0 (fHead σ p n) k z - (if s < k then cLow τ p n s 0 - cLow σ p n s 0 else 0)
  | 0 => by
    show z = z - _
    rw [if_neg (Nat.not_lt_zero s), Int32.sub_zero]
  | k + 1 => by
    rw [it0, it0, dif_heads hd hn z k]
    unfold fHead
    by_cases e : k = s
    · subst e
      rw [if_neg (Nat.lt_irrefl k), if_pos (Nat.lt_succ_self k)]
      grind
    · rw [dif_low hd hn e]
      by_cases q : s < k
      · rw [if_pos q, if_pos (by omega)]
        grind
      · rw [if_neg q, if_neg (by omega)]
        grind
theorem dif_rain (hd : Dif s σ τ) (n : Nat) : cRain τ n = cRain σ n := by
  unfold cRain
  exact it_cong (fun i a _ _ => by unfold fRain; rw [hd.2.1, hd.1 10 (by decide) (by decide)])
theorem dif_head (hd : Dif s σ τ) {p n : Nat} (hn : n < 24) (hs : s < nW σ) : cHead τ p n = cHead σ p n - (cLow τ p n s 0 - cLow σ p n s 0) := by
  have e : nW τ = nW σ := by unfold nW; rw [hd.1 2 (by decide) (by decide)]
  unfold cHead
  rw [e, dif_rain hd, hd.1 6 (by decide) (by decide), dif_heads hd hn, if_pos hs]
/-- one draw of a guard, and the head at it in that month -/
theorem holdL (h : Rel σ μ) {w m : Nat} (hw : w < nW σ) (hm : m < 24) (h4 : σ 3 w = nI 4) (v : Int32) : cHead (wr σ 20 (w * 24 + m) v) w m = cHead σ w m - σ 20 (w * 24 + m) * σ 9 (rwN σ w w) + v * σ 9 (rwN σ w w) := by
  have h10 := h.wc.n10
  have hlo : lo12 0 m = max 0 (m - 11) := rfl
  have hd : Dif w σ (wr σ 20 (w * 24 + m) v) := ⟨fun k hk _ => wr_ne (by omega), wr_ne (by decide), fun u i hu hi => wr_out (by omega)⟩
  have hk : kd σ w = 4 := by unfold kd; rw [h4]; decide
  have ho : own σ w m := Or.inl (by rw [h4]; decide)
  rw [dif_head hd hm hw, cLow_sm, cLow_sm, dif_kd hd, hk]
  rw [sm_one (g := lwS (wr σ 20 (w * 24 + m) v) w m w) (k := lwS σ w m w) (j := m) (by omega) (by omega) (fun i a b c => dif_lw hd w m w i (wr_out (by omega)))]
  have e1 : lwS (wr σ 20 (w * 24 + m) v) w m w m = v * σ 9 (rwN σ w w) := by
    have ho2 : own (wr σ 20 (w * 24 + m) v) w m := Or.inl (by rw [wr_ne (by decide), h4]; decide)
    unfold lwS
    rw [if_pos ho2, wr_in, dif_rw hd, wr_ne (by decide), show rwN σ w w + m - m = rwN σ w w by omega]
  have e2 : lwS σ w m w m = σ 20 (w * 24 + m) * σ 9 (rwN σ w w) := by
    unfold lwS
    rw [if_pos ho, show rwN σ w w + m - m = rwN σ w w by omega]
  rw [e1, e2, show ctf 4 = -1 from rfl]
  grind
theorem scan_some {p : Nat → Bool} : ∀ {n lo v : Nat}, lo ≤ v → v < lo + n → p v = true → (∀ i, lo ≤ i → i < v → p i = false) → scan p lo n = some v
  | 0, lo, v, h1, h2, _, _ => absurd h2 (by omega)
  | n + 1, lo, v, h1, h2, h3, h4 => by
    rw [scan]
    by_cases e : v = lo
    · subst e; rw [if_pos h3]
    · rw [if_neg (by rw [h4 lo (by omega) (by omega)]; decide)]
      exact scan_some (by omega) (by omega) h3 (fun i a b => h4 i (by omega) b)
theorem mh_wr (k : Nat) (μ : St) (x : Int32) : ∀ n, wr (it0 (fmH k) n μ) 1 k x = wr μ 1 k x
  | 0 => rfl
  | n + 1 => by
    have ih := mh_wr k μ x n
    rw [it0, ← ih]
    unfold fmH
    funext a b
    unfold wr
    by_cases c : a = 1 ∧ b = k
    · rw [if_pos c, if_pos c]
    · rw [if_neg c, if_neg c, if_neg c]
theorem mh_at (k v : Nat) (μ : St) : it0 (fmH k) (v + 1) μ = wr μ 1 k (nI v) := by
  rw [it0]
  unfold fmH
  exact mh_wr k μ (nI v) v
theorem mHs_eq (h : Rel σ μ) {w m : Nat} (hw : w < nW σ) (hm : m < 24) (h4 : σ 3 w = nI 4) (hd : Int32) : mHs μ w m hd = scan (fun v => decide (hd.toInt ≤ (cHead σ w m - σ 20 (w * 24 + m) * σ 9 (rwN σ w w)).toInt + (v : Int) * (σ 9 (rwN σ w w)).toInt)) 0 1001 := by
  have h10 := h.wc.n10
  have hr := rwN_228 h.wc (a := w) (b := w) (by omega) (by omega)
  have hf := h.fB (k := rwN σ w w) (by omega)
  unfold mHs
  refine scan_cong (fun v h1 h2 => ?_)
  have hv : isR (nI v) 1000 := ⟨nI_le (by omega) (by omega), nI_le (by omega) (by decide)⟩
  have hR := h.setD (w := w) (m := m) (by omega) hm hv
  have hR0 := h.setD (w := w) (m := m) (v := nI 0) (by omega) hm ⟨nI_le (by omega) (by omega), nI_le (by omega) (by decide)⟩
  have b1 := hR0.headB (p := w) (n := m) (by omega) hm
  rw [holdL h hw hm h4, nI00, Int32.zero_mul, Int32.add_zero] at b1
  rw [mh_at, hR.head (by omega) hm, holdL h hw hm h4]
  generalize cHead σ w m - σ 20 (w * 24 + m) * σ 9 (rwN σ w w) = B at *
  have e1 := hf.1
  have e2 := hf.2
  generalize (σ 9 (rwN σ w w)).toNatClampNeg = o at *
  rw [e1]
  have hp : v * o ≤ 1000 * 1000 := Nat.mul_le_mul (by omega) e2
  unfold Ab at b1
  have e3 : (B + nI v * nI o).toInt = B.toInt + (v : Int) * (nI o).toInt := by
    rw [pk_mul, i_add (by rw [nI_toInt (by omega)]; omega) (by rw [nI_toInt (by omega)]; omega), nI_toInt (by omega), nI_toInt (by omega), Int.natCast_mul]
  refine decide_eq_decide.mpr ?_
  rw [Int32.le_iff_toInt_le, e3]
theorem mHold_some {w m v : Nat} {hd : Int32} (e : mHs μ w m hd = some v) : mHold μ w m hd = (nI v, wr μ 1 (50 + 24 * w + m) (nI v)) := by
  unfold mHold
  rw [e]
  show (nI v, it0 (fmH (50 + 24 * w + m)) (v + 1) μ) = _
  rw [mh_at]
theorem mHold_none {w m : Nat} {hd : Int32} (e : mHs μ w m hd = none) : mHold μ w m hd = (-1000000006, mfnd μ) := by
  unfold mHold
  rw [e]
  show (-1000000006, mfnd (wr (it0 (fmH (50 + 24 * w + m)) 1001 μ) 1 (50 + 24 * w + m) (μ 1 (50 + 24 * w + m)))) = _
  rw [mh_wr, wr_same rfl]
theorem e_hold (h : Rel σ μ) (w m x : Int32) : EQ (cfHold σ w m x) (mfHold μ w m x) := by
  refine EQ.ite (and_congr (h.iw w) Iff.rfl) (fun c => ?_) (fun _ => relF h _)
  have hw := h.ix c.1
  have hm : tn m < 24 := by have := (ix_R (by decide) c.2.1).1; omega
  refine EQ.ite (by rw [h.kind hw.1]) (fun h4 => ?_) (fun _ => relF h _)
  have hw10 := hw.1
  have hwn := hw.2.2
  generalize tn w = w at *
  generalize tn m = m at *
  have hs := mHs_eq h hwn hm h4 x
  have hx := c.2.2
  have hr := rwN_228 h.wc hw10 hw10
  have hf := h.fB (k := rwN σ w w) (by omega)
  have hR0 := h.setD (w := w) (m := m) (v := nI 0) hw10 hm ⟨nI_le (by omega) (by omega), nI_le (by omega) (by decide)⟩
  have b1 := hR0.headB (p := w) (n := m) hw10 hm
  rw [holdL h hwn hm h4, nI00, Int32.zero_mul, Int32.add_zero] at b1
  unfold cHold
  generalize cHead σ w m - σ 20 (w * 24 + m) * σ 9 (rwN σ w w) = B at *
  have e1 := hf.1
  have e2 := hf.2
  generalize (σ 9 (rwN σ w w)).toNatClampNeg = o at *
  rw [e1] at hs ⊢
  rw [nI_toInt (by omega)] at hs
  unfold Ab at b1
  have hx1 := Int32.le_iff_toInt_le.mp hx.1
  have hx2 := Int32.le_iff_toInt_le.mp hx.2
  have hm1 : (-100000 : Int32).toInt = -100000 := by decide
  have hm2 : (100000 : Int32).toInt = 100000 := by decide
  rw [hm1] at hx1
  rw [hm2] at hx2
  have eT : (x - B).toInt = x.toInt - B.toInt := i_sub (by omega) (by omega)
  have fin : ∀ v : Nat, v ≤ 1000 → mHs μ w m x = some v → EQ (if nI v ≤ nI 1000 then (nI v, wr σ 20 (w * 24 + m) (nI v)) else (-1000000006, fnd σ)) (mHold μ w m x) := fun v hv e => by
    rw [mHold_some e, if_pos (nI_le hv (by decide))]
    exact ⟨rfl, h.setD hw10 hm ⟨nI_le (by omega) (by omega), nI_le hv (by decide)⟩⟩
  have non : ∀ v : Nat, 1000 < v → v < 2 ^ 31 → mHs μ w m x = none → EQ (if nI v ≤ nI 1000 then (nI v, wr σ 20 (w * 24 + m) (nI v)) else (-1000000006, fnd σ)) (mHold μ w m x) := fun v hv hv2 e => by
    rw [mHold_none e, if_neg (nI_ge hv hv2)]
    exact relF h _
  by_cases cT : x - B ≤ 0
  · rw [if_pos cT]
    have : x.toInt - B.toInt ≤ 0 := by rw [← eT]; exact Int32.le_iff_toInt_le.mp cT
    exact fin 0 (by decide) (by rw [hs]; exact scan_some (by omega) (by omega) (decide_eq_true (by omega)) (fun i _ q => absurd q (Nat.not_lt_zero i)))
  · rw [if_neg cT]
    have hnn : ¬ x - B < 0 := fun q => cT (Int32.le_of_lt q)
    obtain ⟨t, ht, et⟩ := nI_of hnn
    have ht2 : x.toInt - B.toInt = t := by rw [← eT, et, nI_toInt ht]
    have ht0 : 0 < t := by
      rcases Nat.eq_zero_or_pos t with q | q
      · rw [et, q] at cT; exact absurd (Int32.le_refl _) cT
      · exact q
    rw [et]
    rcases Nat.eq_zero_or_pos o with q | q
    · subst q
      rw [if_neg (show ¬ (0 : Int32) < nI 0 by decide)]
      exact non 1001 (by decide) (by decide) (by rw [hs]; exact scan_none.mpr (fun i _ _ => decide_eq_false (by omega)))
    · rw [if_pos (show (0 : Int32) < nI o from nI_lt q (by omega)), nI_add, pk_sub (by omega), pk_div (by omega) q (by omega)]
      have d1 := Nat.div_add_mod (t + o - 1) o
      have d2 := Nat.mod_lt (t + o - 1) q
      have d3 := Nat.div_le_self (t + o - 1) o
      generalize (t + o - 1) / o = Q at *
      have key : ∀ i : Nat, (x.toInt ≤ B.toInt + (i : Int) * (o : Int)) ↔ Q ≤ i := fun i => by
        have f1 : (i : Int) * (o : Int) = ((o * i : Nat) : Int) := by rw [Int.natCast_mul, Int.mul_comm]
        rw [f1]
        constructor
        · intro z
          rcases Nat.lt_or_ge i Q with g | g
          · exfalso
            have : o * (i + 1) ≤ o * Q := Nat.mul_le_mul_left o g
            rw [Nat.mul_succ] at this
            omega
          · exact g
        · intro z
          have : o * Q ≤ o * i := Nat.mul_le_mul_left o z
          omega
      by_cases cQ : Q ≤ 1000
      · exact fin Q cQ (by rw [hs]; exact scan_some (by omega) (by omega) (decide_eq_true ((key Q).mpr (Nat.le_refl _))) (fun i _ z => decide_eq_false (fun y => by have := (key i).mp y; omega)))
      · exact non Q (by omega) (by omega) (by rw [hs]; exact scan_none.mpr (fun i _ z => decide_eq_false (fun y => by have := (key i).mp y; omega)))
end
