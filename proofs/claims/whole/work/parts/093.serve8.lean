theorem sm_lin {g k c : Nat → Int32} {lo : Nat} {v : Int32} : ∀ {n : Nat}, (∀ i, lo ≤ i → i < lo + n → g i = k i + v * c i) → sm g lo n = sm k lo n + v * sm c lo n
  | 0, _ => by
    rw [sm, sm, sm]
    grind
  | n + 1, h => by
    rw [sm, sm, sm, sm_lin (n := n) (fun i a b => h i a (by omega)), h _ (by omega) (by omega)]
    grind
/-- a pumping well draws v more in each own month from fr on: what it lowers -/
theorem low_more {σ τ : St} {s p n fr : Nat} {v : Int32} (hd : Dif s σ τ) (hn : n < 24) (hfr : fr ≤ n) (hc : ctf (kd σ s) = 1) (h1 : ∀ m, fr ≤ m → m < 24 → own σ s m → τ 20 (s * 24 + m) = σ 20 (s * 24 + m) + v) (h2 : ∀ m, m < fr → τ 20 (s * 24 + m) = σ 20 (s * 24 + m)) : cLow τ p n s 0 = cLow σ p n s 0 + v * cOne σ p n s fr := by
  have hlo : lo12 fr n = max fr (n - 11) := rfl
  have hl0 : lo12 0 n = max 0 (n - 11) := rfl
  rw [cLow_sm, cLow_sm, cOne_sm, dif_kd hd, hc, Int32.mul_one, Int32.mul_one]
  rw [show n + 1 - lo12 0 n = (lo12 fr n - lo12 0 n) + (n + 1 - lo12 fr n) by omega, sm_split, sm_split, show lo12 0 n + (lo12 fr n - lo12 0 n) = lo12 fr n by omega]
  rw [sm_cong (g := lwS τ p n s) (k := lwS σ p n s) (lo := lo12 0 n) (fun i a b => dif_lw hd p n s i (h2 i (by omega)))]
  rw [sm_lin (g := lwS τ p n s) (k := lwS σ p n s) (c := onS σ p n s) (v := v) (lo := lo12 fr n) (fun i a b => ?_)]
  · grind
  · unfold lwS onS
    have ho : own τ s i ↔ own σ s i := by unfold own; rw [hd.1 3 (by decide) (by decide)]
    by_cases c : own σ s i
    · rw [if_pos (ho.mpr c), if_pos c, if_pos c, h1 i (by omega) (by omega) c, dif_rw hd, hd.1 9 (by decide) (by decide)]
      grind
    · rw [if_neg (fun z => c (ho.mp z)), if_neg c, if_neg c]
      grind
theorem abv_more {σ τ : St} {s p n fr : Nat} {v : Int32} (hd : Dif s σ τ) (hn : n < 24) (hfr : fr ≤ n) (hs : s < nW σ) (hc : ctf (kd σ s) = 1) (h1 : ∀ m, fr ≤ m → m < 24 → own σ s m → τ 20 (s * 24 + m) = σ 20 (s * 24 + m) + v) (h2 : ∀ m, m < fr → τ 20 (s * 24 + m) = σ 20 (s * 24 + m)) : cAbv τ p n = cAbv σ p n - v * cOne σ p n s fr := by
  unfold cAbv
  rw [dif_head hd hn hs, low_more hd hn hfr hc h1 h2, hd.1 7 (by decide) (by decide)]
  grind
