theorem i_add {x y : Int32} (h1 : -2147483648 ≤ x.toInt + y.toInt) (h2 : x.toInt + y.toInt < 2147483648) : (x + y).toInt = x.toInt + y.toInt := by
  rw [Int32.toInt_add, Int.bmod_eq_of_le (by omega) (by omega)]
theorem i_sub {x y : Int32} (h1 : -2147483648 ≤ x.toInt - y.toInt) (h2 : x.toInt - y.toInt < 2147483648) : (x - y).toInt = x.toInt - y.toInt := by
  rw [Int32.toInt_sub, Int.bmod_eq_of_le (by omega) (by omega)]
theorem i_mul {x y : Int32} (h1 : -2147483648 ≤ x.toInt * y.toInt) (h2 : x.toInt * y.toInt < 2147483648) : (x * y).toInt = x.toInt * y.toInt := by
  rw [Int32.toInt_mul, Int.bmod_eq_of_le (by omega) (by omega)]
theorem l_add {x y : Int64} (h1 : -9223372036854775808 ≤ x.toInt + y.toInt) (h2 : x.toInt + y.toInt < 9223372036854775808) : (x + y).toInt = x.toInt + y.toInt := by
  rw [Int64.toInt_add, Int.bmod_eq_of_le (by omega) (by omega)]
theorem l_mul {x y : Int64} (h1 : -9223372036854775808 ≤ x.toInt * y.toInt) (h2 : x.toInt * y.toInt < 9223372036854775808) : (x * y).toInt = x.toInt * y.toInt := by
  rw [Int64.toInt_mul, Int.bmod_eq_of_le (by omega) (by omega)]
/-- at most B, with either sign -/
def Ab (x : Int32) (B : Nat) : Prop := -(B : Int) ≤ x.toInt ∧ x.toInt ≤ B
theorem Ab.add {x y : Int32} {A B : Nat} (h : Ab x A) (h2 : Ab y B) (hb : A + B < 2147483648) : Ab (x + y) (A + B) := by
  unfold Ab at *
  rw [i_add (by omega) (by omega)]
  omega
theorem Ab.sub {x y : Int32} {A B : Nat} (h : Ab x A) (h2 : Ab y B) (hb : A + B < 2147483648) : Ab (x - y) (A + B) := by
  unfold Ab at *
  rw [i_sub (by omega) (by omega)]
  omega
theorem Ab.le {x : Int32} {A B : Nat} (h : Ab x A) (hb : A ≤ B) : Ab x B := by unfold Ab at *; omega
theorem Ab.zero {B : Nat} : Ab 0 B := by unfold Ab; rw [Int32.toInt_zero]; omega
theorem Ab.nb {x : Int32} {n : Nat} (hn : n < 2000000) (h : Nb x n) : Ab x n := by
  have h1 := Nb.toI hn h
  have h2 := h.2
  unfold Ab
  omega
theorem Ab.mulN {x y : Int32} {A B : Nat} (hA : A < 2000000) (hB : B < 2000000) (h : Nb x A) (h2 : Nb y B) (hb : A * B < 2147483648) : Ab (x * y) (A * B) := by
  have h1 := Nb.toI hA h
  have h3 := Nb.toI hB h2
  have h4 : x.toNatClampNeg * y.toNatClampNeg ≤ A * B := Nat.mul_le_mul h.2 h2.2
  have h5 : x.toInt * y.toInt = ((x.toNatClampNeg * y.toNatClampNeg : Nat) : Int) := by rw [h1, h3, Int.natCast_mul]
  unfold Ab
  rw [i_mul (by rw [h5]; omega) (by rw [h5]; omega), h5]
  omega
theorem ab_sm {g : Nat → Int32} {lo B : Nat} : ∀ {n : Nat}, (∀ i, lo ≤ i → i < lo + n → Ab (g i) B) → n * B < 2147483648 → Ab (sm g lo n) (n * B)
  | 0, _, _ => Ab.zero
  | n + 1, h, hb => by
    rw [Nat.succ_mul] at hb ⊢
    exact (ab_sm (n := n) (fun i h1 h2 => h i h1 (by omega)) (by omega)).add (h _ (by omega) (by omega)) hb
theorem ab_ctf {x : Int32} {A : Nat} (h : Ab x A) (hA : A < 2147483648) (k : Nat) : Ab (x * ctf k) A := by
  have h3 : ctf k = 1 ∨ ctf k = -1 ∨ ctf k = 0 := by
    unfold ctf
    split <;> simp
  rcases h3 with e | e | e
  · rw [e, Int32.mul_one]; exact h
  · rw [e]
    unfold Ab at *
    have h1 : (-1 : Int32).toInt = -1 := by decide
    rw [i_mul (by rw [h1]; omega) (by rw [h1]; omega), h1]
    omega
  · rw [e, Int32.mul_zero]; exact Ab.zero
section
variable {σ μ : St}
theorem Rel.dB (h : Rel σ μ) {k : Nat} (hk : k < 240) : Nb (σ 20 k) 1000 := by rw [h.dr hk]; exact h.b (by omega) (by decide) (b_mid (by omega) (by omega))
theorem Rel.fB (h : Rel σ μ) {k : Nat} (hk : k < 240) : Nb (σ 9 k) 1000 := by rw [h.fa hk]; exact h.b (by omega) (by decide) (b_mid (by omega) (by omega))
theorem Rel.riB (h : Rel σ μ) {k : Nat} (hk : k < 12) : Nb (σ 10 k) 1000 := by rw [h.ri hk]; exact h.b (by omega) (by decide) (b_mid (by omega) (by omega))
theorem Rel.raB (h : Rel σ μ) {k : Nat} (hk : k < 24) : Nb (σ 21 k) 1000 := by rw [h.ra hk]; exact h.b (by omega) (by decide) (b_mid (by omega) (by omega))
theorem Rel.rB (h : Rel σ μ) {w : Nat} (hw : w < 10) : Ab (σ 6 w) 100000 := by
  have h1 := h.1.1 (5 * w + 3) (by omega)
  unfold inB at h1
  rw [b_r hw, ← h.r hw] at h1
  exact h1
theorem Rel.liB (h : Rel σ μ) {w : Nat} (hw : w < 10) : Ab (σ 7 w) 100000 := by
  have h1 := h.1.1 (5 * w + 4) (by omega)
  unfold inB at h1
  rw [b_li hw, ← h.li hw] at h1
  exact h1
theorem Rel.hdB (h : Rel σ μ) {k : Nat} (hk : k < 240) : Ab (σ 19 k) 100000000 := by
  have h1 := h.1.1 (606 + 2 * k + 1) (by omega)
  unfold inB at h1
  rw [b_hd hk, ← h.hd hk] at h1
  exact h1
theorem Rel.lwB (h : Rel σ μ) {p n w m : Nat} (hp : p < 10) (hw : w < 10) (hm : m < 24) (h1 : m ≤ n) (h2 : n ≤ m + 11) : Ab (lwS σ p n w m) 1000000 := by
  have h3 := rwN_228 h.wc hp hw
  unfold lwS
  split
  · exact Ab.mulN (A := 1000) (B := 1000) (by decide) (by decide) (h.dB (by omega)) (h.fB (by omega)) (by decide)
  · exact Ab.zero
theorem Rel.lowB (h : Rel σ μ) {p n w fr : Nat} (hp : p < 10) (hn : n < 24) (hw : w < 10) : Ab (cLow σ p n w fr) 12000000 := by
  have hlo : lo12 fr n = max fr (n - 11) := rfl
  rw [cLow_sm]
  refine ab_ctf (Ab.le (ab_sm (B := 1000000) (fun i h1 h2 => h.lwB hp hw (by omega) (by omega) (by omega)) ?_) ?_) (by decide) _
  · have : n + 1 - lo12 fr n ≤ 12 := by omega
    have := Nat.mul_le_mul_right 1000000 this
    omega
  · have : n + 1 - lo12 fr n ≤ 12 := by omega
    have := Nat.mul_le_mul_right 1000000 this
    omega
theorem Rel.rainB (h : Rel σ μ) {n : Nat} (hn : n < 24) : Ab (cRain σ n) 12000000 := by
  have hlo : lo12 0 n = max 0 (n - 11) := rfl
  have h12 : n + 1 - lo12 0 n ≤ 12 := by omega
  have h13 := Nat.mul_le_mul_right 1000000 h12
  unfold cRain
  rw [it_sm (f := fRain σ n) (g := rnS σ n) (fun i a _ _ => rfl), nI00, Int32.zero_add]
  refine Ab.le (ab_sm (B := 1000000) (fun i h1 h2 => ?_) (by omega)) (by omega)
  exact Ab.mulN (A := 1000) (B := 1000) (by decide) (by decide) (h.raB (by omega)) (h.riB (by omega)) (by decide)
theorem headAll (h : Rel σ μ) {p n : Nat} (hp : p < 10) (hn : n < 24) {z : Int32} (hz : Ab z 12100000) : ∀ k, k ≤ 10 → Ab (it0 (fHead σ p n) k z) (12100000 + k * 12000000)
  | 0, _ => by rw [Nat.zero_mul]; exact hz
  | k + 1, hk => by
    have ih := headAll h hp hn hz k (by omega)
    rw [it0]
    refine Ab.le (ih.sub (h.lowB hp hn (by omega)) (by omega)) (by omega)
theorem Rel.headB (h : Rel σ μ) {p n : Nat} (hp : p < 10) (hn : n < 24) : Ab (cHead σ p n) 132100000 := by
  have h10 := h.wc.n10
  refine Ab.le (headAll h hp hn ((h.rB hp).add (h.rainB hn) (by decide)) (nW σ) h10) (by omega)
theorem Rel.abvB (h : Rel σ μ) {p n : Nat} (hp : p < 10) (hn : n < 24) : Ab (cAbv σ p n) 132200000 := (h.headB hp hn).sub (h.liB hp) (by decide)
theorem Rel.difB (h : Rel σ μ) {p n : Nat} (hp : p < 10) (hn : n < 24) : Ab (cDif σ p n) 232100000 := (h.hdB (by omega)).sub (h.headB hp hn) (by decide)
theorem sq_one {d : Int32} (h : Ab d 232100000) : 0 ≤ (d.toInt64 * d.toInt64).toInt ∧ (d.toInt64 * d.toInt64).toInt ≤ 53870410000000000 := by
  have h1 : d.toInt * d.toInt = ((d.toInt.natAbs * d.toInt.natAbs : Nat) : Int) := by rw [Int.natCast_mul]; exact (Int.natAbs_mul_self' _).symm
  have h2 : d.toInt.natAbs * d.toInt.natAbs ≤ 232100000 * 232100000 := by
    unfold Ab at h
    exact Nat.mul_le_mul (by omega) (by omega)
  have h3 : d.toInt64.toInt = d.toInt := Int32.toInt_toInt64 d
  rw [l_mul (by rw [h3, h1]; omega) (by rw [h3, h1]; omega), h3, h1]
  omega
theorem sq_in (h : Rel σ μ) {w : Nat} (hw : w < 10) {a : Int64} (ha : 0 ≤ a.toInt ∧ a.toInt ≤ (ctm (μ 1) (24 * w) : Int) * 53870410000000000) : ∀ m, m ≤ 24 → 0 ≤ (it0 (fSq σ w) m a).toInt ∧ (it0 (fSq σ w) m a).toInt ≤ (ctm (μ 1) (24 * w + m) : Int) * 53870410000000000
  | 0, _ => ha
  | m + 1, hm => by
    have ih := sq_in h hw ha m (by omega)
    rw [it0, show 24 * w + (m + 1) = (24 * w + m) + 1 by omega, ctm]
    have h40 : ctm (μ 1) 240 ≤ 40 := Nat.le_trans h.1.2.1 (h.b (J := 1088) (n := 40) (by decide) (by decide) b_rm).2
    have hle := ctm_le (r := μ 1) (n := (24 * w + m) + 1) (m := 240) (by omega)
    rw [ctm] at hle
    have hmk := h.mk (k := w * 24 + m) (by omega)
    rw [show w * 24 + m = 24 * w + m by omega] at hmk
    generalize it0 (fSq σ w) m a = z at *
    unfold fSq
    rw [show w * 24 + m = 24 * w + m by omega, hmk]
    by_cases q : μ 1 (606 + 2 * (24 * w + m)) = 0
    · rw [if_pos q, if_pos q]
      exact ih
    · rw [if_neg q, if_neg q]
      rw [if_neg q] at hle
      have h1 := sq_one (h.difB hw (show m < 24 by omega))
      rw [l_add (by omega) (by omega)]
      omega
theorem sq_all (h : Rel σ μ) : ∀ w, w ≤ 10 → 0 ≤ (it0 (gSq σ) w 0).toInt ∧ (it0 (gSq σ) w 0).toInt ≤ (ctm (μ 1) (24 * w) : Int) * 53870410000000000
  | 0, _ => by
    show 0 ≤ (0 : Int64).toInt ∧ (0 : Int64).toInt ≤ _
    rw [Int64.toInt_zero]
    omega
  | w + 1, hw => by
    have ih := sq_all h w (by omega)
    rw [it0]
    exact sq_in h (by omega) ih 24 (Nat.le_refl _)
theorem Rel.sqM (h : Rel σ μ) : cSq σ < 9223372036854775807 := by
  have h10 := h.wc.n10
  have h1 := sq_all h (nW σ) h10
  have h40 : ctm (μ 1) 240 ≤ 40 := Nat.le_trans h.1.2.1 (h.b (J := 1088) (n := 40) (by decide) (by decide) b_rm).2
  have hle := ctm_le (r := μ 1) (n := 24 * nW σ) (m := 240) (by omega)
  unfold cSq
  rw [Int64.lt_iff_toInt_lt]
  have : (9223372036854775807 : Int64).toInt = 9223372036854775807 := by decide
  rw [this]
  omega
end
