theorem nI00 : nI 0 = (0 : Int32) := rfl
theorem age_no {n m : Nat} (hn : n < 24) (hm : m < 24) (h : m + 11 < n ∨ n < m) : ¬ isR (nI n - nI m) 11 := by
  intro q
  have h1 : (nI n - nI m).toInt = (n : Int) - m := pk_sub_toInt (by omega) (by omega)
  obtain ⟨q1, q2⟩ := q
  rw [Int32.le_iff_toInt_le, h1, nI_toInt (by omega)] at q1
  rw [Int32.le_iff_toInt_le, h1, nI_toInt (by omega)] at q2
  omega
/-- what a draw of month m lowers in month n -/
def lwS (σ : St) (p n w m : Nat) : Int32 := if own σ w m then σ 20 (w * 24 + m) * σ 9 (rwN σ p w + n - m) else 0
theorem cLow_sm (σ : St) (p n w fr : Nat) : cLow σ p n w fr = sm (lwS σ p n w) (lo12 fr n) (n + 1 - lo12 fr n) * ctf (kd σ w) := by
  unfold cLow
  rw [it_sm (g := lwS σ p n w), nI00, Int32.zero_add]
  intro i a _ _
  unfold fLow lwS
  split
  · rfl
  · rw [Int32.add_zero]
section
variable {σ μ : St}
/-- the reference's term: it is 0 but within twelve months -/
theorem Rel.term (h : Rel σ μ) {p n w m : Nat} (hp : p < 10) (hn : n < 24) (hw : w < 10) (hm : m < 24) : mSgn μ w m * mDr μ w m * mSh μ p w (nI n - nI m) = if m ≤ n ∧ n ≤ m + 11 then lwS σ p n w m * ctf (kd σ w) else 0 := by
  by_cases c : m ≤ n ∧ n ≤ m + 11
  · rw [if_pos c, pk_sub c.1, h.sh hp hw (by omega), h.sgn hw, h.draw hw hm, show rwN σ p w + (n - m) = rwN σ p w + n - m by omega]
    unfold lwS
    split
    · rw [Int32.mul_comm (_ * _) (ctf _), Int32.mul_assoc]
    · rw [nI00, Int32.zero_mul, Int32.zero_mul, Int32.zero_mul]
  · rw [if_neg c, Rel.sh0 (age_no hn hm (by omega)), nI00, Int32.mul_zero]
theorem Rel.low (h : Rel σ μ) {p n w fr : Nat} (hp : p < 10) (hn : n < 24) (hw : w < 10) (hfr : fr < 24) : mLow μ p n w fr = cLow σ p n w fr := by
  have hlo : lo12 fr n = max fr (n - 11) := rfl
  unfold mLow
  rw [it_sm (f := fmLow μ p n w) (g := fun m => mSgn μ w m * mDr μ w m * mSh μ p w (nI n - nI m)) (fun i a _ _ => rfl), nI00, Int32.zero_add, cLow_sm, sm_mul]
  rw [sm_cong (k := fun m => if m ≤ n ∧ n ≤ m + 11 then lwS σ p n w m * ctf (kd σ w) else 0) (fun i h1 h2 => h.term hp hn hw (by omega))]
  by_cases c : lo12 fr n ≤ n + 1
  · rw [show 24 - fr = (lo12 fr n - fr) + ((n + 1 - lo12 fr n) + (24 - (n + 1))) by omega, sm_split, sm_split, sm_zero (n := lo12 fr n - fr) (fun i h1 h2 => if_neg (by omega)), Int32.zero_add,
      sm_zero (n := 24 - (n + 1)) (fun i h1 h2 => if_neg (by omega)), Int32.add_zero, show fr + (lo12 fr n - fr) = lo12 fr n by omega]
    exact sm_cong (fun i h1 h2 => if_pos (by omega))
  · rw [show n + 1 - lo12 fr n = 0 by omega]
    exact sm_zero (fun i h1 h2 => if_neg (by omega))
def rnS (σ : St) (n m : Nat) : Int32 := σ 21 m * σ 10 (n - m)
def rmS (μ : St) (n m : Nat) : Int32 := if nI (n - m) ≤ nI 11 then μ 1 (542 + m) * μ 1 (530 + n - m) else nI 0
theorem Rel.rain (h : Rel σ μ) {n : Nat} (hn : n < 24) : mRain μ n = cRain σ n := by
  have hlo : lo12 0 n = n - 11 := by unfold lo12; omega
  unfold mRain cRain
  rw [it0_sm (f := fmRain μ n) (g := rmS μ n) (fun i a _ => rfl), it_sm (f := fRain σ n) (g := rnS σ n) (fun i a _ _ => rfl), hlo]
  congr 1
  rw [show n + 1 = (n - 11) + (n + 1 - (n - 11)) by omega, sm_split, sm_zero (g := rmS μ n) (n := n - 11) (fun i h1 h2 => if_neg (fun q => by have := (nI_leI (by omega) (by decide)).mp q; omega)), Int32.zero_add, show 0 + (n - 11) = n - 11 by omega, show (n - 11) + (n + 1 - (n - 11)) - (n - 11) = n + 1 - (n - 11) by omega]
  refine sm_cong (fun i h1 h2 => ?_)
  unfold rmS
  rw [if_pos (nI_le (by omega) (by decide))]
  unfold rnS
  rw [h.ra (by omega), h.ri (by omega), show 530 + n - i = 530 + (n - i) by omega]
theorem it0_cong {α : Type} {f g : Nat → α → α} : ∀ {n : Nat} {x : α}, (∀ i a, i < n → f i a = g i a) → it0 f n x = it0 g n x
  | 0, _, _ => rfl
  | n + 1, x, h => by rw [it0, it0, it0_cong (fun i a hi => h i a (by omega)), h _ _ (by omega)]
theorem it_cong {α : Type} {f g : Nat → α → α} {lo : Nat} : ∀ {n : Nat} {x : α}, (∀ i a, lo ≤ i → i < lo + n → f i a = g i a) → it f lo n x = it g lo n x
  | 0, _, _ => rfl
  | n + 1, x, h => by rw [it, it, it_cong (fun i a h1 h2 => h i a h1 (by omega)), h _ _ (by omega) (by omega)]
theorem it_first {α : Type} {f : Nat → α → α} {lo : Nat} : ∀ {n : Nat} {x : α}, it f lo (n + 1) x = it f (lo + 1) n (f lo x)
  | 0, x => rfl
  | n + 1, x => by
    rw [it, it_first, it]
    congr 1
    omega
theorem Rel.head (h : Rel σ μ) {p n : Nat} (hp : p < 10) (hn : n < 24) : mHead μ p n = cHead σ p n := by
  have h10 := h.wc.n10
  unfold mHead cHead
  rw [← h.N, h.rain hn, h.r hp, show 0 + 5 * p + 3 = 5 * p + 3 by omega]
  exact it0_cong (fun i a hi => by unfold fmHead fHead; rw [h.low hp hn (by omega) (by decide)])
theorem Rel.abv (h : Rel σ μ) {p n : Nat} (hp : p < 10) (hn : n < 24) : mAbv μ p n = cAbv σ p n := by
  unfold mAbv cAbv
  rw [h.head hp hn, h.li hp, show 0 + 5 * p + 4 = 5 * p + 4 by omega]
end
