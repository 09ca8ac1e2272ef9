theorem Nb.of {x : Int32} {n j : Nat} (h : x = nI j) (hj : j ≤ n) (hn : n < 2000) : Nb x n := by
  have : x.toNatClampNeg = j := by rw [h]; exact nI_clamp (by omega)
  exact ⟨by rw [this]; exact h, by omega⟩
theorem it_inv {α : Type} {f : Nat → α → α} {lo : Nat} (P : α → Prop) {x : α} : ∀ (n : Nat), P x → (∀ i a, lo ≤ i → i < lo + n → P a → P (f i a)) → P (it f lo n x)
  | 0, h, _ => h
  | n + 1, h, hs => hs (lo + n) _ (by omega) (by omega) (it_inv P n h (fun i a h1 h2 => hs i a h1 (by omega)))
theorem it0_inv {α : Type} {f : Nat → α → α} (P : α → Prop) {x : α} : ∀ (n : Nat), P x → (∀ i a, i < n → P a → P (f i a)) → P (it0 f n x)
  | 0, h, _ => h
  | n + 1, h, hs => hs n _ (by omega) (it0_inv P n h (fun i a h1 => hs i a (by omega)))
theorem WC.n {σ : St} (h : WC σ) : σ 2 0 = nI (nW σ) := h.1.1
theorem WC.n10 {σ : St} (h : WC σ) : nW σ ≤ 10 := h.1.2
theorem WC.k {σ : St} (h : WC σ) {w : Nat} (hw : w < 10) : σ 3 w = nI (kd σ w) := (h.2.1 w hw).1.1
theorem WC.k5 {σ : St} (h : WC σ) {w : Nat} (hw : w < 10) : kd σ w ≤ 5 := (h.2.1 w hw).1.2
theorem WC.l {σ : St} (h : WC σ) : σ 12 0 = nI (nLi σ) := h.2.2.1.1
theorem WC.l10 {σ : St} (h : WC σ) : nLi σ ≤ 10 := h.2.2.1.2
theorem WC.w {σ : St} (h : WC σ) {i : Nat} (hi : i < 10) : σ 13 i = nI (lwl σ i) := (h.2.2.2 i hi).1
theorem WC.w10 {σ : St} (h : WC σ) {i : Nat} (hi : i < 10) : lwl σ i < 10 := by have := (h.2.2.2 i hi).2; unfold lwl; omega
theorem WC.of {σ τ : St} (h : WC σ) (h2 : τ 2 = σ 2) (h3 : τ 3 = σ 3) (h4 : τ 4 = σ 4) (h5 : τ 5 = σ 5) (h12 : τ 12 = σ 12) (h13 : τ 13 = σ 13) : WC τ := by
  unfold WC
  rw [h2, h3, h4, h5, h12, h13]
  exact h
/-- nothing but cell k differs -/
def Off (k : Nat) (σ τ : St) : Prop := ∀ j, j ≠ k → τ j = σ j
theorem Off.rf {k : Nat} {σ : St} : Off k σ σ := fun _ _ => rfl
theorem Off.wr {k j : Nat} {σ τ : St} {x : Int32} (h : Off k σ τ) : Off k σ (wr τ k j x) := fun i hi => (wr_ne hi).trans (h i hi)
theorem Off.tr {k : Nat} {σ τ ρ : St} (h : Off k σ τ) (h2 : Off k τ ρ) : Off k σ ρ := fun i hi => (h2 i hi).trans (h i hi)
theorem Off.wc {k : Nat} {σ τ : St} (h : Off k σ τ) (hk : k ≠ 2 ∧ k ≠ 3 ∧ k ≠ 4 ∧ k ≠ 5 ∧ k ≠ 12 ∧ k ≠ 13) (hw : WC σ) : WC τ := hw.of (h 2 hk.1.symm) (h 3 hk.2.1.symm) (h 4 hk.2.2.1.symm) (h 5 hk.2.2.2.1.symm) (h 12 hk.2.2.2.2.1.symm) (h 13 hk.2.2.2.2.2.symm)
theorem WC.wr {σ : St} {k j : Nat} {x : Int32} (hw : WC σ) (hk : k ≠ 2 ∧ k ≠ 3 ∧ k ≠ 4 ∧ k ≠ 5 ∧ k ≠ 12 ∧ k ≠ 13) : WC (wr σ k j x) := Off.rf.wr.wc hk hw
theorem ab_nI {x y : Nat} (hx : x < 1000000) (hy : y < 1000000) : ab (nI x - nI y) = nI (if y ≤ x then x - y else y - x) := by
  have h := pk_sub_toInt (a := x) (b := y) (by omega) (by omega)
  have h2 := pk_sub_toInt (a := y) (b := x) (by omega) (by omega)
  by_cases q : y ≤ x
  · rw [if_pos q, ab, if_pos (by rw [Int32.le_iff_toInt_le, h]; simp; omega), pk_sub q]
  · rw [if_neg q, ab, if_neg (by rw [Int32.le_iff_toInt_le, h]; simp; omega), ← pk_sub (by omega)]
    have e : (0 : Int32) - (nI x - nI y) = nI y - nI x := by
      apply Int32.toBitVec_inj.mp
      simp
    exact e
theorem mx_nI {x y : Nat} (hx : x < 2 ^ 31) (hy : y < 2 ^ 31) : mx (nI x) (nI y) = nI (max x y) := by
  unfold mx
  by_cases h : x < y
  · rw [if_pos (nI_lt h hy), Nat.max_eq_right (by omega)]
  · rw [if_neg (nI_nlt (by omega) hx), Nat.max_eq_left (by omega)]
theorem mn_nI {x y : Nat} (hx : x < 2 ^ 31) (hy : y < 2 ^ 31) : mn (nI x) (nI y) = nI (min x y) := by
  unfold mn
  by_cases h : y < x
  · rw [if_pos (nI_lt h hx), Nat.min_eq_right (by omega)]
  · rw [if_neg (nI_nlt (by omega) hy), Nat.min_eq_left (by omega)]
def dst (x y : Nat) : Nat := if y ≤ x then x - y else y - x
theorem cAp_eq {σ : St} (h : WC σ) {a b : Nat} (ha : a < 10) (hb : b < 10) : cAp σ a b = nI (min (max (dst (σ 4 a).toNatClampNeg (σ 4 b).toNatClampNeg) (dst (σ 5 a).toNatClampNeg (σ 5 b).toNatClampNeg)) 9) := by
  have a1 := (h.2.1 a ha).2.1
  have a2 := (h.2.1 a ha).2.2
  have b1 := (h.2.1 b hb).2.1
  have b2 := (h.2.1 b hb).2.2
  have e1 : dst (σ 4 a).toNatClampNeg (σ 4 b).toNatClampNeg ≤ 30 := by have := a1.2; have := b1.2; unfold dst; split <;> omega
  have e2 : dst (σ 5 a).toNatClampNeg (σ 5 b).toNatClampNeg ≤ 30 := by have := a2.2; have := b2.2; unfold dst; split <;> omega
  unfold cAp
  rw [show σ 4 a - σ 4 b = nI (σ 4 a).toNatClampNeg - nI (σ 4 b).toNatClampNeg by rw [← a1.1, ← b1.1], show σ 5 a - σ 5 b = nI (σ 5 a).toNatClampNeg - nI (σ 5 b).toNatClampNeg by rw [← a2.1, ← b2.1], ab_nI (by have := a1.2; omega) (by have := b1.2; omega), ab_nI (by have := a2.2; omega) (by have := b2.2; omega)]
  change mn (mx (nI (dst _ _)) (nI (dst _ _))) (nI 9) = _
  rw [mx_nI (by omega) (by omega), mn_nI (by omega) (by omega)]
theorem apN_eq {σ : St} (h : WC σ) {a b : Nat} (ha : a < 10) (hb : b < 10) : apN σ a b = min (max (dst (σ 4 a).toNatClampNeg (σ 4 b).toNatClampNeg) (dst (σ 5 a).toNatClampNeg (σ 5 b).toNatClampNeg)) 9 := by
  unfold apN
  rw [cAp_eq h ha hb]
  exact nI_clamp (by omega)
theorem apN_9 {σ : St} (h : WC σ) {a b : Nat} (ha : a < 10) (hb : b < 10) : apN σ a b ≤ 9 := by rw [apN_eq h ha hb]; omega
theorem cAp_N {σ : St} (h : WC σ) {a b : Nat} (ha : a < 10) (hb : b < 10) : cAp σ a b = nI (apN σ a b) := by rw [apN_eq h ha hb, cAp_eq h ha hb]
theorem lyN_1 (σ : St) (a b : Nat) : lyN σ a b ≤ 1 := by unfold lyN; split <;> omega
theorem rwN_228 {σ : St} (h : WC σ) {a b : Nat} (ha : a < 10) (hb : b < 10) : rwN σ a b ≤ 228 := by
  have := lyN_1 σ a b
  have := apN_9 h ha hb
  unfold rwN
  omega
theorem lo12_eq : ∀ f : Fin 24, ∀ m : Fin 24, mx (nI f) (nI m - nI 12 + nI 1) = nI (lo12 f m) := by decide +kernel
theorem mx_lo {f m : Nat} (hf : f < 24) (hm : m < 24) : mx (nI f) (nI m - nI 12 + nI 1) = nI (lo12 f m) := lo12_eq ⟨f, hf⟩ ⟨m, hm⟩
theorem odd_eq {w m : Nat} (hw : w < 1000) (hm : m < 1000) : nI w &&& nI 1 = nI m &&& nI 1 ↔ w % 2 = m % 2 := by
  rw [pk_andN (n := w) (by omega) (m := nI 1) 1 (by decide), pk_andN (n := m) (by omega) (m := nI 1) 1 (by decide), nI_eq (by omega) (by omega)]

theorem nI_self {x : Int32} (h : ¬ x < 0) : x = nI x.toNatClampNeg := by
  obtain ⟨j, hj, rfl⟩ := nI_of h
  rw [nI_clamp hj]
theorem nI_le0 {d : Nat} (hd : d < 2 ^ 31) (h : nI d ≤ 0) : d = 0 := by
  rcases Nat.eq_zero_or_pos d with q | q
  · exact q
  · exact absurd h (nI_nle q hd)
theorem mn_self (n : Nat) : mn (nI n) (nI n) = nI n := by unfold mn; split <;> rfl
