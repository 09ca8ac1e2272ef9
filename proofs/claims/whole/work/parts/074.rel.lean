/-- THE RELATION of the system's cells and the reference's -/
def Hb (x : Int32) (n : Int) : Prop := -n ≤ x.toInt ∧ x.toInt ≤ n
def Bd (r : Nat → Int32) : Prop :=
  Nb (r 1086) 10 ∧ (∀ w, w < 10 → Nb (r (5 * w)) 5 ∧ Nb (r (5 * w + 1)) 30 ∧ Nb (r (5 * w + 2)) 30 ∧ Hb (r (5 * w + 3)) 100000 ∧ Hb (r (5 * w + 4)) 100000) ∧
  (∀ k, k < 240 → Nb (r (50 + k)) 1000 ∧ Nb (r (290 + k)) 1000 ∧ Nb (r (606 + 2 * k)) 1 ∧ Hb (r (606 + 2 * k + 1)) 100000000) ∧
  (∀ a, a < 12 → Nb (r (530 + a)) 1000) ∧ (∀ m, m < 24 → Nb (r (542 + m)) 1000) ∧ Nb (r 1087) 10 ∧
  (∀ i, i < 10 → Nb (r (566 + 4 * i)) 9 ∧ Nb (r (566 + 4 * i + 2)) 1000) ∧ Nb (r 1088) 40 ∧ Nb (r 1089) 10 ∧
  ∀ i, i < 10 → i < (r 1089).toNatClampNeg → Nb (r (566 + 4 * i + 3)) 1000
def Eqs (b : Nat) (σ : St) (r : Nat → Int32) : Prop :=
  σ (b + 1) 0 = r 1086 ∧ (∀ w, w < 10 → σ (b + 2) w = r (5 * w) ∧ σ (b + 3) w = r (5 * w + 1) ∧ σ (b + 4) w = r (5 * w + 2) ∧ σ (b + 5) w = r (5 * w + 3) ∧ σ (b + 6) w = r (5 * w + 4)) ∧
  (∀ k, k < 240 → σ (b + 19) k = r (50 + k) ∧ σ (b + 8) k = r (290 + k) ∧ σ (b + 17) k = r (606 + 2 * k) ∧ σ (b + 18) k = r (606 + 2 * k + 1)) ∧
  (∀ a, a < 12 → σ (b + 9) a = r (530 + a)) ∧ (∀ m, m < 24 → σ (b + 20) m = r (542 + m)) ∧ σ (b + 11) 0 = r 1087 ∧
  (∀ i, i < 10 → σ (b + 12) i = r (566 + 4 * i) ∧ σ (b + 13) i = r (566 + 4 * i + 1) ∧ σ (b + 14) i = r (566 + 4 * i + 2)) ∧ σ (b + 16) 0 = r 1088 ∧
  ∀ i, i < 10 → i < (r 1087).toNatClampNeg → (i < (r 1089).toNatClampNeg → σ (b + 15) i = r (566 + 4 * i + 3)) ∧ (¬ i < (r 1089).toNatClampNeg → σ (b + 15) i = -1)
def Shs (σ μ : St) : Prop := ∀ s, s < 4 → σ (46 + s) 0 = μ 3 s ∧ σ (46 + s) 1 = μ 4 s ∧ Nb (μ 3 s) 2 ∧ Nb (μ 4 s) 24 ∧ ∀ i, i < 24 → σ (50 + s) i = μ 5 (24 * s + i)
def Kpt (σ μ : St) : Prop := (σ 0 2 = 0 ∧ μ 0 2 = 0) ∨ (σ 0 2 = nI 1 ∧ μ 0 2 = nI 1 ∧ Bd (μ 2) ∧ Eqs 23 σ (μ 2))
def Rel (σ μ : St) : Prop := Bd (μ 1) ∧ Eqs 1 σ (μ 1) ∧ Shs σ μ ∧ σ 0 4 = μ 0 6 ∧ Kpt σ μ
section
variable {σ μ : St}
theorem Rel.n (h : Rel σ μ) : σ 2 0 = μ 1 1086 := h.2.1.1
theorem Rel.k (h : Rel σ μ) {w : Nat} (hw : w < 10) : σ 3 w = μ 1 (5 * w) := (h.2.1.2.1 w hw).1
theorem Rel.x (h : Rel σ μ) {w : Nat} (hw : w < 10) : σ 4 w = μ 1 (5 * w + 1) := (h.2.1.2.1 w hw).2.1
theorem Rel.y (h : Rel σ μ) {w : Nat} (hw : w < 10) : σ 5 w = μ 1 (5 * w + 2) := (h.2.1.2.1 w hw).2.2.1
theorem Rel.r (h : Rel σ μ) {w : Nat} (hw : w < 10) : σ 6 w = μ 1 (5 * w + 3) := (h.2.1.2.1 w hw).2.2.2.1
theorem Rel.li (h : Rel σ μ) {w : Nat} (hw : w < 10) : σ 7 w = μ 1 (5 * w + 4) := (h.2.1.2.1 w hw).2.2.2.2
theorem Rel.dr (h : Rel σ μ) {k : Nat} (hk : k < 240) : σ 20 k = μ 1 (50 + k) := (h.2.1.2.2.1 k hk).1
theorem Rel.fa (h : Rel σ μ) {k : Nat} (hk : k < 240) : σ 9 k = μ 1 (290 + k) := (h.2.1.2.2.1 k hk).2.1
theorem Rel.mk (h : Rel σ μ) {k : Nat} (hk : k < 240) : σ 18 k = μ 1 (606 + 2 * k) := (h.2.1.2.2.1 k hk).2.2.1
theorem Rel.hd (h : Rel σ μ) {k : Nat} (hk : k < 240) : σ 19 k = μ 1 (606 + 2 * k + 1) := (h.2.1.2.2.1 k hk).2.2.2
theorem Rel.ri (h : Rel σ μ) {a : Nat} (ha : a < 12) : σ 10 a = μ 1 (530 + a) := h.2.1.2.2.2.1 a ha
theorem Rel.ra (h : Rel σ μ) {m : Nat} (hm : m < 24) : σ 21 m = μ 1 (542 + m) := h.2.1.2.2.2.2.1 m hm
theorem Rel.l (h : Rel σ μ) : σ 12 0 = μ 1 1087 := h.2.1.2.2.2.2.2.1
theorem Rel.lw (h : Rel σ μ) {i : Nat} (hi : i < 10) : σ 13 i = μ 1 (566 + 4 * i) := (h.2.1.2.2.2.2.2.2.1 i hi).1
theorem Rel.ly (h : Rel σ μ) {i : Nat} (hi : i < 10) : σ 14 i = μ 1 (566 + 4 * i + 1) := (h.2.1.2.2.2.2.2.2.1 i hi).2.1
theorem Rel.la (h : Rel σ μ) {i : Nat} (hi : i < 10) : σ 15 i = μ 1 (566 + 4 * i + 2) := (h.2.1.2.2.2.2.2.2.1 i hi).2.2
theorem Rel.rm (h : Rel σ μ) : σ 17 0 = μ 1 1088 := h.2.1.2.2.2.2.2.2.2.1
theorem Rel.wc (h : Rel σ μ) : WC σ := by
  refine ⟨by rw [h.n]; exact h.1.1, fun w hw => ?_, by rw [h.l]; exact h.1.2.2.2.2.2.1, fun i hi => by rw [h.lw hi]; exact (h.1.2.2.2.2.2.2.1 i hi).1⟩
  have := h.1.2.1 w hw
  rw [h.k hw, h.x hw, h.y hw]
  exact ⟨this.1, this.2.1, this.2.2.1⟩
theorem Rel.ws (h : Rel σ μ) : WS σ := fun s hs => by
  have := h.2.2.1 s hs
  rw [this.1, this.2.1]
  exact ⟨this.2.2.1, this.2.2.2.1⟩
theorem Rel.wm (h : Rel σ μ) : WM μ := by
  refine ⟨h.1.1, fun w hw => ?_, h.1.2.2.2.2.2.1, fun i hi => ?_, fun s hs => (h.2.2.1 s hs).2.2.2.1⟩
  · have := h.1.2.1 w hw
    rw [show 0 + 5 * w + 1 = 5 * w + 1 by omega, show 0 + 5 * w + 2 = 5 * w + 2 by omega]
    exact ⟨this.2.1, this.2.2.1⟩
  · rw [show 566 + 4 * i + 0 = 566 + 4 * i by omega]
    exact (h.1.2.2.2.2.2.2.1 i hi).1
theorem Rel.N (h : Rel σ μ) : nW σ = mN μ := by unfold nW mN; rw [h.n]
theorem Rel.L (h : Rel σ μ) : nLi σ = mL μ := by unfold nLi mL; rw [h.l]
theorem Rel.kind (h : Rel σ μ) {w : Nat} (hw : w < 10) : mKind μ w = σ 3 w := by unfold mKind; rw [h.k hw, show 0 + 5 * w + 0 = 5 * w by omega]
theorem Rel.iw (h : Rel σ μ) (v : Int32) : isW σ v ↔ isMW μ v := by
  show (nI 0 ≤ v ∧ v ≤ σ 2 0 - nI 1) ↔ (nI 0 ≤ v ∧ v ≤ μ 1 1086 - nI 1)
  rw [h.n]
theorem Rel.draw (h : Rel σ μ) {w m : Nat} (hw : w < 10) (hm : m < 24) : mDr μ w m = σ 20 (w * 24 + m) := by unfold mDr; rw [h.dr (by omega), show 50 + 24 * w + m = 50 + (w * 24 + m) by omega]
theorem Rel.ap (h : Rel σ μ) {a b : Nat} (ha : a < 10) (hb : b < 10) : mapN μ a b = apN σ a b := by
  rw [apN_eq h.wc ha hb, mapN_eq h.wm ha hb, h.x ha, h.x hb, h.y ha, h.y hb, show 0 + 5 * a + 1 = 5 * a + 1 by omega, show 0 + 5 * a + 2 = 5 * a + 2 by omega, show 0 + 5 * b + 1 = 5 * b + 1 by omega, show 0 + 5 * b + 2 = 5 * b + 2 by omega]
theorem Rel.lay (h : Rel σ μ) {a b : Nat} (ha : a < 10) (hb : b < 10) : mly μ a b = lyN σ a b := by unfold mly lyN; rw [h.kind ha, h.kind hb]
theorem Rel.sh (h : Rel σ μ) {p w : Nat} (hp : p < 10) (hw : w < 10) {g : Nat} (hg : g < 12) : mSh μ p w (nI g) = σ 9 (rwN σ p w + g) := by
  have h1 := rwN_228 h.wc hp hw
  unfold mSh
  rw [if_pos ⟨nI_pos' (by omega), nI_le (by omega) (by decide)⟩, tnI (by omega), h.lay hp hw, h.ap hp hw, h.fa (by omega)]
  unfold rwN
  congr 1
  omega
theorem Rel.sh0 {p w : Nat} {g : Int32} (hg : ¬ isR g 11) : mSh μ p w g = nI 0 := by unfold mSh; rw [if_neg hg]
theorem sgn_kd : ∀ k : Fin 6, (if nI k = nI 2 then nI 1 else if nI k = nI 5 then nI 0 else if nI k = nI 3 ∨ nI k = nI 4 then -1 else nI 1) = ctf k := by decide +kernel
theorem Rel.sgn (h : Rel σ μ) {w m : Nat} (hw : w < 10) : mSgn μ w m = if own σ w m then ctf (kd σ w) else nI 0 := by
  have h1 := h.wc.k hw
  have h2 := h.wc.k5 hw
  have h3 := sgn_kd ⟨kd σ w, by omega⟩
  unfold mSgn
  rw [h.kind hw]
  by_cases e : σ 3 w = nI 2
  · rw [if_pos e]
    have h4 : nI (kd σ w) = nI 2 := by rw [← h1]; exact e
    simp only [h4, if_true] at h3
    by_cases q : w % 2 = m % 2
    · rw [if_pos q, if_pos (Or.inr q)]; exact h3
    · rw [if_neg q, if_neg (fun z => z.elim (fun z => z e) q)]
  · rw [if_neg e, if_pos (Or.inl e)]
    simp only [← h1, e, if_false] at h3
    exact h3
end
/-- sums -/
def sm (g : Nat → Int32) (lo : Nat) : Nat → Int32
  | 0 => 0
  | n + 1 => sm g lo n + g (lo + n)
theorem it_sm {g : Nat → Int32} {f : Nat → Int32 → Int32} {lo : Nat} : ∀ {n : Nat} {z : Int32}, (∀ i a, lo ≤ i → i < lo + n → f i a = a + g i) → it f lo n z = z + sm g lo n
  | 0, z, _ => by simp [it, sm]
  | n + 1, z, h => by rw [it, sm, h _ _ (by omega) (by omega), it_sm (fun i a h1 h2 => h i a h1 (by omega)), Int32.add_assoc]
theorem it0_sm {g : Nat → Int32} {f : Nat → Int32 → Int32} : ∀ {n : Nat} {z : Int32}, (∀ i a, i < n → f i a = a + g i) → it0 f n z = z + sm g 0 n
  | 0, z, _ => by simp [it0, sm]
  | n + 1, z, h => by rw [it0, sm, h _ _ (by omega), it0_sm (fun i a h1 => h i a (by omega)), Int32.add_assoc, Nat.zero_add]
theorem sm_cong {g k : Nat → Int32} {lo : Nat} : ∀ {n : Nat}, (∀ i, lo ≤ i → i < lo + n → g i = k i) → sm g lo n = sm k lo n
  | 0, _ => rfl
  | n + 1, h => by rw [sm, sm, sm_cong (fun i h1 h2 => h i h1 (by omega)), h _ (by omega) (by omega)]
theorem sm_zero {g : Nat → Int32} {lo : Nat} : ∀ {n : Nat}, (∀ i, lo ≤ i → i < lo + n → g i = 0) → sm g lo n = 0
  | 0, _ => rfl
  | n + 1, h => by rw [sm, sm_zero (fun i h1 h2 => h i h1 (by omega)), h _ (by omega) (by omega)]; rfl
theorem sm_mul {g : Nat → Int32} {lo : Nat} {c : Int32} : ∀ {n : Nat}, sm g lo n * c = sm (fun i => g i * c) lo n
  | 0 => by simp [sm]
  | n + 1 => by rw [sm, sm, Int32.add_mul, sm_mul]
theorem sm_add {g k : Nat → Int32} {lo : Nat} : ∀ {n : Nat}, sm (fun i => g i + k i) lo n = sm g lo n + sm k lo n
  | 0 => by simp [sm]
  | n + 1 => by
    rw [sm, sm, sm, sm_add]
    ac_rfl
theorem sm_split {g : Nat → Int32} {lo m : Nat} : ∀ {n : Nat}, sm g lo (m + n) = sm g lo m + sm g (lo + m) n
  | 0 => by simp [sm]
  | n + 1 => by rw [show m + (n + 1) = (m + n) + 1 by omega, sm, sm, sm_split, Int32.add_assoc, show lo + (m + n) = lo + m + n by omega]
