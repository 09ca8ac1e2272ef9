/-- where the row of the reference holds what cell K of a water holds at place j -/
def po (K j : Nat) : Option Nat := match K with
  | 1 => if j = 0 then some 1086 else none
  | 2 => if j < 10 then some (5 * j) else none
  | 3 => if j < 10 then some (5 * j + 1) else none
  | 4 => if j < 10 then some (5 * j + 2) else none
  | 5 => if j < 10 then some (5 * j + 3) else none
  | 6 => if j < 10 then some (5 * j + 4) else none
  | 8 => if j < 240 then some (290 + j) else none
  | 9 => if j < 12 then some (530 + j) else none
  | 11 => if j = 0 then some 1087 else none
  | 12 => if j < 10 then some (566 + 4 * j) else none
  | 13 => if j < 10 then some (566 + 4 * j + 1) else none
  | 14 => if j < 10 then some (566 + 4 * j + 2) else none
  | 16 => if j = 0 then some 1088 else none
  | 17 => if j < 240 then some (606 + 2 * j) else none
  | 18 => if j < 240 then some (606 + 2 * j + 1) else none
  | 19 => if j < 240 then some (50 + j) else none
  | 20 => if j < 24 then some (542 + j) else none
  | _ => none
/-- and back -/
def ip (J : Nat) : Nat × Nat :=
  if J < 50 then (2 + J % 5, J / 5) else if J < 290 then (19, J - 50) else if J < 530 then (8, J - 290) else if J < 542 then (9, J - 530) else if J < 566 then (20, J - 542)
  else if J < 606 then (12 + (J - 566) % 4, (J - 566) / 4) else if J < 1086 then (17 + J % 2, (J - 606) / 2) else if J = 1086 then (1, 0) else if J = 1087 then (11, 0) else (16, 0)
theorem po_ip {K j J : Nat} (h : po K j = some J) : ip J = (K, j) := by
  unfold po at h
  split at h <;> (first | (cases h; done) | (split at h <;> (first | (cases h; done) | (cases h; unfold ip; (repeat' split) <;> (first | omega | (refine Prod.ext ?_ ?_ <;> simp only [] <;> omega))))))
theorem po_lt {K j J : Nat} (h : po K j = some J) : J < 1089 ∧ (J < 566 ∨ 606 ≤ J ∨ (J - 566) % 4 ≠ 3) ∧ K < 21 ∧ K ≠ 0 ∧ K ≠ 15 := by
  unfold po at h
  split at h <;> (first | (cases h; done) | (split at h <;> (first | (cases h; done) | (cases h; omega))))
/-- the bounds of the row -/
def bnd (J : Nat) : Int × Int :=
  if J < 50 then (if J % 5 = 0 then (0, 5) else if J % 5 = 1 ∨ J % 5 = 2 then (0, 30) else (-100000, 100000)) else if J < 566 then (0, 1000)
  else if J < 606 then (if (J - 566) % 4 = 0 then (0, 9) else if (J - 566) % 4 = 1 then (0, 9999) else (0, 1000)) else if J < 1086 then (if J % 2 = 0 then (0, 1) else (-100000000, 100000000)) else if J = 1088 then (0, 40) else (0, 10)
def inB (J : Nat) (v : Int32) : Prop := (bnd J).1 ≤ v.toInt ∧ v.toInt ≤ (bnd J).2
/-- how many of the first n marks are set -/
def ctm (r : Nat → Int32) : Nat → Nat
  | 0 => 0
  | n + 1 => ctm r n + (if r (606 + 2 * n) = 0 then 0 else 1)
theorem ctm_cong {r r2 : Nat → Int32} : ∀ {n : Nat}, (∀ k, k < n → r2 (606 + 2 * k) = r (606 + 2 * k)) → ctm r2 n = ctm r n
  | 0, _ => rfl
  | n + 1, h => by rw [ctm, ctm, ctm_cong (fun k hk => h k (by omega)), h n (by omega)]
theorem ctm_one {r r2 : Nat → Int32} {j : Nat} (hj : r (606 + 2 * j) = 0) : ∀ {n : Nat}, (∀ k, k < n → k ≠ j → r2 (606 + 2 * k) = r (606 + 2 * k)) → ctm r2 n ≤ ctm r n + (if j < n then 1 else 0)
  | 0, _ => by simp [ctm]
  | n + 1, h => by
    have ih := ctm_one hj (n := n) (fun k hk => h k (by omega))
    rw [ctm, ctm]
    by_cases e : n = j
    · subst e
      rw [if_neg (by omega)] at ih
      rw [if_pos (show n < n + 1 by omega), if_pos hj]
      split <;> omega
    · rw [h n (by omega) e]
      have : (if j < n + 1 then 1 else 0) = (if j < n then 1 else 0) := by
        by_cases q : j < n
        · rw [if_pos q, if_pos (by omega)]
        · rw [if_neg q, if_neg (by omega)]
      omega
theorem ctm_le {r : Nat → Int32} {n : Nat} : ∀ {m : Nat}, n ≤ m → ctm r n ≤ ctm r m
  | 0, h => by rw [show n = 0 by omega]; exact Nat.le_refl _
  | m + 1, h => by
    by_cases e : n = m + 1
    · rw [e]; exact Nat.le_refl _
    · have := ctm_le (r := r) (n := n) (m := m) (by omega)
      rw [ctm]
      omega
/-- each licence is of a well that there is -/
def Lwl (r : Nat → Int32) : Prop := ∀ i, i < 10 → i < (r 1087).toNatClampNeg → (r (566 + 4 * i)).toNatClampNeg < (r 1086).toNatClampNeg
def Bd (r : Nat → Int32) : Prop := (∀ J, J < 1090 → inB J (r J)) ∧ ctm r 240 ≤ (r 1088).toNatClampNeg ∧ Lwl r
theorem Lwl.same {r r2 : Nat → Int32} (h : Lwl r) (e : ∀ J, J < 606 ∧ 566 ≤ J ∧ (J - 566) % 4 = 0 ∨ J = 1086 ∨ J = 1087 → r2 J = r J) : Lwl r2 := fun i hi h2 => by
  rw [e 1087 (by omega)] at h2
  rw [e 1086 (by omega), e (566 + 4 * i) (by omega)]
  exact h i hi h2
def Svd (b : Nat) (σ : St) (r : Nat → Int32) : Prop := (r 1089).toNatClampNeg ≤ (r 1087).toNatClampNeg ∧ ∀ i, i < 10 → i < (r 1087).toNatClampNeg → (i < (r 1089).toNatClampNeg → σ (b + 15) i = r (566 + 4 * i + 3)) ∧ (¬ i < (r 1089).toNatClampNeg → σ (b + 15) i = -1)
def Eqs (b : Nat) (σ : St) (r : Nat → Int32) : Prop := (∀ K j J, po K j = some J → σ (b + K) j = r J) ∧ Svd b σ r
def Shs (σ μ : St) : Prop := ∀ s, s < 4 → σ (46 + s) 0 = μ 3 s ∧ σ (46 + s) 1 = μ 4 s ∧ Nb (μ 3 s) 2 ∧ Nb (μ 4 s) 24 ∧ ∀ i, i < 24 → σ (50 + s) i = μ 5 (24 * s + i)
def Kpt (σ μ : St) : Prop := (σ 0 2 = 0 ∧ μ 0 2 = 0) ∨ (σ 0 2 = nI 1 ∧ μ 0 2 = nI 1 ∧ Bd (μ 2) ∧ Eqs 23 σ (μ 2))
def Rel (σ μ : St) : Prop := Bd (μ 1) ∧ Eqs 1 σ (μ 1) ∧ Shs σ μ ∧ σ 0 4 = μ 0 6 ∧ Kpt σ μ
theorem Nb.ofI {x : Int32} {n : Nat} (hn : n < 2000000) (h1 : 0 ≤ x.toInt) (h2 : x.toInt ≤ n) : Nb x n := by
  obtain ⟨j, hj, rfl⟩ := nI_of (x := x) (fun q => by have := Int32.lt_iff_toInt_lt.mp q; simp at this; omega)
  rw [nI_toInt hj] at h2
  refine ⟨by rw [nI_clamp hj], by rw [nI_clamp hj]; omega⟩
theorem Nb.toI {x : Int32} {n : Nat} (hn : n < 2000000) (h : Nb x n) : x.toInt = x.toNatClampNeg := by
  have h2 := h.2
  have h1 := congrArg Int32.toInt h.1
  rw [nI_toInt (by omega)] at h1
  exact h1
section
variable {σ μ : St}
theorem bnd_mid {J : Nat} (h : 50 ≤ J) (h2 : J < 566) : bnd J = (0, 1000) := by unfold bnd; rw [if_neg (by omega), if_pos h2]
theorem Rel.b (h : Rel σ μ) {J : Nat} {n : Nat} (hJ : J < 1090) (hn : n < 2000000) (hb : bnd J = (0, (n : Int))) : Nb (μ 1 J) n := by
  have h1 := h.1.1 J hJ
  unfold inB at h1
  rw [hb] at h1
  exact Nb.ofI hn h1.1 h1.2
theorem Rel.n (h : Rel σ μ) : σ 2 0 = μ 1 1086 := h.2.1.1 1 0 _ rfl
theorem Rel.k (h : Rel σ μ) {w : Nat} (hw : w < 10) : σ 3 w = μ 1 (5 * w) := h.2.1.1 2 w _ (if_pos hw)
theorem Rel.x (h : Rel σ μ) {w : Nat} (hw : w < 10) : σ 4 w = μ 1 (5 * w + 1) := h.2.1.1 3 w _ (if_pos hw)
theorem Rel.y (h : Rel σ μ) {w : Nat} (hw : w < 10) : σ 5 w = μ 1 (5 * w + 2) := h.2.1.1 4 w _ (if_pos hw)
theorem Rel.r (h : Rel σ μ) {w : Nat} (hw : w < 10) : σ 6 w = μ 1 (5 * w + 3) := h.2.1.1 5 w _ (if_pos hw)
theorem Rel.li (h : Rel σ μ) {w : Nat} (hw : w < 10) : σ 7 w = μ 1 (5 * w + 4) := h.2.1.1 6 w _ (if_pos hw)
theorem Rel.dr (h : Rel σ μ) {k : Nat} (hk : k < 240) : σ 20 k = μ 1 (50 + k) := h.2.1.1 19 k _ (if_pos hk)
theorem Rel.fa (h : Rel σ μ) {k : Nat} (hk : k < 240) : σ 9 k = μ 1 (290 + k) := h.2.1.1 8 k _ (if_pos hk)
theorem Rel.mk (h : Rel σ μ) {k : Nat} (hk : k < 240) : σ 18 k = μ 1 (606 + 2 * k) := h.2.1.1 17 k _ (if_pos hk)
theorem Rel.hd (h : Rel σ μ) {k : Nat} (hk : k < 240) : σ 19 k = μ 1 (606 + 2 * k + 1) := h.2.1.1 18 k _ (if_pos hk)
theorem Rel.ri (h : Rel σ μ) {a : Nat} (ha : a < 12) : σ 10 a = μ 1 (530 + a) := h.2.1.1 9 a _ (if_pos ha)
theorem Rel.ra (h : Rel σ μ) {m : Nat} (hm : m < 24) : σ 21 m = μ 1 (542 + m) := h.2.1.1 20 m _ (if_pos hm)
theorem Rel.l (h : Rel σ μ) : σ 12 0 = μ 1 1087 := h.2.1.1 11 0 _ rfl
theorem Rel.lw (h : Rel σ μ) {i : Nat} (hi : i < 10) : σ 13 i = μ 1 (566 + 4 * i) := h.2.1.1 12 i _ (if_pos hi)
theorem Rel.ly (h : Rel σ μ) {i : Nat} (hi : i < 10) : σ 14 i = μ 1 (566 + 4 * i + 1) := h.2.1.1 13 i _ (if_pos hi)
theorem Rel.la (h : Rel σ μ) {i : Nat} (hi : i < 10) : σ 15 i = μ 1 (566 + 4 * i + 2) := h.2.1.1 14 i _ (if_pos hi)
theorem Rel.rm (h : Rel σ μ) : σ 17 0 = μ 1 1088 := h.2.1.1 16 0 _ rfl
theorem b_kd {w : Nat} (hw : w < 10) : bnd (5 * w) = (0, ((5 : Nat) : Int)) := by unfold bnd; rw [if_pos (by omega), if_pos (by omega)]; rfl
theorem b_x {w : Nat} (hw : w < 10) : bnd (5 * w + 1) = (0, ((30 : Nat) : Int)) := by unfold bnd; rw [if_pos (by omega), if_neg (by omega), if_pos (by omega)]; rfl
theorem b_y {w : Nat} (hw : w < 10) : bnd (5 * w + 2) = (0, ((30 : Nat) : Int)) := by unfold bnd; rw [if_pos (by omega), if_neg (by omega), if_pos (by omega)]; rfl
theorem b_lw {i : Nat} (hi : i < 10) : bnd (566 + 4 * i) = (0, ((9 : Nat) : Int)) := by unfold bnd; rw [if_neg (by omega), if_neg (by omega), if_pos (by omega), if_pos (by omega)]; rfl
theorem b_la {i : Nat} (hi : i < 10) : bnd (566 + 4 * i + 2) = (0, ((1000 : Nat) : Int)) := by unfold bnd; rw [if_neg (by omega), if_neg (by omega), if_pos (by omega), if_neg (by omega), if_neg (by omega)]; rfl
theorem b_sv {i : Nat} (hi : i < 10) : bnd (566 + 4 * i + 3) = (0, ((1000 : Nat) : Int)) := by unfold bnd; rw [if_neg (by omega), if_neg (by omega), if_pos (by omega), if_neg (by omega), if_neg (by omega)]; rfl
theorem b_mid {J : Nat} (h : 50 ≤ J) (h2 : J < 566) : bnd J = (0, ((1000 : Nat) : Int)) := bnd_mid h h2
theorem Rel.wc (h : Rel σ μ) : WC σ := by
  refine ⟨by rw [h.n]; exact h.b (n := 10) (by decide) (by decide) rfl, fun w hw => ?_, by rw [h.l]; exact h.b (n := 10) (by decide) (by decide) rfl, fun i hi => by rw [h.lw hi]; exact h.b (by omega) (by decide) (b_lw hi)⟩
  rw [h.k hw, h.x hw, h.y hw]
  exact ⟨h.b (by omega) (by decide) (b_kd hw), h.b (by omega) (by decide) (b_x hw), h.b (by omega) (by decide) (b_y hw)⟩
theorem Rel.ws (h : Rel σ μ) : WS σ := fun s hs => by
  have := h.2.2.1 s hs
  rw [this.1, this.2.1]
  exact ⟨this.2.2.1, this.2.2.2.1⟩
theorem Rel.wm (h : Rel σ μ) : WM μ := by
  refine ⟨h.b (n := 10) (by decide) (by decide) rfl, fun w hw => ?_, h.b (n := 10) (by decide) (by decide) rfl, fun i hi => ?_, fun s hs => (h.2.2.1 s hs).2.2.2.1⟩
  · rw [show 0 + 5 * w + 1 = 5 * w + 1 by omega, show 0 + 5 * w + 2 = 5 * w + 2 by omega]
    exact ⟨h.b (by omega) (by decide) (b_x hw), h.b (by omega) (by decide) (b_y hw)⟩
  · rw [show 566 + 4 * i + 0 = 566 + 4 * i by omega]
    exact h.b (by omega) (by decide) (b_lw hi)
theorem Rel.N (h : Rel σ μ) : nW σ = mN μ := by unfold nW mN; rw [h.n]
theorem Rel.L (h : Rel σ μ) : nLi σ = mL μ := by unfold nLi mL; rw [h.l]
theorem Rel.kind (h : Rel σ μ) {w : Nat} (hw : w < 10) : mKind μ w = σ 3 w := by unfold mKind; rw [h.k hw, show 0 + 5 * w + 0 = 5 * w by omega]
theorem Rel.iw (h : Rel σ μ) (v : Int32) : isW σ v ↔ isMW μ v := by
  show (nI 0 ≤ v ∧ v ≤ σ 2 0 - nI 1) ↔ (nI 0 ≤ v ∧ v ≤ μ 1 1086 - nI 1)
  rw [h.n]
theorem Rel.draw (h : Rel σ μ) {w m : Nat} (hw : w < 10) (hm : m < 24) : mDr μ w m = σ 20 (w * 24 + m) := by unfold mDr; rw [h.dr (by omega), show 50 + 24 * w + m = 50 + (w * 24 + m) by omega]
theorem Rel.ap (h : Rel σ μ) {a b : Nat} (ha : a < 10) (hb : b < 10) : mapN μ a b = apN σ a b := by
  rw [apN_eq h.wc ha hb, mapN_eq h.wm ha hb, h.x ha, h.x hb, h.y ha, h.y hb, show 0 + 5 * a + 1 = 5 * a + 1 by omega, show 0 + 5 * a + 2 = 5 * a + 2 by omega, show 0 + 5 * b + 1 = 5 * b + 1 by omega, show 0 + 5 * b + 2 = 5 * b + 2 by omega]
theorem Rel.lay (h : Rel σ μ) {a b : Nat} (ha : a < 10) (hb : b < 10) : mly μ a b = lyN σ a b := by unfold mly lyN; rw [h.kind ha, h.kind hb]
theorem Rel.sh (h : Rel σ μ) {p w : Nat} (hp : p < 10) (hw : w < 10) {g : Nat} (hg : g < 12) : mSh μ p w (nI g) = σ 9 (rwN σ p w + g) := by
  have h1 := rwN_228 h.wc hp hw
  unfold mSh
  rw [if_pos ⟨nI_pos' (by omega), nI_le (by omega) (by decide)⟩, tnI (by omega), h.lay hp hw, h.ap hp hw, h.fa (by omega)]
  unfold rwN
  congr 1
  omega
theorem Rel.sh0 {p w : Nat} {g : Int32} (hg : ¬ isR g 11) : mSh μ p w g = nI 0 := by unfold mSh; rw [if_neg hg]
theorem sgn_kd : ∀ k : Fin 6, (if nI k = nI 2 then nI 1 else if nI k = nI 5 then nI 0 else if nI k = nI 3 ∨ nI k = nI 4 then -1 else nI 1) = ctf k := by decide +kernel
theorem Rel.sgn (h : Rel σ μ) {w m : Nat} (hw : w < 10) : mSgn μ w m = if own σ w m then ctf (kd σ w) else nI 0 := by
  have h1 := h.wc.k hw
  have h2 := h.wc.k5 hw
  have h3 := sgn_kd ⟨kd σ w, by omega⟩
  unfold mSgn
  rw [h.kind hw]
  by_cases e : σ 3 w = nI 2
  · rw [if_pos e]
    have h4 : nI (kd σ w) = nI 2 := by rw [← h1]; exact e
    simp only [h4, if_true] at h3
    by_cases q : w % 2 = m % 2
    · rw [if_pos q, if_pos (Or.inr q)]; exact h3
    · rw [if_neg q, if_neg (fun z => z.elim (fun z => z e) q)]
  · rw [if_neg e, if_pos (Or.inl e)]
    simp only [← h1, e, if_false] at h3
    exact h3
end
section
variable {σ μ : St}
/-- the rest of the relation stays while the water 'now' and its row change -/
theorem Rel.chg (h : Rel σ μ) {σ' μ' : St} (e0 : σ' 0 = σ 0) (e1 : ∀ k, 23 ≤ k → σ' k = σ k) (f0 : μ' 0 = μ 0) (f2 : μ' 2 = μ 2) (f3 : μ' 3 = μ 3) (f4 : μ' 4 = μ 4) (f5 : μ' 5 = μ 5) (hb : Bd (μ' 1)) (he : Eqs 1 σ' (μ' 1)) : Rel σ' μ' := by
  obtain ⟨-, -, h3, h4, h5⟩ := h
  refine ⟨hb, he, fun s hs => ?_, by rw [e0, f0]; exact h4, ?_⟩
  · rw [e1 (46 + s) (by omega), e1 (50 + s) (by omega), f3, f4, f5]
    exact h3 s hs
  · unfold Kpt
    rw [e0, f0, f2]
    rcases h5 with h5 | ⟨a1, a2, a3, a4, a5, a6⟩
    · exact Or.inl h5
    · refine Or.inr ⟨a1, a2, a3, fun K j J hK => ?_, a5, fun i hi hi2 => ?_⟩
      · rw [e1 (23 + K) (by omega)]; exact a4 K j J hK
      · rw [e1 (23 + 15) (by omega)]; exact a6 i hi hi2
theorem setE (h : Eqs 1 σ (μ 1)) {K j J : Nat} {v : Int32} (hp : po K j = some J) (hJ : J ≠ 1087) : Eqs 1 (wr σ (1 + K) j v) (wr μ 1 J v 1) := by
  have hl := po_lt hp
  refine ⟨fun K2 j2 J2 h2 => ?_, ?_⟩
  · by_cases e : J2 = J
    · subst e
      have := (po_ip h2).symm.trans (po_ip hp)
      rw [wr_in, (Prod.mk.inj this).1, (Prod.mk.inj this).2, wr_in]
    · rw [wr_out e]
      have : ¬ (K2 = K ∧ j2 = j) := fun q => e (by rw [q.1, q.2, hp] at h2; exact (Option.some.inj h2).symm)
      rw [← h.1 K2 j2 J2 h2]
      unfold wr
      rw [if_neg (by omega)]
  · unfold Svd
    rw [wr_out (Ne.symm hJ), wr_out (by omega)]
    refine ⟨h.2.1, fun i hi hi2 => ?_⟩
    rw [wr_ne (by omega), wr_out (by omega)]
    exact h.2.2 i hi hi2
/-- one number of the water changes, and with it the number of the row -/
theorem Rel.set (h : Rel σ μ) {K j J : Nat} {v : Int32} (hp : po K j = some J) (hv : inB J v) (hJ : J ≠ 1087 ∧ J ≠ 1088 ∧ J ≠ 1086 ∧ (J < 566 ∨ 606 ≤ J ∨ (J - 566) % 4 ≠ 0) ∧ (J < 606 ∨ 1086 ≤ J ∨ J % 2 = 1)) : Rel (wr σ (1 + K) j v) (wr μ 1 J v) := by
  have hl := po_lt hp
  refine h.chg (wr_ne (by omega)) (fun k hk => wr_ne (by omega)) (wr_ne (by decide)) (wr_ne (by decide)) (wr_ne (by decide)) (wr_ne (by decide)) (wr_ne (by decide)) ⟨fun i hi => ?_, ?_, h.1.2.2.same (fun i hi => wr_out (by omega))⟩ (setE h.2.1 hp hJ.1)
  · by_cases e : i = J
    · rw [e, wr_in]; exact hv
    · rw [wr_out e]; exact h.1.1 i hi
  · rw [wr_out (Ne.symm hJ.2.1), ctm_cong (r := μ 1) (fun k hk => wr_out (by omega))]
    exact h.1.2.1
/-- a well more -/
theorem Rel.setN (h : Rel σ μ) {v : Int32} (hv : inB 1086 v) (hg : (μ 1 1086).toNatClampNeg ≤ v.toNatClampNeg) : Rel (wr σ 2 0 v) (wr μ 1 1086 v) := by
  refine h.chg (wr_ne (by omega)) (fun k hk => wr_ne (by omega)) (wr_ne (by decide)) (wr_ne (by decide)) (wr_ne (by decide)) (wr_ne (by decide)) (wr_ne (by decide)) ⟨fun i hi => ?_, ?_, fun i hi h2 => ?_⟩ (setE (K := 1) (j := 0) h.2.1 rfl (by decide))
  · by_cases e : i = 1086
    · rw [e, wr_in]; exact hv
    · rw [wr_out e]; exact h.1.1 i hi
  · rw [wr_out (by decide), ctm_cong (r := μ 1) (fun k hk => wr_out (by omega))]
    exact h.1.2.1
  · rw [wr_out (by decide)] at h2
    rw [wr_in, wr_out (by omega)]
    exact Nat.lt_of_lt_of_le (h.1.2.2 i hi h2) hg
/-- the well of a licence to come -/
theorem Rel.setW (h : Rel σ μ) {n : Nat} {v : Int32} (hn : n < 10) (hv : inB (566 + 4 * n) v) (hL : (μ 1 1087).toNatClampNeg ≤ n) : Rel (wr σ 13 n v) (wr μ 1 (566 + 4 * n) v) := by
  refine h.chg (wr_ne (by omega)) (fun k hk => wr_ne (by omega)) (wr_ne (by decide)) (wr_ne (by decide)) (wr_ne (by decide)) (wr_ne (by decide)) (wr_ne (by decide)) ⟨fun i hi => ?_, ?_, fun i hi h2 => ?_⟩ (setE (K := 12) (j := n) h.2.1 (if_pos hn) (by omega))
  · by_cases e : i = 566 + 4 * n
    · rw [e, wr_in]; exact hv
    · rw [wr_out e]; exact h.1.1 i hi
  · rw [wr_out (by omega), ctm_cong (r := μ 1) (fun k hk => wr_out (by omega))]
    exact h.1.2.1
  · rw [wr_out (by omega)] at h2
    rw [wr_out (by omega), wr_out (by omega)]
    exact h.1.2.2 i hi h2
/-- a new reading is marked, and counted -/
theorem Rel.mrk (h : Rel σ μ) {k n : Nat} (hk : k < 240) (h0 : μ 1 (606 + 2 * k) = 0) (hn : μ 1 1088 = nI n) (h40 : n < 40) : Rel (wr (wr σ 18 k (nI 1)) 17 0 (nI (n + 1))) (wr (wr μ 1 (606 + 2 * k) (nI 1)) 1 1088 (nI (n + 1))) := by
  have e1 := setE (v := nI 1) h.2.1 (K := 17) (j := k) (if_pos hk) (by omega)
  have e2 := setE (v := nI (n + 1)) (σ := wr σ 18 k (nI 1)) (μ := wr μ 1 (606 + 2 * k) (nI 1)) e1 (K := 16) (j := 0) (J := 1088) rfl (by decide)
  refine h.chg (by rw [wr_ne (by decide), wr_ne (by decide)]) (fun k hk => by rw [wr_ne (by omega), wr_ne (by omega)]) (by rw [wr_ne (by decide), wr_ne (by decide)]) (by rw [wr_ne (by decide), wr_ne (by decide)]) (by rw [wr_ne (by decide), wr_ne (by decide)]) (by rw [wr_ne (by decide), wr_ne (by decide)]) (by rw [wr_ne (by decide), wr_ne (by decide)]) ⟨fun J hJ => ?_, ?_, h.1.2.2.same (fun i hi => by rw [wr_out (by omega), wr_out (by omega)])⟩ e2
  · have hb : ∀ J j n : Nat, n < 2000000 → j ≤ n → bnd J = (0, (n : Int)) → inB J (nI j) := fun J j n a1 a2 a3 => by
      unfold inB
      rw [a3, nI_toInt (by omega)]
      show (0 : Int) ≤ (j : Int) ∧ (j : Int) ≤ (n : Int)
      omega
    by_cases e : J = 1088
    · rw [e, wr_in]; exact hb _ _ 40 (by decide) (by omega) rfl
    · rw [wr_out e]
      by_cases q : J = 606 + 2 * k
      · rw [q, wr_in]
        exact hb _ _ 1 (by decide) (by decide) (by unfold bnd; rw [if_neg (by omega), if_neg (by omega), if_neg (by omega), if_pos (by omega), if_pos (by omega)]; rfl)
      · rw [wr_out q]; exact h.1.1 J hJ
  · rw [wr_in, nI_clamp (by omega)]
    have h2 := h.1.2.1
    rw [hn, nI_clamp (by omega)] at h2
    have := ctm_one h0 (r2 := wr (wr μ 1 (606 + 2 * k) (nI 1)) 1 1088 (nI (n + 1)) 1) (n := 240) (fun i hi e => by rw [wr_out (by omega), wr_out (by omega)])
    rw [if_pos hk] at this
    omega
/-- scratch rows -/
theorem Rel.scr (h : Rel σ μ) {σ' μ' : St} (e1 : ∀ k, k ≠ 11 → k ≠ 22 → σ' k = σ k) (e2 : ∀ k, k < 6 → μ' k = μ k) : Rel σ' μ' := by
  refine h.chg (e1 0 (by decide) (by decide)) (fun k hk => e1 k (by omega) (by omega)) (e2 0 (by decide)) (e2 2 (by decide)) (e2 3 (by decide)) (e2 4 (by decide)) (e2 5 (by decide)) (by rw [e2 1 (by decide)]; exact h.1) ?_
  rw [e2 1 (by decide)]
  refine ⟨fun K j J hK => ?_, h.2.1.2.1, fun i hi hi2 => ?_⟩
  · have hl := po_lt hK
    have h10 : K ≠ 10 := fun q => by subst q; simp [po] at hK
    rw [e1 (1 + K) (by omega) (by omega)]
    exact h.2.1.1 K j J hK
  · rw [e1 (1 + 15) (by decide) (by decide)]
    exact h.2.1.2.2 i hi hi2
theorem Rel.fnd (h : Rel σ μ) : Rel (wr σ 0 4 (σ 0 4 + nI 1)) (wr μ 0 6 (μ 0 6 + nI 1)) := by
  obtain ⟨h1, h2, h3, h4, h5⟩ := h
  refine ⟨by rw [wr_ne (by decide)]; exact h1, ?_, fun s hs => ?_, by rw [wr_in, wr_in, h4], ?_⟩
  · rw [wr_ne (k := 0) (by decide)]
    refine ⟨fun K j J hK => ?_, h2.2.1, fun i hi hi2 => ?_⟩
    · rw [wr_ne (by omega)]; exact h2.1 K j J hK
    · rw [wr_ne (by decide)]; exact h2.2.2 i hi hi2
  · rw [wr_ne (a := 46 + s) (by omega), wr_ne (a := 50 + s) (by omega), wr_ne (a := 3) (by decide), wr_ne (a := 4) (by decide), wr_ne (a := 5) (by decide)]
    exact h3 s hs
  · unfold Kpt
    rw [wr_out (by decide), wr_out (by decide), wr_ne (a := 2) (by decide)]
    rcases h5 with h5 | ⟨a1, a2, a3, a4, a5, a6⟩
    · exact Or.inl h5
    · refine Or.inr ⟨a1, a2, a3, fun K j J hK => ?_, a5, fun i hi hi2 => ?_⟩
      · rw [wr_ne (by omega)]; exact a4 K j J hK
      · rw [wr_ne (by decide)]; exact a6 i hi hi2
end
/-- sums -/
def sm (g : Nat → Int32) (lo : Nat) : Nat → Int32
  | 0 => 0
  | n + 1 => sm g lo n + g (lo + n)
theorem it_sm {g : Nat → Int32} {f : Nat → Int32 → Int32} {lo : Nat} : ∀ {n : Nat} {z : Int32}, (∀ i a, lo ≤ i → i < lo + n → f i a = a + g i) → it f lo n z = z + sm g lo n
  | 0, z, _ => by simp [it, sm]
  | n + 1, z, h => by rw [it, sm, h _ _ (by omega) (by omega), it_sm (fun i a h1 h2 => h i a h1 (by omega)), Int32.add_assoc]
theorem it0_sm {g : Nat → Int32} {f : Nat → Int32 → Int32} : ∀ {n : Nat} {z : Int32}, (∀ i a, i < n → f i a = a + g i) → it0 f n z = z + sm g 0 n
  | 0, z, _ => by simp [it0, sm]
  | n + 1, z, h => by rw [it0, sm, h _ _ (by omega), it0_sm (fun i a h1 => h i a (by omega)), Int32.add_assoc, Nat.zero_add]
theorem sm_cong {g k : Nat → Int32} {lo : Nat} : ∀ {n : Nat}, (∀ i, lo ≤ i → i < lo + n → g i = k i) → sm g lo n = sm k lo n
  | 0, _ => rfl
  | n + 1, h => by rw [sm, sm, sm_cong (fun i h1 h2 => h i h1 (by omega)), h _ (by omega) (by omega)]
theorem sm_zero {g : Nat → Int32} {lo : Nat} : ∀ {n : Nat}, (∀ i, lo ≤ i → i < lo + n → g i = 0) → sm g lo n = 0
  | 0, _ => rfl
  | n + 1, h => by rw [sm, sm_zero (fun i h1 h2 => h i h1 (by omega)), h _ (by omega) (by omega)]; rfl
theorem sm_mul {g : Nat → Int32} {lo : Nat} {c : Int32} : ∀ {n : Nat}, sm g lo n * c = sm (fun i => g i * c) lo n
  | 0 => by simp [sm]
  | n + 1 => by rw [sm, sm, Int32.add_mul, sm_mul]
theorem sm_add {g k : Nat → Int32} {lo : Nat} : ∀ {n : Nat}, sm (fun i => g i + k i) lo n = sm g lo n + sm k lo n
  | 0 => by simp [sm]
  | n + 1 => by
    rw [sm, sm, sm, sm_add]
    ac_rfl
theorem sm_split {g : Nat → Int32} {lo m : Nat} : ∀ {n : Nat}, sm g lo (m + n) = sm g lo m + sm g (lo + m) n
  | 0 => by simp [sm]
  | n + 1 => by rw [show m + (n + 1) = (m + n) + 1 by omega, sm, sm, sm_split, Int32.add_assoc, show lo + (m + n) = lo + m + n by omega]
