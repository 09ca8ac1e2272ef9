/-- loops that take the least -/
theorem mins0 {f : Nat → Int32 → Int32} {R : Nat → Nat → Prop} {a : Nat} (ha : a ≤ 1000) : ∀ n, (∀ i c, i < n → c ≤ 1000 → ∃ b, b ≤ 1000 ∧ f i (nI c) = nI b ∧ ∀ q, q ≤ b ↔ (q ≤ c ∧ R i q)) → ∃ b, b ≤ 1000 ∧ it0 f n (nI a) = nI b ∧ ∀ q, q ≤ b ↔ (q ≤ a ∧ ∀ i, i < n → R i q)
  | 0, _ => ⟨a, ha, rfl, fun q => ⟨fun z => ⟨z, fun i hi => absurd hi (Nat.not_lt_zero i)⟩, fun z => z.1⟩⟩
  | n + 1, h => by
    obtain ⟨c, h1, h2, h3⟩ := mins0 ha n (fun i c hi hc => h i c (by omega) hc)
    obtain ⟨b, g1, g2, g3⟩ := h n c (by omega) h1
    refine ⟨b, g1, by rw [it0, h2]; exact g2, fun q => ?_⟩
    rw [g3, h3]
    constructor
    · rintro ⟨⟨z1, z2⟩, z3⟩
      refine ⟨z1, fun i hi => ?_⟩
      by_cases e : i = n
      · rw [e]; exact z3
      · exact z2 i (by omega)
    · rintro ⟨z1, z2⟩
      exact ⟨⟨z1, fun i hi => z2 i (by omega)⟩, z2 n (by omega)⟩
theorem it_it0 {α : Type} {f : Nat → α → α} {lo : Nat} : ∀ {n : Nat} {x : α}, it f lo n x = it0 (fun i a => f (lo + i) a) n x
  | 0, _ => rfl
  | n + 1, x => by rw [it, it0, it_it0]
theorem down_thr {p : Nat → Bool} {M : Nat} : ∀ {n : Nat}, M ≤ n → (∀ q, 0 < q → q ≤ n → (p q = true ↔ q ≤ M)) → down p n = M
  | 0, h, _ => by rw [show M = 0 by omega]; rfl
  | n + 1, h, hp => by
    rw [down]
    by_cases e : p (n + 1) = true
    · rw [if_pos e]
      have := (hp (n + 1) (by omega) (Nat.le_refl _)).mp e
      omega
    · rw [if_neg e]
      have h2 : M ≤ n := by
        rcases Nat.lt_or_ge n M with q | q
        · exact absurd ((hp (n + 1) (by omega) (Nat.le_refl _)).mpr (by omega)) e
        · exact q
      exact down_thr h2 (fun q a b => hp q a (by omega))
theorem mn_step {c v : Nat} (hc : c ≤ 1000) (hv : v < 2 ^ 31) : ∃ b, b ≤ 1000 ∧ mn (nI c) (nI v) = nI b ∧ ∀ q, q ≤ b ↔ (q ≤ c ∧ q ≤ v) := ⟨min c v, by omega, mn_nI (by omega) hv, fun q => by omega⟩
section
variable {σ μ : St}
theorem ctf_pos : ∀ k : Fin 6, 0 < ctf k → ctf k = 1 := by decide +kernel
theorem Rel.ct1 (h : Rel σ μ) {w : Nat} (hw : w < 10) (hc : 0 < ctf (kd σ w)) : ctf (kd σ w) = 1 := by
  have h5 := h.wc.k5 hw
  exact ctf_pos ⟨kd σ w, by omega⟩ hc
theorem Rel.cntN (h : Rel σ μ) {w m : Nat} (hw : w < 10) (hm : m < 24) (hc : 0 < ctf (kd σ w)) : Nb (cCnt σ w m) 1000 := by
  unfold cCnt
  split
  · rw [h.ct1 hw hc, Int32.one_mul]; exact h.dB (by omega)
  · exact Nb.of rfl (by decide) (by decide)
/-- what one well and month asks of a moved draw -/
def Rm (σ : St) (w m f p g : Nat) (q : Nat) : Prop := tn (σ 9 (rwN σ p w + g)) = 0 ∨ q ≤ tn (σ 20 (w * 24 + m)) + tn (cCnt σ f m) * tn (σ 9 (rwN σ p f + g)) / tn (σ 9 (rwN σ p w + g))
theorem move_in (h : Rel σ μ) {w m f p g c : Nat} (hw : w < 10) (hf : f < 10) (hp : p < 10) (hm : m < 24) (hg : g < 12) (hcf : 0 < ctf (kd σ f)) (hc : c ≤ 1000) : ∃ b, b ≤ 1000 ∧ fMove σ w m f p g (nI c) = nI b ∧ ∀ q, q ≤ b ↔ (q ≤ c ∧ Rm σ w m f p g q) := by
  have r1 := rwN_228 h.wc hp hw
  have r2 := rwN_228 h.wc hp hf
  have n1 := h.fB (k := rwN σ p w + g) (by omega)
  have n2 := h.fB (k := rwN σ p f + g) (by omega)
  have n3 := h.dB (k := w * 24 + m) (by omega)
  have n4 := h.cntN hf hm hcf
  unfold fMove Rm
  generalize σ 9 (rwN σ p w + g) = S at *
  generalize σ 9 (rwN σ p f + g) = F at *
  generalize σ 20 (w * 24 + m) = d at *
  generalize cCnt σ f m = C at *
  obtain ⟨n1, l1⟩ := n1
  obtain ⟨n2, l2⟩ := n2
  obtain ⟨n3, l3⟩ := n3
  obtain ⟨n4, l4⟩ := n4
  show ∃ b, b ≤ 1000 ∧ (if S ≤ 0 then nI c else mn (nI c) (d + C * F / S)) = nI b ∧ ∀ q, q ≤ b ↔ (q ≤ c ∧ (S.toNatClampNeg = 0 ∨ q ≤ d.toNatClampNeg + C.toNatClampNeg * F.toNatClampNeg / S.toNatClampNeg))
  generalize S.toNatClampNeg = S' at *
  generalize F.toNatClampNeg = F' at *
  generalize d.toNatClampNeg = d' at *
  generalize C.toNatClampNeg = C' at *
  subst n1; subst n2; subst n3; subst n4
  rcases Nat.eq_zero_or_pos S' with e | e
  · subst e
    rw [if_pos (show nI 0 ≤ 0 from Int32.le_refl _)]
    exact ⟨c, hc, rfl, fun q => ⟨fun z => ⟨z, Or.inl rfl⟩, fun z => z.1⟩⟩
  · have hm : C' * F' ≤ 1000 * 1000 := Nat.mul_le_mul l4 l2
    have hdv := Nat.div_le_self (C' * F') S'
    rw [if_neg (nI_nle e (by omega)), pk_mul, pk_div (by omega) e (by omega), nI_add]
    obtain ⟨b, b1, b2, b3⟩ := mn_step hc (v := d' + C' * F' / S') (by omega)
    refine ⟨b, b1, b2, fun q => ?_⟩
    rw [b3]
    exact and_congr Iff.rfl ⟨Or.inr, fun z => z.elim (fun z => absurd z (by omega)) (fun z => z)⟩
theorem move_all (h : Rel σ μ) {w m f : Nat} (hw : w < 10) (hf : f < 10) (hm : m < 24) (hcf : 0 < ctf (kd σ f)) : ∃ b, b ≤ 1000 ∧ it0 (gMove σ w m f) (nW σ) (nI 1000) = nI b ∧ ∀ q, q ≤ b ↔ (q ≤ 1000 ∧ ∀ p, p < nW σ → ∀ g, g < min 12 (24 - m) → Rm σ w m f p g q) := by
  have h10 := h.wc.n10
  refine mins0 (R := fun p q => ∀ g, g < min 12 (24 - m) → Rm σ w m f p g q) (Nat.le_refl _) (nW σ) (fun p c hp hc => ?_)
  exact mins0 (R := fun g q => Rm σ w m f p g q) hc _ (fun g c hg hc => move_in h hw hf (by omega) hm (by omega) hcf hc)
/-- the reference's question, at a well and an age -/
theorem may_one (h : Rel σ μ) {w m f p g q : Nat} (hw : w < 10) (hf : f < 10) (hp : p < 10) (hm : m < 24) (hg : g < 12) (hcf : 0 < ctf (kd σ f)) (hq : q ≤ 1000) : ((nI q - σ 20 (w * 24 + m)) * mSh μ p w (nI g) ≤ cCnt σ f m * mSh μ p f (nI g)) ↔ Rm σ w m f p g q := by
  have r1 := rwN_228 h.wc hp hw
  have r2 := rwN_228 h.wc hp hf
  have n1 := h.fB (k := rwN σ p w + g) (by omega)
  have n2 := h.fB (k := rwN σ p f + g) (by omega)
  have n3 := h.dB (k := w * 24 + m) (by omega)
  have n4 := h.cntN hf hm hcf
  rw [h.sh hp hw hg, h.sh hp hf hg]
  unfold Rm
  generalize σ 9 (rwN σ p w + g) = S at *
  generalize σ 9 (rwN σ p f + g) = F at *
  generalize σ 20 (w * 24 + m) = d at *
  generalize cCnt σ f m = C at *
  obtain ⟨n1, l1⟩ := n1
  obtain ⟨n2, l2⟩ := n2
  obtain ⟨n3, l3⟩ := n3
  obtain ⟨n4, l4⟩ := n4
  show _ ↔ (S.toNatClampNeg = 0 ∨ q ≤ d.toNatClampNeg + C.toNatClampNeg * F.toNatClampNeg / S.toNatClampNeg)
  generalize S.toNatClampNeg = S' at *
  generalize F.toNatClampNeg = F' at *
  generalize d.toNatClampNeg = d' at *
  generalize C.toNatClampNeg = C' at *
  subst n1; subst n2; subst n3; subst n4
  have hm1 : C' * F' ≤ 1000 * 1000 := Nat.mul_le_mul l4 l2
  have hm2 : q * S' ≤ 1000 * 1000 := Nat.mul_le_mul hq l1
  have hm3 : d' * S' ≤ 1000 * 1000 := Nat.mul_le_mul l3 l1
  have e1 : (nI q - nI d') * nI S' = nI (q * S') - nI (d' * S') := by rw [← pk_mul, ← pk_mul]; grind
  rw [e1, pk_mul, Int32.le_iff_toInt_le, pk_sub_toInt (by omega) (by omega), nI_toInt (by omega)]
  rcases Nat.eq_zero_or_pos S' with e | e
  · subst e
    rw [Nat.mul_zero, Nat.mul_zero]
    exact ⟨fun _ => Or.inl rfl, fun _ => by omega⟩
  · have key : q ≤ d' + C' * F' / S' ↔ q * S' ≤ d' * S' + C' * F' := by
      rw [← Nat.le_div_iff_mul_le e, Nat.add_comm (d' * S'), Nat.add_mul_div_right _ _ e, Nat.add_comm]
    constructor
    · intro z
      exact Or.inr (key.mpr (by omega))
    · rintro (z | z)
      · omega
      · have := key.mp z
        omega
theorem sh_old {p w g : Nat} (hg : 12 ≤ g) (hg2 : g < 24) : mSh μ p w (nI g) = nI 0 := Rel.sh0 (fun q => by have := (nI_leI (by omega) (by decide)).mp q.2; omega)
theorem move_q (h : Rel σ μ) {w m f : Nat} (hw : w < 10) (hf : f < 10) (hm : m < 24) (hcw : 0 < ctf (kd σ w)) (hcf : 0 < ctf (kd σ f)) : cMove σ w m f = nI (mMoveQ μ w m f) ∧ mMoveQ μ w m f ≤ 1000 := by
  have h10 := h.wc.n10
  unfold cMove mMoveQ
  rw [← h.cnt hf hm, h.sgn hw, h.draw hw hm, h.ct1 hw hcw]
  by_cases c : own σ w m
  · rw [if_pos c, if_pos c]
    obtain ⟨b, b1, b2, b3⟩ := move_all h hw hf hm hcf
    rw [b2]
    have : down (fun q => decide (mMay μ w f (24 - m) (1 * nI q - 1 * σ 20 (w * 24 + m)) (cCnt σ f m))) 1000 = b := by
      refine down_thr b1 (fun q q0 q1 => ?_)
      rw [b3, decide_eq_true_iff]
      unfold mMay
      rw [← h.N, Int32.one_mul, Int32.one_mul]
      constructor
      · intro z
        exact ⟨q1, fun p hp g hg => (may_one h hw hf (by omega) hm (by omega) hcf q1).mp (z p hp g (by omega))⟩
      · rintro ⟨-, z⟩ p hp g hg
        by_cases c12 : g < 12
        · exact (may_one h hw hf (by omega) hm c12 hcf q1).mpr (z p hp g (by omega))
        · rw [sh_old (by omega) (by omega), sh_old (by omega) (by omega), nI00, Int32.mul_zero, Int32.mul_zero]
          exact Int32.le_refl _
    rw [this]
    exact ⟨rfl, b1⟩
  · rw [if_neg c, if_neg c]
    have : down (fun q => decide (mMay μ w f (24 - m) (nI 0 * nI q - nI 0 * σ 20 (w * 24 + m)) (cCnt σ f m))) 1000 = 1000 := by
      refine down_thr (Nat.le_refl _) (fun q q0 q1 => ?_)
      rw [decide_eq_true_iff]
      refine ⟨fun _ => q1, fun _ p hp g hg => ?_⟩
      rw [← h.N] at hp
      rw [nI00, Int32.zero_mul, Int32.zero_mul, Int32.sub_zero, Int32.zero_mul]
      by_cases c12 : g < 12
      · have r2 := rwN_228 h.wc (a := p) (b := f) (by omega) hf
        rw [h.sh (by omega) hf c12]
        have n2 := h.fB (k := rwN σ p f + g) (by omega)
        have n4 := h.cntN hf hm hcf
        rw [n2.1, n4.1, pk_mul]
        have := Nat.mul_le_mul n4.2 n2.2
        exact nI_pos' (by omega)
      · rw [sh_old (by omega) (by omega), nI00, Int32.mul_zero]
        exact Int32.le_refl _
    rw [this]
    exact ⟨rfl, Nat.le_refl _⟩
theorem e_move (h : Rel σ μ) (w m f : Int32) : EQ (cfMove σ w m f) (mfMove μ w m f) := by
  refine EQ.ite (and_congr (h.iw w) (and_congr (h.iw f) Iff.rfl)) (fun c => ?_) (fun _ => relF h _)
  have hw := (h.ix c.1).1
  have hf := (h.ix c.2.1).1
  have hm : tn m < 24 := by have := (ix_R (by decide) c.2.2.2).1; omega
  refine EQ.ite (and_congr (h.pos hw) (h.pos hf)) (fun c2 => ?_) (fun _ => relF h _)
  have hq := move_q h hw hf hm c2.1 c2.2
  unfold mMove
  rw [hq.1]
  refine ⟨rfl, ?_⟩
  exact (h.setD hw hm ⟨nI_le (by omega) (by omega), nI_le hq.2 (by decide)⟩).setD hf hm ⟨nI_le (by omega) (by omega), nI_le (by omega) (by decide)⟩
end
