/-- the reference's heads are made of the row 'now' below 1087 -/
def Lo (μ τ : St) : Prop := ∀ J, J < 1087 → τ 1 J = μ 1 J
section
variable {μ τ : St}
theorem Lo.of1 (h : τ 1 = μ 1) : Lo μ τ := fun J _ => by rw [h]
theorem lo_kind (e : Lo μ τ) {w : Nat} (hw : w < 10) : mKind τ w = mKind μ w := e _ (by omega)
theorem lo_n (e : Lo μ τ) : mN τ = mN μ := by unfold mN; rw [e 1086 (by decide)]
theorem lo_ap (e : Lo μ τ) {a b : Nat} (ha : a < 10) (hb : b < 10) : mapN τ a b = mapN μ a b := by
  unfold mapN mAp
  rw [e (0 + 5 * a + 1) (by omega), e (0 + 5 * b + 1) (by omega), e (0 + 5 * a + 2) (by omega), e (0 + 5 * b + 2) (by omega)]
theorem lo_sh (e : Lo μ τ) (hm : WM μ) {a b : Nat} (ha : a < 10) (hb : b < 10) (g : Int32) : mSh τ a b g = mSh μ a b g := by
  have h1 : mly τ a b = mly μ a b := by unfold mly; rw [lo_kind e ha, lo_kind e hb]
  have h2 := mly_1 μ a b
  have h3 := mapN_9 hm ha hb
  unfold mSh
  rw [h1, lo_ap e ha hb]
  by_cases c : isR g 11
  · rw [if_pos c, if_pos c]
    have := (ix_R (by decide) c).1
    exact e _ (by omega)
  · rw [if_neg c, if_neg c]
theorem lo_sgn (e : Lo μ τ) {w : Nat} (hw : w < 10) (m : Nat) : mSgn τ w m = mSgn μ w m := by unfold mSgn; rw [lo_kind e hw]
theorem lo_dr (e : Lo μ τ) {w m : Nat} (hw : w < 10) (hm : m < 24) : mDr τ w m = mDr μ w m := e _ (by omega)
theorem lo_low (e : Lo μ τ) (hm : WM μ) {p n w fr : Nat} (hp : p < 10) (hw : w < 10) (hfr : fr ≤ 24) : mLow τ p n w fr = mLow μ p n w fr := by
  unfold mLow
  refine it_cong (fun i a h1 h2 => ?_)
  unfold fmLow
  rw [lo_sgn e hw, lo_dr e hw (by omega), lo_sh e hm hp hw]
theorem lo_rain (e : Lo μ τ) {n : Nat} (hn : n < 24) : mRain τ n = mRain μ n := by
  unfold mRain
  refine it0_cong (fun i a h1 => ?_)
  unfold fmRain
  rw [e (542 + i) (by omega), e (530 + n - i) (by omega)]
theorem lo_heads (e : Lo μ τ) (hm : WM μ) {p n : Nat} (hp : p < 10) {k : Nat} (hk : k ≤ 10) (z : Int32) : it0 (fmHead τ p n) k z = it0 (fmHead μ p n) k z := by
  refine it0_cong (fun i a h1 => ?_)
  unfold fmHead
  rw [lo_low e hm hp (by omega) (by decide)]
theorem lo_abv (e : Lo μ τ) (hm : WM μ) {p n : Nat} (hp : p < 10) (hn : n < 24) : mAbv τ p n = mAbv μ p n := by
  have h1 := lo_n e
  have h2 := lo_rain e hn
  have h3 := e (0 + 5 * p + 3) (by omega)
  have h4 := e (0 + 5 * p + 4) (by omega)
  have h5 := lo_heads e hm hp hm.n10 (n := n) (μ 1 (0 + 5 * p + 3) + mRain μ n)
  unfold mAbv mHead
  rw [h1, h2, h3, h4, h5]
/-- what a unit more of the well w lowers at p in month n, in the reference's sum -/
def mOne (μ : St) (p n w fr : Nat) : Int32 := sm (fun m => mSgn μ w m * mSh μ p w (nI (n - m))) fr (n + 1 - fr)
theorem lo_one (e : Lo μ τ) (hm : WM μ) {p n w fr : Nat} (hp : p < 10) (hw : w < 10) : mOne τ p n w fr = mOne μ p n w fr := by
  unfold mOne
  exact sm_cong (fun i h1 h2 => by rw [lo_sgn e hw, lo_sh e hm hp hw])
theorem tk_in (w p n fr : Nat) (τ : St) : ∀ k, (∀ j, j ≠ 8 → it (fTk w p n) fr k τ j = τ j) ∧ (∀ j, j ≠ 24 * p + n → it (fTk w p n) fr k τ 8 j = τ 8 j) ∧ it (fTk w p n) fr k τ 8 (24 * p + n) = τ 8 (24 * p + n) + sm (fun m => mSgn τ w m * mSh τ p w (nI (n - m))) fr k
  | 0 => ⟨fun _ _ => rfl, fun _ _ => rfl, (Int32.add_zero _).symm⟩
  | k + 1 => by
    have ih := tk_in w p n fr τ k
    rw [it, sm]
    generalize it (fTk w p n) fr k τ = x at *
    have e1 : mSgn x w (fr + k) = mSgn τ w (fr + k) := by unfold mSgn mKind; rw [ih.1 1 (by decide)]
    have e2 : mSh x p w (nI (n - (fr + k))) = mSh τ p w (nI (n - (fr + k))) := by unfold mSh mly mapN mAp mKind; rw [ih.1 1 (by decide)]
    unfold fTk
    refine ⟨fun j hj => (wr_ne hj).trans (ih.1 j hj), fun j hj => (wr_out hj).trans (ih.2.1 j hj), ?_⟩
    rw [wr_in, ih.2.2, e1, e2, Int32.add_assoc]
theorem tk_at (w p n fr : Nat) (τ : St) : (∀ j, j ≠ 7 → j ≠ 8 → gTk w fr p n τ j = τ j) ∧ (∀ j, j ≠ 24 * p + n → gTk w fr p n τ 7 j = τ 7 j ∧ gTk w fr p n τ 8 j = τ 8 j) ∧ gTk w fr p n τ 7 (24 * p + n) = mAbv τ p n ∧ gTk w fr p n τ 8 (24 * p + n) = mOne τ p n w fr := by
  unfold gTk
  have h := tk_in w p n fr (wr (wr τ 7 (24 * p + n) (mAbv τ p n)) 8 (24 * p + n) (nI 0)) (n + 1 - fr)
  refine ⟨fun j h7 h8 => ?_, fun j hj => ⟨?_, ?_⟩, ?_, ?_⟩
  · rw [h.1 j h8, wr_ne h8, wr_ne h7]
  · rw [h.1 7 (by decide), wr_ne (by decide), wr_out hj]
  · rw [h.2.1 j hj, wr_out hj, wr_ne (by decide)]
  · rw [h.1 7 (by decide), wr_ne (by decide), wr_in]
  · rw [h.2.2, wr_in, nI00, Int32.zero_add]
    unfold mOne
    refine sm_cong (fun i h1 h2 => ?_)
    have e1 : mSgn (wr (wr τ 7 (24 * p + n) (mAbv τ p n)) 8 (24 * p + n) 0) w i = mSgn τ w i := by unfold mSgn mKind; rw [wr_ne (by decide), wr_ne (by decide)]
    have e2 : mSh (wr (wr τ 7 (24 * p + n) (mAbv τ p n)) 8 (24 * p + n) 0) p w (nI (n - i)) = mSh τ p w (nI (n - i)) := by unfold mSh mly mapN mAp mKind; rw [wr_ne (by decide), wr_ne (by decide)]
    rw [e1, e2]
/-- rows 7 and 8 as they should be, at the places of G -/
def Fil (μ : St) (w fr : Nat) (G : Nat → Nat → Prop) (τ : St) : Prop := (∀ j, j ≠ 7 → j ≠ 8 → τ j = μ j) ∧ ∀ p n, G p n → p < 10 → n < 24 → τ 7 (24 * p + n) = mAbv μ p n ∧ τ 8 (24 * p + n) = mOne μ p n w fr
theorem fil_g (hm : WM μ) {w fr p n : Nat} {G : Nat → Nat → Prop} (hw : w < 10) (hp : p < 10) (hn : n < 24) (h : Fil μ w fr G τ) : Fil μ w fr (fun a b => G a b ∨ (a = p ∧ b = n)) (gTk w fr p n τ) := by
  have t := tk_at w p n fr τ
  have e : Lo μ τ := Lo.of1 (h.1 1 (by decide) (by decide))
  refine ⟨fun j a b => (t.1 j a b).trans (h.1 j a b), fun a b hab ha hb => ?_⟩
  by_cases c : a = p ∧ b = n
  · rw [c.1, c.2, t.2.2.1, t.2.2.2, lo_abv e hm hp hn, lo_one e hm hp hw]
    exact ⟨rfl, rfl⟩
  · have h1 := t.2.1 (24 * a + b) (by omega)
    rw [h1.1, h1.2]
    exact h.2 a b (hab.elim (fun z => z) (fun z => absurd z c)) ha hb
theorem Fil.mono {w fr : Nat} {G H : Nat → Nat → Prop} (h : Fil μ w fr G τ) (hg : ∀ a b, H a b → a < 10 → b < 24 → G a b) : Fil μ w fr H τ := ⟨h.1, fun p n q hp hn => h.2 p n (hg p n q hp hn) hp hn⟩
theorem fil_h (hm : WM μ) {w fr p : Nat} {G : Nat → Nat → Prop} (hw : w < 10) (hp : p < 10) (h : Fil μ w fr G τ) : ∀ k, k ≤ 24 - fr → Fil μ w fr (fun a b => G a b ∨ (a = p ∧ fr ≤ b ∧ b < fr + k)) (it (gTk w fr p) fr k τ)
  | 0, _ => h.mono (fun a b q _ _ => q.elim (fun z => z) (fun z => absurd z.2.2 (by omega)))
  | k + 1, hk => by
    rw [it]
    have h1 := fil_h hm hw hp h k (by omega)
    have h2 := fil_g hm hw hp (show fr + k < 24 by omega) h1
    refine h2.mono (fun a b q _ _ => ?_)
    rcases q with q | q
    · exact Or.inl (Or.inl q)
    · by_cases c : b = fr + k
      · exact Or.inr ⟨q.1, c⟩
      · exact Or.inl (Or.inr ⟨q.1, q.2.1, by omega⟩)
theorem fil_f (hm : WM μ) {w fr : Nat} (hw : w < 10) (hfr : fr < 24) : ∀ k, k ≤ 10 → Fil μ w fr (fun a b => a < k ∧ fr ≤ b) (it0 (hTk w fr) k μ)
  | 0, _ => ⟨fun _ _ _ => rfl, fun p n q _ _ => absurd q.1 (Nat.not_lt_zero _)⟩
  | k + 1, hk => by
    rw [it0]
    have h1 := fil_f hm hw hfr k (by omega)
    have h2 := fil_h hm hw (show k < 10 by omega) h1 (24 - fr) (Nat.le_refl _)
    unfold hTk
    refine h2.mono (fun a b q _ hb => ?_)
    by_cases c : a = k
    · exact Or.inr ⟨c, q.2, by omega⟩
    · exact Or.inl ⟨by omega, q.2⟩
theorem fill_at (hm : WM μ) {w fr : Nat} (hw : w < 10) (hfr : fr < 24) : Fil μ w fr (fun a b => a < mN μ ∧ fr ≤ b) (mFill μ w fr) := fil_f hm hw hfr (mN μ) hm.n10
end
/-- the least of quotients, and the greatest amount that none forbids -/
def Rf (A O : Nat → Nat → Int32) (p n q : Nat) : Prop := tn (O p n) = 0 ∨ q ≤ tn (A p n) / tn (O p n)
theorem free_one {a o : Int32} {q : Nat} (ha : Ab a 140000000) (ho : Nb o 12000) (hq : q ≤ 1000) (hq0 : 0 < q) : (if a < 0 then o ≤ 0 else 0 ≤ a - nI q * o) ↔ (tn o = 0 ∨ q ≤ tn a / tn o) := by
  obtain ⟨o1, o2⟩ := ho
  show (if a < 0 then o ≤ 0 else 0 ≤ a - nI q * o) ↔ (o.toNatClampNeg = 0 ∨ q ≤ a.toNatClampNeg / o.toNatClampNeg)
  generalize o.toNatClampNeg = d at *
  subst o1
  by_cases c : a < 0
  · rw [if_pos c]
    have h0 : a.toNatClampNeg = 0 := by
      have := Int32.lt_iff_toInt_lt.mp c
      rw [Int32.toInt_zero] at this
      show a.toInt.toNat = 0
      omega
    rw [h0, Nat.zero_div]
    constructor
    · intro z; exact Or.inl (nI_le0 (by omega) z)
    · rintro (z | z)
      · rw [z]; exact Int32.le_refl _
      · omega
  · rw [if_neg c]
    obtain ⟨b, hb, rfl⟩ := nI_of c
    unfold Ab at ha
    rw [nI_toInt hb] at ha
    rw [nI_clamp hb, pk_mul]
    have h1 : q * d ≤ 1000 * 12000 := Nat.mul_le_mul hq o2
    rw [Int32.le_iff_toInt_le, pk_sub_toInt (by omega) (by omega), Int32.toInt_zero]
    rcases Nat.eq_zero_or_pos d with e | e
    · subst e
      rw [Nat.mul_zero]
      exact ⟨fun _ => Or.inl rfl, fun _ => by omega⟩
    · rw [Nat.le_div_iff_mul_le e]
      exact ⟨fun z => Or.inr (by omega), fun z => by omega⟩
theorem free_step {a o : Int32} {c : Nat} (ha : Ab a 140000000) (ho : Nb o 12000) (hc : c ≤ 1000) : ∃ b, b ≤ 1000 ∧ (if o ≤ 0 then nI c else mn (nI c) (mx (nI 0) a / o)) = nI b ∧ ∀ q, q ≤ b ↔ (q ≤ c ∧ (tn o = 0 ∨ q ≤ tn a / tn o)) := by
  obtain ⟨o1, o2⟩ := ho
  show ∃ b, b ≤ 1000 ∧ (if o ≤ 0 then nI c else mn (nI c) (mx (nI 0) a / o)) = nI b ∧ ∀ q, q ≤ b ↔ (q ≤ c ∧ (o.toNatClampNeg = 0 ∨ q ≤ a.toNatClampNeg / o.toNatClampNeg))
  generalize o.toNatClampNeg = d at *
  subst o1
  rcases Nat.eq_zero_or_pos d with e | e
  · subst e
    rw [if_pos (show nI 0 ≤ 0 from Int32.le_refl _)]
    exact ⟨c, hc, rfl, fun q => ⟨fun z => ⟨z, Or.inl rfl⟩, fun z => z.1⟩⟩
  · have hx : mx (nI 0) a = nI a.toNatClampNeg ∧ a.toNatClampNeg < 2 ^ 31 := by
      by_cases c2 : a < 0
      · have h0 : a.toNatClampNeg = 0 := by
          have := Int32.lt_iff_toInt_lt.mp c2
          rw [Int32.toInt_zero] at this
          show a.toInt.toNat = 0
          omega
        rw [h0]
        unfold mx
        rw [if_neg (show ¬ nI 0 < a from Int32.not_lt.mpr (Int32.le_of_lt c2))]
        exact ⟨rfl, by decide⟩
      · obtain ⟨b, hb, rfl⟩ := nI_of c2
        rw [nI_clamp hb, mx_nI (by decide) hb, Nat.max_eq_right (Nat.zero_le _)]
        exact ⟨rfl, hb⟩
    have hdv := Nat.div_le_self a.toNatClampNeg d
    rw [if_neg (nI_nle e (by omega)), hx.1, pk_div hx.2 e (by omega)]
    obtain ⟨b, b1, b2, b3⟩ := mn_step hc (v := a.toNatClampNeg / d) (by have := hx.2; omega)
    refine ⟨b, b1, b2, fun q => ?_⟩
    rw [b3]
    exact and_congr Iff.rfl ⟨Or.inr, fun z => z.elim (fun z => absurd z (by omega)) (fun z => z)⟩
theorem free_thr {A O : Nat → Nat → Int32} {N fr : Nat} (hfr : fr < 24) (hA : ∀ p n, p < N → n < 24 → fr ≤ n → Ab (A p n) 140000000) (hO : ∀ p n, p < N → n < 24 → fr ≤ n → Nb (O p n) 12000) : ∃ b, b ≤ 1000 ∧ it0 (fun p a => it (fun n a => if O p n ≤ 0 then a else mn a (mx (nI 0) (A p n) / O p n)) fr (24 - fr) a) N (nI 1000) = nI b ∧ down (fun q => decide (∀ p, p < N → ∀ i, i < 24 - fr → (if A p (fr + i) < 0 then O p (fr + i) ≤ 0 else 0 ≤ A p (fr + i) - nI q * O p (fr + i)))) 1000 = b := by
  obtain ⟨b, b1, b2, b3⟩ := mins0 (f := fun p a => it (fun n a => if O p n ≤ 0 then a else mn a (mx (nI 0) (A p n) / O p n)) fr (24 - fr) a) (R := fun p q => ∀ i, i < 24 - fr → Rf A O p (fr + i) q) (a := 1000) (Nat.le_refl _) N (fun p c hp hc => by
    show ∃ b, b ≤ 1000 ∧ it (fun n a => if O p n ≤ 0 then a else mn a (mx (nI 0) (A p n) / O p n)) fr (24 - fr) (nI c) = nI b ∧ _
    rw [it_it0]
    exact mins0 (R := fun i q => Rf A O p (fr + i) q) hc _ (fun i c hi hc => free_step (hA p (fr + i) hp (by omega) (by omega)) (hO p (fr + i) hp (by omega) (by omega)) hc))
  refine ⟨b, b1, b2, down_thr b1 (fun q q0 q1 => ?_)⟩
  rw [b3, decide_eq_true_iff]
  constructor
  · intro z
    exact ⟨q1, fun p hp i hi => (free_one (hA p (fr + i) hp (by omega) (by omega)) (hO p (fr + i) hp (by omega) (by omega)) q1 q0).mp (z p hp i hi)⟩
  · rintro ⟨-, z⟩ p hp i hi
    exact (free_one (hA p (fr + i) hp (by omega) (by omega)) (hO p (fr + i) hp (by omega) (by omega)) q1 q0).mpr (z p hp i hi)
