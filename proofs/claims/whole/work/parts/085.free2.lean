theorem Nb.addN {x y : Int32} {A B : Nat} (hb : A + B < 2000000) (h : Nb x A) (h2 : Nb y B) : Nb (x + y) (A + B) := by
  have e : x + y = nI (x.toNatClampNeg + y.toNatClampNeg) := by rw [← nI_add, ← h.1, ← h2.1]
  have a := h.2
  have b := h2.2
  rw [e]
  refine ⟨by rw [nI_clamp (by omega)], by rw [nI_clamp (by omega)]; omega⟩
theorem Nb.le {x : Int32} {A B : Nat} (h : Nb x A) (hb : A ≤ B) : Nb x B := ⟨h.1, Nat.le_trans h.2 hb⟩
theorem Nb.z {B : Nat} : Nb 0 B := ⟨rfl, Nat.zero_le _⟩
theorem nb_sm {g : Nat → Int32} {lo B : Nat} : ∀ {n : Nat}, (∀ i, lo ≤ i → i < lo + n → Nb (g i) B) → n * B < 2000000 → Nb (sm g lo n) (n * B)
  | 0, _, _ => Nb.z
  | n + 1, h, hb => by
    rw [Nat.succ_mul] at hb ⊢
    exact Nb.addN hb (nb_sm (n := n) (fun i h1 h2 => h i h1 (by omega)) (by omega)) (h _ (by omega) (by omega))
def onS (σ : St) (p n w i : Nat) : Int32 := if own σ w i then σ 9 (rwN σ p w + n - i) else 0
theorem cOne_sm (σ : St) (p n w fr : Nat) : cOne σ p n w fr = sm (onS σ p n w) (lo12 fr n) (n + 1 - lo12 fr n) := by
  unfold cOne
  rw [it_sm (f := fOne σ p n w) (g := onS σ p n w), nI00, Int32.zero_add]
  intro i a _ _
  unfold fOne onS
  split
  · rfl
  · rw [Int32.add_zero]
/-- nothing that heads are made of differs -/
def Hat (σ τ : St) : Prop := (∀ k, k < 16 → k ≠ 11 → τ k = σ k) ∧ τ 20 = σ 20 ∧ τ 21 = σ 21
section
variable {σ τ μ ν : St}
theorem Hat.dif (h : Hat σ τ) (s : Nat) : Dif s σ τ := ⟨h.1, h.2.2, fun w i _ _ => by rw [h.2.1]⟩
theorem hat_n (h : Hat σ τ) : nW τ = nW σ := by unfold nW; rw [h.1 2 (by decide) (by decide)]
theorem hat_abv (h : Hat σ τ) (hN : nW σ ≤ 10) {p n : Nat} (hn : n < 24) : cAbv τ p n = cAbv σ p n := by
  have hd := h.dif 10
  have e1 := hat_n h
  have e2 := dif_rain hd n
  have e3 := dif_heads hd (p := p) hn (σ 6 p + cRain σ n) (nW σ)
  rw [if_neg (by omega), Int32.sub_zero] at e3
  unfold cAbv cHead
  rw [e1, e2, h.1 6 (by decide) (by decide), h.1 7 (by decide) (by decide), e3]
theorem dif_one {s : Nat} (hd : Dif s σ τ) (p n w fr : Nat) : cOne τ p n w fr = cOne σ p n w fr := by
  rw [cOne_sm, cOne_sm]
  refine sm_cong (fun i _ _ => ?_)
  unfold onS own
  rw [dif_rw hd, hd.1 3 (by decide) (by decide), hd.1 9 (by decide) (by decide)]
theorem Rel.one (h : Rel σ μ) {p n w fr : Nat} (hp : p < 10) (hw : w < 10) (hn : n < 24) (hfr : fr ≤ n) (hc : ctf (kd σ w) = 1) : mOne μ p n w fr = cOne σ p n w fr := by
  have hlo : lo12 fr n = max fr (n - 11) := rfl
  rw [cOne_sm]
  unfold mOne
  rw [show n + 1 - fr = (lo12 fr n - fr) + (n + 1 - lo12 fr n) by omega, sm_split, sm_zero (n := lo12 fr n - fr) (fun i h1 h2 => by rw [sh_old (by omega) (by omega), nI00, Int32.mul_zero]), Int32.zero_add, show fr + (lo12 fr n - fr) = lo12 fr n by omega]
  refine sm_cong (fun i h1 h2 => ?_)
  rw [h.sgn hw, h.sh hp hw (by omega), hc, show rwN σ p w + (n - i) = rwN σ p w + n - i by omega]
  unfold onS
  split
  · rw [Int32.one_mul]
  · rw [nI00, Int32.zero_mul]
theorem Rel.oneB (h : Rel σ μ) {p n w fr : Nat} (hp : p < 10) (hw : w < 10) (hn : n < 24) : Nb (cOne σ p n w fr) 12000 := by
  have hlo : lo12 fr n = max fr (n - 11) := rfl
  have r := rwN_228 h.wc hp hw
  have h12 : n + 1 - lo12 fr n ≤ 12 := by omega
  have h13 := Nat.mul_le_mul_right 1000 h12
  rw [cOne_sm]
  refine Nb.le (nb_sm (B := 1000) (fun i h1 h2 => ?_) (by omega)) (by omega)
  unfold onS
  split
  · exact h.fB (by omega)
  · exact Nb.z
theorem down_cong {p q : Nat → Bool} : ∀ {n : Nat}, (∀ k, k ≤ n → p k = q k) → down p n = down q n
  | 0, _ => rfl
  | n + 1, h => by rw [down, down, h (n + 1) (Nat.le_refl _), down_cong (fun k hk => h k (by omega))]
/-- free is alike: σ and μ as the relation has them, τ and ν as the run has them -/
theorem free_eq (h : Rel σ μ) (ht : Hat σ τ) (hv : Lo μ ν) (hm : WM ν) {w fr : Nat} (hw : w < 10) (hfr : fr < 24) (h22 : ∀ p n, p < nW σ → fr ≤ n → n < 24 → τ 22 (p * 24 + n) = cAbv σ p n) (hc : 0 < ctf (kd σ w)) : ∃ b, b ≤ 1000 ∧ cFree τ w fr = nI b ∧ mFree ν w fr = (nI b, mFill ν w fr) := by
  have h10 := h.wc.n10
  have hc1 := h.ct1 hw hc
  have hd := ht.dif 10
  have hfil := fill_at hm hw hfr
  have hkv : mKind ν w ≤ nI 2 := by rw [lo_kind hv hw]; exact (h.pos hw).mp hc
  have hnN : mN ν = nW σ := by rw [lo_n hv, h.N]
  obtain ⟨b, b1, b2, b3⟩ := free_thr (A := fun p n => τ 22 (p * 24 + n)) (O := fun p n => cOne τ p n w fr) (N := nW σ) hfr (fun p n a1 a2 a3 => by
    show Ab (τ 22 (p * 24 + n)) 140000000
    rw [h22 p n a1 a3 a2]
    exact (h.abvB (by omega) a2).le (by decide)) (fun p n a1 a2 a3 => by
    show Nb (cOne τ p n w fr) 12000
    rw [dif_one hd]
    exact h.oneB (by omega) hw a2)
  refine ⟨b, b1, ?_, ?_⟩
  · unfold cFree
    rw [if_pos (by rw [dif_kd hd]; exact hc), hat_n ht]
    exact b2
  · unfold mFree
    rw [if_pos hkv]
    have e : mFreeQ (mFill ν w fr) fr = b := by
      rw [← b3]
      unfold mFreeQ
      refine down_cong (fun q _ => decide_eq_decide.mpr ?_)
      have hn2 : mN (mFill ν w fr) = nW σ := by
        rw [← hnN]
        unfold mN
        rw [hfil.1 1 (by decide) (by decide)]
      unfold mIsF
      rw [hn2]
      refine forall_congr' (fun p => forall_congr' (fun hp => forall_congr' (fun i => forall_congr' (fun hi => ?_))))
      have hh := hfil.2 p (fr + i) ⟨by rw [hnN]; exact hp, by omega⟩ (by omega) (by omega)
      unfold okF
      rw [hh.1, hh.2, lo_abv hv h.wm (by omega) (by omega), lo_one hv h.wm (by omega) hw, h.abv (by omega) (by omega), h.one (by omega) hw (by omega) (by omega) hc1]
      show _ ↔ (if τ 22 (p * 24 + (fr + i)) < 0 then cOne τ p (fr + i) w fr ≤ 0 else 0 ≤ τ 22 (p * 24 + (fr + i)) - nI q * cOne τ p (fr + i) w fr)
      rw [h22 p (fr + i) hp (by omega) (by omega), dif_one hd]
    rw [e]
/-- row 22 as it should be, at the places of G -/
def Fsp (σ : St) (G : Nat → Nat → Prop) (τ : St) : Prop := (∀ j, j ≠ 22 → τ j = σ j) ∧ ∀ p n, G p n → n < 24 → τ 22 (p * 24 + n) = cAbv σ p n
theorem fsp_h (hN : nW σ ≤ 10) {fr p : Nat} {G : Nat → Nat → Prop} (h : Fsp σ G τ) : ∀ k, k ≤ 24 - fr → Fsp σ (fun a b => G a b ∨ (a = p ∧ fr ≤ b ∧ b < fr + k)) (it (fFsp p) fr k τ)
  | 0, _ => ⟨h.1, fun a b q hb => h.2 a b (q.elim (fun z => z) (fun z => absurd z.2.2 (by omega))) hb⟩
  | k + 1, hk => by
    have ih := fsp_h hN (fr := fr) (p := p) h k (by omega)
    rw [it]
    generalize it (fFsp p) fr k τ = x at *
    have hx : Hat σ x := ⟨fun j hj _ => ih.1 j (by omega), ih.1 20 (by decide), ih.1 21 (by decide)⟩
    unfold fFsp
    refine ⟨fun j hj => (wr_ne hj).trans (ih.1 j hj), fun a b q hb => ?_⟩
    by_cases c : a = p ∧ b = fr + k
    · rw [c.1, c.2, wr_in]
      exact hat_abv hx hN (by omega)
    · rw [wr_out (by omega)]
      refine ih.2 a b ?_ hb
      rcases q with q | q
      · exact Or.inl q
      · exact Or.inr ⟨q.1, q.2.1, by omega⟩
theorem fsp_f (hN : nW σ ≤ 10) {fr : Nat} : ∀ k, Fsp σ (fun a b => a < k ∧ fr ≤ b) (it0 (gFsp fr) k σ)
  | 0 => ⟨fun _ _ => rfl, fun p n q _ => absurd q.1 (Nat.not_lt_zero _)⟩
  | k + 1 => by
    rw [it0]
    have h1 := fsp_f hN (fr := fr) k
    have h2 := fsp_h hN (fr := fr) (p := k) h1 (24 - fr) (Nat.le_refl _)
    unfold gFsp
    refine ⟨h2.1, fun a b q hb => h2.2 a b ?_ hb⟩
    by_cases c : a = k
    · exact Or.inr ⟨c, q.2, by omega⟩
    · exact Or.inl ⟨by omega, q.2⟩
theorem fsp_at (hN : nW σ ≤ 10) (fr : Nat) : Fsp σ (fun a b => a < nW σ ∧ fr ≤ b) (cFsp σ fr) := fsp_f hN (nW σ)
theorem Fsp.hat {G : Nat → Nat → Prop} (h : Fsp σ G τ) : Hat σ τ := ⟨fun j hj _ => h.1 j (by omega), h.1 20 (by decide), h.1 21 (by decide)⟩
theorem e_free (h : Rel σ μ) (w m : Int32) : EQ (cfFree σ w m) (mfFree μ w m) := by
  refine EQ.ite (and_congr (h.iw w) Iff.rfl) (fun c => ?_) (fun _ => relF h _)
  have hw := (h.ix c.1).1
  have hm : tn m < 24 := by have := (ix_R (by decide) c.2).1; omega
  have hf := fsp_at h.wc.n10 (tn m)
  generalize tn w = w at *
  generalize tn m = m at *
  have hr : ∀ ν : St, (∀ j, j ≠ 7 → j ≠ 8 → ν j = μ j) → Rel (cFsp σ m) ν := fun ν hν => h.scr (fun k _ a => hf.1 k a) (fun k hk => hν k (by omega) (by omega))
  by_cases hc : 0 < ctf (kd σ w)
  · obtain ⟨b, b1, b2, b3⟩ := free_eq h hf.hat (Lo.of1 rfl) h.wm hw hm (fun p n a1 a2 a3 => hf.2 p n ⟨a1, a2⟩ a3) hc
    rw [b2, b3]
    exact ⟨rfl, hr _ (fill_at h.wm hw hm).1⟩
  · unfold cFree mFree
    rw [if_neg (by rw [dif_kd (hf.hat.dif 10)]; exact hc), if_neg (fun z => hc ((h.pos hw).mpr z))]
    exact ⟨rfl, hr _ (fun _ _ _ => rfl)⟩
end
