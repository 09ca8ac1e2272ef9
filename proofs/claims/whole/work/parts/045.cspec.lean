theorem bI_t {c : Prop} [Decidable c] (h : c) : bI c = nI 1 := by rw [bI, if_pos h]; decide
theorem bI_f {c : Prop} [Decidable c] (h : ¬ c) : bI c = nI 0 := by rw [bI, if_neg h]; decide
/-- n times, from lo on -/
def it {α : Type} (f : Nat → α → α) (lo : Nat) : Nat → α → α
  | 0, x => x
  | n + 1, x => f (lo + n) (it f lo n x)
def it0 {α : Type} (f : Nat → α → α) : Nat → α → α
  | 0, x => x
  | n + 1, x => f n (it0 f n x)
/-- a loop that counts up: P at its end, and a step back -/
theorem up_loop (P : Nat → Prop) {lo hi : Nat} (hlo : lo ≤ hi) (he : P hi) (hs : ∀ i, lo ≤ i → i < hi → P (i + 1) → P i) : P lo := by
  have h : ∀ d i, i + d = hi → lo ≤ i → P i := by
    intro d
    induction d with
    | zero => intro i h _; rw [show i = hi by omega]; exact he
    | succ d ih => intro i h h2; exact hs i h2 (by omega) (ih (i + 1) (by omega) (by omega))
  exact h (hi - lo) lo (by omega) (Nat.le_refl _)
theorem S_ent {E : ET} {σ μ : St} {s : Nat} (h : s < 4) : ent E σ μ (46 + s) = .inr (2, [.int (σ (46 + s) 0), .int (σ (46 + s) 1), .ref (adr E (50 + s))]) := by
  rcases (show s = 0 ∨ s = 1 ∨ s = 2 ∨ s = 3 by omega) with rfl | rfl | rfl | rfl <;> rfl
theorem S_lt {s : Nat} (h : s < 4) : 46 + s < 65 := by omega
theorem S_lt54 {s : Nat} (h : s < 4) : 46 + s < 54 := by omega
theorem S_put0 {E : ET} {σ μ : St} {s : Nat} {x : Int32} (h : s < 4) : ent E (wr σ (46 + s) 0 x) μ (46 + s) = .inr (2, [.int (σ (46 + s) 0), .int (σ (46 + s) 1), .ref (adr E (50 + s))].set 0 (.int x)) := by
  rw [S_ent h]; simp [wr]
theorem S_put1 {E : ET} {σ μ : St} {s : Nat} {x : Int32} (h : s < 4) : ent E (wr σ (46 + s) 1 x) μ (46 + s) = .inr (2, [.int (σ (46 + s) 0), .int (σ (46 + s) 1), .ref (adr E (50 + s))].set 1 (.int x)) := by
  rw [S_ent h]; simp [wr]
theorem S_rcv {s : Nat} {M : MT} (h : s < 4) (hM : M.1.cls = RX2) : rcv (46 + s) M := ⟨by omega, 2, _, rfl, hM.symm, fun _ _ _ => ⟨_, S_ent h⟩⟩
theorem v_leq_0 {X : XT} {E : ET} {pc : Nat} {L : List (Option Value)} {st : List Value} {σ μ : St} {x y : Int32} (h : x = y) (k : V X E pc (some (.int y) :: L) st σ μ) : V X E pc (some (.int x) :: L) st σ μ := h ▸ k
theorem v_leqJ_0 {X : XT} {E : ET} {pc : Nat} {L : List (Option Value)} {st : List Value} {σ μ : St} {x y : Int64} (h : x = y) (k : V X E pc (some (.long y) :: L) st σ μ) : V X E pc (some (.long x) :: L) st σ μ := h ▸ k
theorem v_leq_1 {X : XT} {E : ET} {pc : Nat} {L : List (Option Value)} {st : List Value} {σ μ : St} {a0 : Option Value} {x y : Int32} (h : x = y) (k : V X E pc (a0 :: some (.int y) :: L) st σ μ) : V X E pc (a0 :: some (.int x) :: L) st σ μ := h ▸ k
theorem v_leqJ_1 {X : XT} {E : ET} {pc : Nat} {L : List (Option Value)} {st : List Value} {σ μ : St} {a0 : Option Value} {x y : Int64} (h : x = y) (k : V X E pc (a0 :: some (.long y) :: L) st σ μ) : V X E pc (a0 :: some (.long x) :: L) st σ μ := h ▸ k
theorem v_leq_2 {X : XT} {E : ET} {pc : Nat} {L : List (Option Value)} {st : List Value} {σ μ : St} {a0 a1 : Option Value} {x y : Int32} (h : x = y) (k : V X E pc (a0 :: a1 :: some (.int y) :: L) st σ μ) : V X E pc (a0 :: a1 :: some (.int x) :: L) st σ μ := h ▸ k
theorem v_leqJ_2 {X : XT} {E : ET} {pc : Nat} {L : List (Option Value)} {st : List Value} {σ μ : St} {a0 a1 : Option Value} {x y : Int64} (h : x = y) (k : V X E pc (a0 :: a1 :: some (.long y) :: L) st σ μ) : V X E pc (a0 :: a1 :: some (.long x) :: L) st σ μ := h ▸ k
theorem v_leq_3 {X : XT} {E : ET} {pc : Nat} {L : List (Option Value)} {st : List Value} {σ μ : St} {a0 a1 a2 : Option Value} {x y : Int32} (h : x = y) (k : V X E pc (a0 :: a1 :: a2 :: some (.int y) :: L) st σ μ) : V X E pc (a0 :: a1 :: a2 :: some (.int x) :: L) st σ μ := h ▸ k
theorem v_leqJ_3 {X : XT} {E : ET} {pc : Nat} {L : List (Option Value)} {st : List Value} {σ μ : St} {a0 a1 a2 : Option Value} {x y : Int64} (h : x = y) (k : V X E pc (a0 :: a1 :: a2 :: some (.long y) :: L) st σ μ) : V X E pc (a0 :: a1 :: a2 :: some (.long x) :: L) st σ μ := h ▸ k
theorem v_leq_4 {X : XT} {E : ET} {pc : Nat} {L : List (Option Value)} {st : List Value} {σ μ : St} {a0 a1 a2 a3 : Option Value} {x y : Int32} (h : x = y) (k : V X E pc (a0 :: a1 :: a2 :: a3 :: some (.int y) :: L) st σ μ) : V X E pc (a0 :: a1 :: a2 :: a3 :: some (.int x) :: L) st σ μ := h ▸ k
theorem v_leqJ_4 {X : XT} {E : ET} {pc : Nat} {L : List (Option Value)} {st : List Value} {σ μ : St} {a0 a1 a2 a3 : Option Value} {x y : Int64} (h : x = y) (k : V X E pc (a0 :: a1 :: a2 :: a3 :: some (.long y) :: L) st σ μ) : V X E pc (a0 :: a1 :: a2 :: a3 :: some (.long x) :: L) st σ μ := h ▸ k
theorem v_leq_5 {X : XT} {E : ET} {pc : Nat} {L : List (Option Value)} {st : List Value} {σ μ : St} {a0 a1 a2 a3 a4 : Option Value} {x y : Int32} (h : x = y) (k : V X E pc (a0 :: a1 :: a2 :: a3 :: a4 :: some (.int y) :: L) st σ μ) : V X E pc (a0 :: a1 :: a2 :: a3 :: a4 :: some (.int x) :: L) st σ μ := h ▸ k
theorem v_leqJ_5 {X : XT} {E : ET} {pc : Nat} {L : List (Option Value)} {st : List Value} {σ μ : St} {a0 a1 a2 a3 a4 : Option Value} {x y : Int64} (h : x = y) (k : V X E pc (a0 :: a1 :: a2 :: a3 :: a4 :: some (.long y) :: L) st σ μ) : V X E pc (a0 :: a1 :: a2 :: a3 :: a4 :: some (.long x) :: L) st σ μ := h ▸ k
theorem v_leq_6 {X : XT} {E : ET} {pc : Nat} {L : List (Option Value)} {st : List Value} {σ μ : St} {a0 a1 a2 a3 a4 a5 : Option Value} {x y : Int32} (h : x = y) (k : V X E pc (a0 :: a1 :: a2 :: a3 :: a4 :: a5 :: some (.int y) :: L) st σ μ) : V X E pc (a0 :: a1 :: a2 :: a3 :: a4 :: a5 :: some (.int x) :: L) st σ μ := h ▸ k
theorem v_leqJ_6 {X : XT} {E : ET} {pc : Nat} {L : List (Option Value)} {st : List Value} {σ μ : St} {a0 a1 a2 a3 a4 a5 : Option Value} {x y : Int64} (h : x = y) (k : V X E pc (a0 :: a1 :: a2 :: a3 :: a4 :: a5 :: some (.long y) :: L) st σ μ) : V X E pc (a0 :: a1 :: a2 :: a3 :: a4 :: a5 :: some (.long x) :: L) st σ μ := h ▸ k
theorem v_leq_7 {X : XT} {E : ET} {pc : Nat} {L : List (Option Value)} {st : List Value} {σ μ : St} {a0 a1 a2 a3 a4 a5 a6 : Option Value} {x y : Int32} (h : x = y) (k : V X E pc (a0 :: a1 :: a2 :: a3 :: a4 :: a5 :: a6 :: some (.int y) :: L) st σ μ) : V X E pc (a0 :: a1 :: a2 :: a3 :: a4 :: a5 :: a6 :: some (.int x) :: L) st σ μ := h ▸ k
theorem v_leqJ_7 {X : XT} {E : ET} {pc : Nat} {L : List (Option Value)} {st : List Value} {σ μ : St} {a0 a1 a2 a3 a4 a5 a6 : Option Value} {x y : Int64} (h : x = y) (k : V X E pc (a0 :: a1 :: a2 :: a3 :: a4 :: a5 :: a6 :: some (.long y) :: L) st σ μ) : V X E pc (a0 :: a1 :: a2 :: a3 :: a4 :: a5 :: a6 :: some (.long x) :: L) st σ μ := h ▸ k
theorem v_leq_8 {X : XT} {E : ET} {pc : Nat} {L : List (Option Value)} {st : List Value} {σ μ : St} {a0 a1 a2 a3 a4 a5 a6 a7 : Option Value} {x y : Int32} (h : x = y) (k : V X E pc (a0 :: a1 :: a2 :: a3 :: a4 :: a5 :: a6 :: a7 :: some (.int y) :: L) st σ μ) : V X E pc (a0 :: a1 :: a2 :: a3 :: a4 :: a5 :: a6 :: a7 :: some (.int x) :: L) st σ μ := h ▸ k
theorem v_leqJ_8 {X : XT} {E : ET} {pc : Nat} {L : List (Option Value)} {st : List Value} {σ μ : St} {a0 a1 a2 a3 a4 a5 a6 a7 : Option Value} {x y : Int64} (h : x = y) (k : V X E pc (a0 :: a1 :: a2 :: a3 :: a4 :: a5 :: a6 :: a7 :: some (.long y) :: L) st σ μ) : V X E pc (a0 :: a1 :: a2 :: a3 :: a4 :: a5 :: a6 :: a7 :: some (.long x) :: L) st σ μ := h ▸ k
theorem v_leq_9 {X : XT} {E : ET} {pc : Nat} {L : List (Option Value)} {st : List Value} {σ μ : St} {a0 a1 a2 a3 a4 a5 a6 a7 a8 : Option Value} {x y : Int32} (h : x = y) (k : V X E pc (a0 :: a1 :: a2 :: a3 :: a4 :: a5 :: a6 :: a7 :: a8 :: some (.int y) :: L) st σ μ) : V X E pc (a0 :: a1 :: a2 :: a3 :: a4 :: a5 :: a6 :: a7 :: a8 :: some (.int x) :: L) st σ μ := h ▸ k
theorem v_leqJ_9 {X : XT} {E : ET} {pc : Nat} {L : List (Option Value)} {st : List Value} {σ μ : St} {a0 a1 a2 a3 a4 a5 a6 a7 a8 : Option Value} {x y : Int64} (h : x = y) (k : V X E pc (a0 :: a1 :: a2 :: a3 :: a4 :: a5 :: a6 :: a7 :: a8 :: some (.long y) :: L) st σ μ) : V X E pc (a0 :: a1 :: a2 :: a3 :: a4 :: a5 :: a6 :: a7 :: a8 :: some (.long x) :: L) st σ μ := h ▸ k
theorem v_leq_10 {X : XT} {E : ET} {pc : Nat} {L : List (Option Value)} {st : List Value} {σ μ : St} {a0 a1 a2 a3 a4 a5 a6 a7 a8 a9 : Option Value} {x y : Int32} (h : x = y) (k : V X E pc (a0 :: a1 :: a2 :: a3 :: a4 :: a5 :: a6 :: a7 :: a8 :: a9 :: some (.int y) :: L) st σ μ) : V X E pc (a0 :: a1 :: a2 :: a3 :: a4 :: a5 :: a6 :: a7 :: a8 :: a9 :: some (.int x) :: L) st σ μ := h ▸ k
theorem v_leqJ_10 {X : XT} {E : ET} {pc : Nat} {L : List (Option Value)} {st : List Value} {σ μ : St} {a0 a1 a2 a3 a4 a5 a6 a7 a8 a9 : Option Value} {x y : Int64} (h : x = y) (k : V X E pc (a0 :: a1 :: a2 :: a3 :: a4 :: a5 :: a6 :: a7 :: a8 :: a9 :: some (.long y) :: L) st σ μ) : V X E pc (a0 :: a1 :: a2 :: a3 :: a4 :: a5 :: a6 :: a7 :: a8 :: a9 :: some (.long x) :: L) st σ μ := h ▸ k
theorem v_leq_11 {X : XT} {E : ET} {pc : Nat} {L : List (Option Value)} {st : List Value} {σ μ : St} {a0 a1 a2 a3 a4 a5 a6 a7 a8 a9 a10 : Option Value} {x y : Int32} (h : x = y) (k : V X E pc (a0 :: a1 :: a2 :: a3 :: a4 :: a5 :: a6 :: a7 :: a8 :: a9 :: a10 :: some (.int y) :: L) st σ μ) : V X E pc (a0 :: a1 :: a2 :: a3 :: a4 :: a5 :: a6 :: a7 :: a8 :: a9 :: a10 :: some (.int x) :: L) st σ μ := h ▸ k
theorem v_leqJ_11 {X : XT} {E : ET} {pc : Nat} {L : List (Option Value)} {st : List Value} {σ μ : St} {a0 a1 a2 a3 a4 a5 a6 a7 a8 a9 a10 : Option Value} {x y : Int64} (h : x = y) (k : V X E pc (a0 :: a1 :: a2 :: a3 :: a4 :: a5 :: a6 :: a7 :: a8 :: a9 :: a10 :: some (.long y) :: L) st σ μ) : V X E pc (a0 :: a1 :: a2 :: a3 :: a4 :: a5 :: a6 :: a7 :: a8 :: a9 :: a10 :: some (.long x) :: L) st σ μ := h ▸ k
theorem v_leq_12 {X : XT} {E : ET} {pc : Nat} {L : List (Option Value)} {st : List Value} {σ μ : St} {a0 a1 a2 a3 a4 a5 a6 a7 a8 a9 a10 a11 : Option Value} {x y : Int32} (h : x = y) (k : V X E pc (a0 :: a1 :: a2 :: a3 :: a4 :: a5 :: a6 :: a7 :: a8 :: a9 :: a10 :: a11 :: some (.int y) :: L) st σ μ) : V X E pc (a0 :: a1 :: a2 :: a3 :: a4 :: a5 :: a6 :: a7 :: a8 :: a9 :: a10 :: a11 :: some (.int x) :: L) st σ μ := h ▸ k
theorem v_leqJ_12 {X : XT} {E : ET} {pc : Nat} {L : List (Option Value)} {st : List Value} {σ μ : St} {a0 a1 a2 a3 a4 a5 a6 a7 a8 a9 a10 a11 : Option Value} {x y : Int64} (h : x = y) (k : V X E pc (a0 :: a1 :: a2 :: a3 :: a4 :: a5 :: a6 :: a7 :: a8 :: a9 :: a10 :: a11 :: some (.long y) :: L) st σ μ) : V X E pc (a0 :: a1 :: a2 :: a3 :: a4 :: a5 :: a6 :: a7 :: a8 :: a9 :: a10 :: a11 :: some (.long x) :: L) st σ μ := h ▸ k
theorem v_leq_13 {X : XT} {E : ET} {pc : Nat} {L : List (Option Value)} {st : List Value} {σ μ : St} {a0 a1 a2 a3 a4 a5 a6 a7 a8 a9 a10 a11 a12 : Option Value} {x y : Int32} (h : x = y) (k : V X E pc (a0 :: a1 :: a2 :: a3 :: a4 :: a5 :: a6 :: a7 :: a8 :: a9 :: a10 :: a11 :: a12 :: some (.int y) :: L) st σ μ) : V X E pc (a0 :: a1 :: a2 :: a3 :: a4 :: a5 :: a6 :: a7 :: a8 :: a9 :: a10 :: a11 :: a12 :: some (.int x) :: L) st σ μ := h ▸ k
theorem v_leqJ_13 {X : XT} {E : ET} {pc : Nat} {L : List (Option Value)} {st : List Value} {σ μ : St} {a0 a1 a2 a3 a4 a5 a6 a7 a8 a9 a10 a11 a12 : Option Value} {x y : Int64} (h : x = y) (k : V X E pc (a0 :: a1 :: a2 :: a3 :: a4 :: a5 :: a6 :: a7 :: a8 :: a9 :: a10 :: a11 :: a12 :: some (.long y) :: L) st σ μ) : V X E pc (a0 :: a1 :: a2 :: a3 :: a4 :: a5 :: a6 :: a7 :: a8 :: a9 :: a10 :: a11 :: a12 :: some (.long x) :: L) st σ μ := h ▸ k
/-- THE SYSTEM's METHODS, as functions of its cells -/
def Nb (x : Int32) (n : Nat) : Prop := x = nI x.toNatClampNeg ∧ x.toNatClampNeg ≤ n
def nW (σ : St) : Nat := (σ 2 0).toNatClampNeg
def kd (σ : St) (w : Nat) : Nat := (σ 3 w).toNatClampNeg
def nLi (σ : St) : Nat := (σ 12 0).toNatClampNeg
def lwl (σ : St) (i : Nat) : Nat := (σ 13 i).toNatClampNeg
/-- what keeps every index within its row -/
def WC (σ : St) : Prop := Nb (σ 2 0) 10 ∧ (∀ w, w < 10 → Nb (σ 3 w) 5 ∧ Nb (σ 4 w) 30 ∧ Nb (σ 5 w) 30) ∧ Nb (σ 12 0) 10 ∧ ∀ i, i < 10 → Nb (σ 13 i) 9
def WS (σ : St) : Prop := ∀ s, s < 4 → Nb (σ (46 + s) 0) 2 ∧ Nb (σ (46 + s) 1) 24
abbrev own (σ : St) (w m : Nat) : Prop := ¬ σ 3 w = nI 2 ∨ w % 2 = m % 2
def cAp (σ : St) (a b : Nat) : Int32 := mn (mx (ab (σ 4 a - σ 4 b)) (ab (σ 5 a - σ 5 b))) (nI 9)
def apN (σ : St) (a b : Nat) : Nat := (cAp σ a b).toNatClampNeg
def lyN (σ : St) (a b : Nat) : Nat := if (σ 3 a = nI 1 ↔ σ 3 b = nI 1) then 0 else 1
def rwN (σ : St) (a b : Nat) : Nat := (lyN σ a b * 10 + apN σ a b) * 12
def cSum (σ : St) (w : Nat) : Int32 := it0 (fun m a => a + σ 20 (w * 24 + m)) 24 (nI 0)
def cCnt (σ : St) (w m : Nat) : Int32 := if own σ w m then ctf (kd σ w) * σ 20 (w * 24 + m) else nI 0
def fLow (σ : St) (w m s : Nat) (i : Nat) (a : Int32) : Int32 := if own σ s i then a + σ 20 (s * 24 + i) * σ 9 (rwN σ w s + m - i) else a
def lo12 (fr m : Nat) : Nat := max fr (m - 11)
def cLow (σ : St) (w m s fr : Nat) : Int32 := it (fLow σ w m s) (lo12 fr m) (m + 1 - lo12 fr m) (nI 0) * ctf (kd σ s)
def fOne (σ : St) (w m s : Nat) (i : Nat) (a : Int32) : Int32 := if own σ s i then a + σ 9 (rwN σ w s + m - i) else a
def cOne (σ : St) (w m s fr : Nat) : Int32 := it (fOne σ w m s) (lo12 fr m) (m + 1 - lo12 fr m) (nI 0)
def fRain (σ : St) (m : Nat) (i : Nat) (a : Int32) : Int32 := a + σ 21 i * σ 10 (m - i)
def cRain (σ : St) (m : Nat) : Int32 := it (fRain σ m) (lo12 0 m) (m + 1 - lo12 0 m) (nI 0)
def fHead (σ : St) (w m : Nat) (s : Nat) (a : Int32) : Int32 := a - cLow σ w m s 0
def cHead (σ : St) (w m : Nat) : Int32 := it0 (fHead σ w m) (nW σ) (σ 6 w + cRain σ m)
def cAbv (σ : St) (w m : Nat) : Int32 := cHead σ w m - σ 7 w
def fFsp (w : Nat) (m : Nat) (τ : St) : St := wr τ 22 (w * 24 + m) (cAbv τ w m)
def gFsp (fr : Nat) (w : Nat) (τ : St) : St := it (fFsp w) fr (24 - fr) τ
def cFsp (σ : St) (fr : Nat) : St := it0 (gFsp fr) (nW σ) σ
def fUse (s fr : Nat) (more : Int32) (w : Nat) (m : Nat) (τ : St) : St := wr τ 22 (w * 24 + m) (τ 22 (w * 24 + m) - more * cOne τ w m s fr)
def gUse (s fr : Nat) (more : Int32) (w : Nat) (τ : St) : St := it (fUse s fr more w) fr (24 - fr) τ
def cUse (σ : St) (s fr : Nat) (more : Int32) : St := it0 (gUse s fr more) (nW σ) σ
def fFree (σ : St) (s fr w : Nat) (m : Nat) (a : Int32) : Int32 := if cOne σ w m s fr ≤ 0 then a else mn a (mx (nI 0) (σ 22 (w * 24 + m)) / cOne σ w m s fr)
def gFree (σ : St) (s fr : Nat) (w : Nat) (a : Int32) : Int32 := it (fFree σ s fr w) fr (24 - fr) a
def cFree (σ : St) (s fr : Nat) : Int32 := if 0 < ctf (kd σ s) then it0 (gFree σ s fr) (nW σ) (nI 1000) else nI 0
def fUns (w : Nat) (m : Nat) (τ : St) : St := wr τ 20 (w * 24 + m) (nI 0)
def gUns (fr : Nat) (i : Nat) (τ : St) : St := it (fUns (lwl τ i)) fr (24 - fr) (wr τ 16 i (-1))
def cUns (σ : St) (fr : Nat) : St := it0 (gUns fr) (nLi σ) σ
def fRoom (σ : St) (w : Nat) (m : Nat) (a : Int32) : Int32 := if own σ w m then mn a (nI 1000 - σ 20 (w * 24 + m)) else a
def cRoom (σ : St) (w fr : Nat) : Int32 := it (fRoom σ w) fr (24 - fr) (nI 1000)
def fGr (w : Nat) (more : Int32) (m : Nat) (τ : St) : St := if own τ w m then wr τ 20 (w * 24 + m) (τ 20 (w * 24 + m) + more) else τ
def cMore (σ : St) (i fr : Nat) (free : Int32) : Int32 := mn (mn (σ 15 i) free) (cRoom σ (lwl σ i) fr)
def cGr1 (σ : St) (w fr : Nat) (more : Int32) : St := it (fGr w more) fr (24 - fr) σ
def cGrant (σ : St) (i fr : Nat) (free : Int32) : St := wr (cUse (cGr1 σ (lwl σ i) fr (cMore σ i fr free)) (lwl σ i) fr (cMore σ i fr free)) 16 i (cMore σ i fr free)
def fNext (σ : St) (i : Nat) (a : Int32) : Int32 := if σ 16 i = -1 ∧ (a < 0 ∨ σ 14 i < σ 14 a.toNatClampNeg) then nI i else a
def cNext (σ : St) : Int32 := it0 (fNext σ) (nLi σ) (-1)
/-- serve: what is served together, and the cells -/
def fServe (fr : Nat) (_ : Nat) (q : Int32 × St) : Int32 × St := if 0 ≤ cNext q.2 then (q.1 + cMore q.2 (cNext q.2).toNatClampNeg fr (cFree q.2 (lwl q.2 (cNext q.2).toNatClampNeg) fr), cGrant q.2 (cNext q.2).toNatClampNeg fr (cFree q.2 (lwl q.2 (cNext q.2).toNatClampNeg) fr)) else q
def cServe (σ : St) (fr : Nat) : Int32 × St := it0 (fServe fr) (nLi σ) (nI 0, cFsp (cUns σ fr) fr)
def cHold (σ : St) (g m : Nat) (head : Int32) : Int32 :=
  if head - (cHead σ g m - σ 20 (g * 24 + m) * σ 9 (rwN σ g g)) ≤ 0 then nI 0
  else if 0 < σ 9 (rwN σ g g) then (head - (cHead σ g m - σ 20 (g * 24 + m) * σ 9 (rwN σ g g)) + σ 9 (rwN σ g g) - nI 1) / σ 9 (rwN σ g g) else nI 1001
def fMove (σ : St) (w m fr p : Nat) (g : Nat) (a : Int32) : Int32 := if σ 9 (rwN σ p w + g) ≤ 0 then a else mn a (σ 20 (w * 24 + m) + cCnt σ fr m * σ 9 (rwN σ p fr + g) / σ 9 (rwN σ p w + g))
def gMove (σ : St) (w m fr : Nat) (p : Nat) (a : Int32) : Int32 := it0 (fMove σ w m fr p) (min 12 (24 - m)) a
def cMove (σ : St) (w m fr : Nat) : Int32 := if own σ w m then it0 (gMove σ w m fr) (nW σ) (nI 1000) else nI 1000
def cDif (σ : St) (w m : Nat) : Int32 := σ 19 (w * 24 + m) - cHead σ w m
def fSq (σ : St) (w : Nat) (m : Nat) (a : Int64) : Int64 := if σ 18 (w * 24 + m) = 0 then a else a + (cDif σ w m).toInt64 * (cDif σ w m).toInt64
def gSq (σ : St) (w : Nat) (a : Int64) : Int64 := it0 (fSq σ w) 24 a
def cSq (σ : St) : Int64 := it0 (gSq σ) (nW σ) 0
/-- tables -/
def fTry (l g : Nat) (f : Int32) (d : Nat) (τ : St) : St := wr τ 9 ((l * 10 + d) * 12 + g) (mn (τ 11 d * f / nI 100) (nI 1000))
def cTry (σ : St) (l g : Nat) (f : Int32) : St := it0 (fTry l g f) 10 σ
def fSta (l g : Nat) (d : Nat) (τ : St) : St := wr τ 11 d (τ 9 ((l * 10 + d) * 12 + g))
def cSta (σ : St) (l g : Nat) : St := it0 (fSta l g) 10 σ
def fFit (l g : Nat) (i : Nat) (q : (Int32 × Int64) × St) : (Int32 × Int64) × St :=
  if nI (50 + 10 * i) = nI 50 ∨ cSq (cTry q.2 l g (nI (50 + 10 * i))) < q.1.2 then ((nI (50 + 10 * i), cSq (cTry q.2 l g (nI (50 + 10 * i)))), cTry q.2 l g (nI (50 + 10 * i))) else (q.1, cTry q.2 l g (nI (50 + 10 * i)))
def lFit (σ : St) (l g : Nat) : (Int32 × Int64) × St := it0 (fFit l g) 11 ((nI 50, 0), cSta σ l g)
def cFit (σ : St) (l g : Nat) : Int32 × St := ((lFit σ l g).1.1, cTry (lFit σ l g).2 l g (lFit σ l g).1.1)
/-- rows copied from water to water: a row of n from cell k to cell j -/
def cpy (τ : St) (k j n : Nat) : St := wrA τ j (va_cpy (τ k) (τ j) 0 0 n)
def clr (k : Nat) (i : Nat) (q : Int32 × St) : Int32 × St := if q.2 k i = 0 then q else (q.1 + nI 1, wr q.2 k i (nI 0))
def cClr (σ : St) (k n : Nat) : Int32 × St := it0 (clr k) n (nI 0, σ)
def takeW (τ : St) (f t : Nat) : St := cpy (cpy (cpy (cpy (cpy (wr τ t 0 (τ f 0)) (f + 1) (t + 1) 10) (f + 2) (t + 2) 10) (f + 3) (t + 3) 10) (f + 4) (t + 4) 10) (f + 5) (t + 5) 10
def takeT (τ : St) (f t : Nat) : St := cpy (cpy τ (f + 1) (t + 1) 240) (f + 2) (t + 2) 12
def takeL (τ : St) (f t : Nat) : St := cpy (cpy (cpy (cpy (wr τ t 0 (τ f 0)) (f + 1) (t + 1) 10) (f + 2) (t + 2) 10) (f + 3) (t + 3) 10) (f + 4) (t + 4) 10
def takeR (τ : St) (f t : Nat) : St := cpy (cpy (wr τ t 0 (τ f 0)) (f + 1) (t + 1) 240) (f + 2) (t + 2) 240
def takeA (τ : St) (f t : Nat) : St := cpy (cpy (takeR (takeL (takeT (takeW τ (f + 1) (t + 1)) (f + 7) (t + 7)) (f + 11) (t + 11)) (f + 16) (t + 16)) (f + 19) (t + 19) 240) (f + 20) (t + 20) 24
def cAddT (σ : St) (n : Nat) (k x y r : Int32) : St := wr (wr (wr (wr (wr σ 3 n k) 4 n x) 5 n y) 6 n r) 7 n (-100000)
def cAdd (σ : St) (n : Nat) (k x y r : Int32) : St := wr (cAddT σ n k x y r) 2 0 (cAddT σ n k x y r 2 0 + nI 1)
def cLicT (σ : St) (n : Nat) (w y r : Int32) : St := wr (wr (wr (wr σ 13 n w) 14 n y) 15 n r) 16 n (-1)
def cLic (σ : St) (n : Nat) (w y r : Int32) : St := wr (cLicT σ n w y r) 12 0 (cLicT σ n w y r 12 0 + nI 1)
def cWriT (σ : St) (k : Nat) : St := wr σ 18 k (nI 1)
def cWri (σ : St) (k : Nat) (v : Int32) : St := if σ 18 k = 0 then wr (wr (cWriT σ k) 17 0 (cWriT σ k 17 0 + nI 1)) 19 k v else wr σ 19 k v
abbrev kO (σ : St) (l d g : Nat) (v : Int32) : Prop := (d = 0 ∨ v ≤ σ 9 ((l * 10 + (d - 1)) * 12 + g)) ∧ (d = 9 ∨ σ 9 ((l * 10 + (d + 1)) * 12 + g) ≤ v)
def fnd (σ : St) : St := wr σ 0 4 (σ 0 4 + nI 1)
/-- floats by their bits -/
abbrev noNum (b : Int32) : Prop := 2139095040 < b &&& 2147483647
def cCut (b : Int32) : Int32 :=
  if ((b.toUInt32 >>> ((nI 23).toUInt32 &&& Int32.toUInt32 31)).toInt32 &&& nI 255) - nI 127 < 0 then nI 0
  else if nI 22 < ((b.toUInt32 >>> ((nI 23).toUInt32 &&& Int32.toUInt32 31)).toInt32 &&& nI 255) - nI 127 then 8388608
  else if b < 0 then -((b &&& 8388607 ||| 8388608) >>> ((nI 23 - (((b.toUInt32 >>> ((nI 23).toUInt32 &&& Int32.toUInt32 31)).toInt32 &&& nI 255) - nI 127)) &&& 31))
  else (b &&& 8388607 ||| 8388608) >>> ((nI 23 - (((b.toUInt32 >>> ((nI 23).toUInt32 &&& Int32.toUInt32 31)).toInt32 &&& nI 255) - nI 127)) &&& 31)
def cWhole (σ : St) (s i : Nat) : Int32 := if σ (46 + s) 0 = nI 2 then cCut (σ (50 + s) i) else σ (50 + s) i
