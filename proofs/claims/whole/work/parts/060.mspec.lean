/-- THE REFERENCE's METHODS, as functions of its cells -/
def mN (μ : St) : Nat := (μ 1 1086).toNatClampNeg
def mL (μ : St) : Nat := (μ 1 1087).toNatClampNeg
def WM (μ : St) : Prop := Nb (μ 1 1086) 10 ∧ (∀ w, w < 10 → Nb (μ 1 (0 + 5 * w + 1)) 30 ∧ Nb (μ 1 (0 + 5 * w + 2)) 30) ∧ Nb (μ 1 1087) 10 ∧ (∀ i, i < 10 → Nb (μ 1 (566 + 4 * i + 0)) 9) ∧ ∀ s, s < 4 → Nb (μ 4 s) 24
theorem WM.n {μ : St} (h : WM μ) : μ 1 1086 = nI (mN μ) := h.1.1
theorem WM.n10 {μ : St} (h : WM μ) : mN μ ≤ 10 := h.1.2
theorem WM.l {μ : St} (h : WM μ) : μ 1 1087 = nI (mL μ) := h.2.2.1.1
theorem WM.l10 {μ : St} (h : WM μ) : mL μ ≤ 10 := h.2.2.1.2
theorem WM.w {μ : St} (h : WM μ) {i : Nat} (hi : i < 10) : μ 1 (566 + 4 * i + 0) = nI (μ 1 (566 + 4 * i + 0)).toNatClampNeg := (h.2.2.2.1 i hi).1
theorem WM.w10 {μ : St} (h : WM μ) {i : Nat} (hi : i < 10) : (μ 1 (566 + 4 * i + 0)).toNatClampNeg < 10 := by have := (h.2.2.2.1 i hi).2; omega
def mfnd (μ : St) : St := wr μ 0 6 (μ 0 6 + nI 1)
def mKind (μ : St) (w : Nat) : Int32 := μ 1 (0 + 5 * w + 0)
def sab (x : Int32) : Int32 := if 0 ≤ x then x else -x
def gmx (x y : Int32) : Int32 := if x ≤ y then y else x
def cap9 (x : Int32) : Int32 := if x ≤ nI 9 then x else nI 9
def mAp (μ : St) (a b : Nat) : Int32 := cap9 (gmx (sab (μ 1 (0 + 5 * a + 1) - μ 1 (0 + 5 * b + 1))) (sab (μ 1 (0 + 5 * a + 2) - μ 1 (0 + 5 * b + 2))))
def mapN (μ : St) (a b : Nat) : Nat := (mAp μ a b).toNatClampNeg
def mly (μ : St) (a b : Nat) : Nat := if (mKind μ a = nI 1 ↔ mKind μ b = nI 1) then 0 else 1
def mSh (μ : St) (p w : Nat) (g : Int32) : Int32 := if isR g 11 then μ 1 (290 + 120 * mly μ p w + 12 * mapN μ p w + tn g) else nI 0
def mSgn (μ : St) (w m : Nat) : Int32 := if mKind μ w = nI 2 then (if w % 2 = m % 2 then nI 1 else nI 0) else if mKind μ w = nI 5 then nI 0 else if mKind μ w = nI 3 ∨ mKind μ w = nI 4 then -1 else nI 1
def mDr (μ : St) (w m : Nat) : Int32 := μ 1 (50 + 24 * w + m)
def fmLow (μ : St) (p n w : Nat) (m : Nat) (a : Int32) : Int32 := a + mSgn μ w m * mDr μ w m * mSh μ p w (nI n - nI m)
def mLow (μ : St) (p n w fr : Nat) : Int32 := it (fmLow μ p n w) fr (24 - fr) (nI 0)
def fmRain (μ : St) (n : Nat) (m : Nat) (a : Int32) : Int32 := a + (if nI (n - m) ≤ nI 11 then μ 1 (542 + m) * μ 1 (530 + n - m) else nI 0)
def mRain (μ : St) (n : Nat) : Int32 := it0 (fmRain μ n) (n + 1) (nI 0)
def fmHead (μ : St) (p n : Nat) (w : Nat) (a : Int32) : Int32 := a - mLow μ p n w 0
def mHead (μ : St) (p n : Nat) : Int32 := it0 (fmHead μ p n) (mN μ) (μ 1 (0 + 5 * p + 3) + mRain μ n)
def mAbv (μ : St) (p n : Nat) : Int32 := mHead μ p n - μ 1 (0 + 5 * p + 4)
/-- the greatest q at most n, above 0, of which p holds, or 0 -/
def down (p : Nat → Bool) : Nat → Nat
  | 0 => 0
  | q + 1 => if p (q + 1) = true then q + 1 else down p q
def fTk (w p n : Nat) (m : Nat) (τ : St) : St := wr τ 8 (24 * p + n) (τ 8 (24 * p + n) + mSgn τ w m * mSh τ p w (nI (n - m)))
def gTk (w fr p : Nat) (n : Nat) (τ : St) : St := it (fTk w p n) fr (n + 1 - fr) (wr (wr τ 7 (24 * p + n) (mAbv τ p n)) 8 (24 * p + n) (nI 0))
def hTk (w fr : Nat) (p : Nat) (τ : St) : St := it (gTk w fr p) fr (24 - fr) τ
def mFill (μ : St) (w fr : Nat) : St := it0 (hTk w fr) (mN μ) μ
abbrev okF (μ : St) (p n : Nat) (q : Int32) : Prop := if μ 7 (24 * p + n) < 0 then μ 8 (24 * p + n) ≤ 0 else 0 ≤ μ 7 (24 * p + n) - q * μ 8 (24 * p + n)
abbrev mIsF (μ : St) (fr : Nat) (q : Int32) : Prop := ∀ p, p < mN μ → ∀ i, i < 24 - fr → okF μ p (fr + i) q
def mFreeQ (μ : St) (fr : Nat) : Nat := down (fun q => decide (mIsF μ fr (nI q))) 1000
def mFree (μ : St) (w fr : Nat) : Int32 × St := if mKind μ w ≤ nI 2 then (nI (mFreeQ (mFill μ w fr) fr), mFill μ w fr) else (nI 0, μ)
def mWellT (μ : St) (n : Nat) (k x y r : Int32) : St := wr (wr (wr (wr (wr μ 1 (0 + 5 * n) k) 1 (0 + 5 * n + 1) x) 1 (0 + 5 * n + 2) y) 1 (0 + 5 * n + 3) r) 1 (0 + 5 * n + 4) (-100000)
def mWell (μ : St) (n : Nat) (k x y r : Int32) : St := wr (mWellT μ n k x y r) 1 1086 (mWellT μ n k x y r 1 1086 + nI 1)
abbrev isMW (μ : St) (v : Int32) : Prop := nI 0 ≤ v ∧ v ≤ μ 1 1086 - nI 1
def mfWell (μ : St) (k x y r : Int32) : Int32 × St := if isR k 5 ∧ isR x 30 ∧ isR y 30 ∧ isH r then (if μ 1 1086 = nI 10 then (-1000000005, mfnd μ) else (nI (mN μ), mWell μ (mN μ) k x y r)) else (-1000000001, mfnd μ)
def mfLimit (μ : St) (w v : Int32) : Int32 × St := if isMW μ w ∧ isH v then (μ 1 (0 + 5 * tn w + 4), wr μ 1 (0 + 5 * tn w + 4) v) else (-1000000001, mfnd μ)
def mfAs (μ : St) (w k : Int32) : Int32 × St := if isMW μ w ∧ isR k 5 then (if k = 0 ∨ k = mKind μ (tn w) ∨ (mKind μ (tn w) = nI 4 ∧ k = nI 3) then (w, μ) else (-1000000004, mfnd μ)) else (-1000000001, mfnd μ)
def mSum (μ : St) (w : Nat) : Int32 := it0 (fun m a => a + mDr μ w m) 24 (nI 0)
def mfOf (μ : St) (w q : Int32) : Int32 × St := if isMW μ w ∧ isR q 5 then (if nI 5 ≤ q then (mSum μ (tn w), μ) else (μ 1 (0 + 5 * tn w + tn q), μ)) else (-1000000001, mfnd μ)
def mfDist (μ : St) (a b : Int32) : Int32 × St := if isMW μ a ∧ isMW μ b then (nI (mapN μ (tn a) (tn b)), μ) else (-1000000001, mfnd μ)
abbrev mcl (i d g : Nat) : Nat := 290 + 120 * i + 12 * d + g
abbrev mkO (μ : St) (i d g : Nat) (v : Int32) : Prop := (d = 0 ∨ v ≤ μ 1 (mcl i (d - 1) g)) ∧ (9 ≤ d ∨ μ 1 (mcl i (d + 1) g) ≤ v)
def mfTable (μ : St) (i d g v : Int32) : Int32 × St := if isR i 1 ∧ isR d 9 ∧ isR g 11 ∧ isR v 1000 then (if mkO μ (tn i) (tn d) (tn g) v then (μ 1 (mcl (tn i) (tn d) (tn g)), wr μ 1 (mcl (tn i) (tn d) (tn g)) v) else (-1000000003, mfnd μ)) else (-1000000001, mfnd μ)
def mfRainT (μ : St) (g v : Int32) : Int32 × St := if isR g 11 ∧ isR v 1000 then (μ 1 (530 + tn g), wr μ 1 (530 + tn g) v) else (-1000000001, mfnd μ)
def mSt0 (μ : St) (s : Nat) (k n : Int32) : St := wr (wr μ 3 s k) 4 s (if k = 0 then nI 0 else n)
def fmSt (s : Nat) (i : Nat) (τ : St) : St := wr τ 5 (24 * s + i) (nI 0)
def mStart (μ : St) (s : Nat) (k n : Int32) : St := it0 (fmSt s) 24 (mSt0 μ s k n)
def mfSheet (μ : St) (s k n : Int32) : Int32 × St := if isR s 3 ∧ isR k 2 then (if 0 ≤ n then (if n ≤ nI 24 then (mStart μ (tn s) k n 4 (tn s), mStart μ (tn s) k n) else (-1000000001, mfnd μ)) else (-1000000003, mfnd μ)) else (-1000000001, mfnd μ)
def mPutV (μ : St) (s : Nat) (v : Int32) : Int32 := if μ 3 s = nI 2 ∧ noNum v then 2143289344 else v
def mfPut (μ : St) (s i v : Int32) : Int32 × St := if isR s 3 then (if μ 3 (tn s) = 0 then (-1000000002, mfnd μ) else if nI 0 ≤ i ∧ i ≤ μ 4 (tn s) - nI 1 then (nI 0, wr μ 5 (24 * tn s + tn i) (mPutV μ (tn s) v)) else (-1000000001, mfnd μ)) else (-1000000001, mfnd μ)
abbrev mHasP (μ : St) (s t : Nat) (f g n : Int32) : Prop := ¬ f < 0 ∧ ¬ g < 0 ∧ ¬ n < 0 ∧ f.toInt64 + n.toInt64 ≤ (μ 4 s).toInt64 ∧ g.toInt64 + n.toInt64 ≤ (μ 4 t).toInt64
def fmC1 (s f : Nat) (k : Nat) (τ : St) : St := wr τ 6 k (τ 5 (24 * s + f + k))
def fmC2 (t g : Nat) (k : Nat) (τ : St) : St := wr τ 5 (24 * t + g + k) (τ 6 k)
def mfCopy (μ : St) (s f t g n : Int32) : Int32 × St := if isR s 3 ∧ isR t 3 then (if μ 3 (tn s) = 0 ∨ μ 3 (tn t) = 0 then (-1000000002, mfnd μ) else if μ 3 (tn s) = μ 3 (tn t) then (if mHasP μ (tn s) (tn t) f g n then (n, it0 (fmC2 (tn t) (tn g)) (tn n) (it0 (fmC1 (tn s) (tn f)) (tn n) μ)) else (-1000000001, mfnd μ)) else (-1000000004, mfnd μ)) else (-1000000001, mfnd μ)
def mCut (b : Int32) : Int32 :=
  if 0 ≤ b then (if 0 ≤ (b >>> (nI 23 &&& 31) &&& nI 255) - nI 127 then (if (b >>> (nI 23 &&& 31) &&& nI 255) - nI 127 ≤ nI 10 then (b &&& 8388607 ||| 8388608) >>> (nI 23 - ((b >>> (nI 23 &&& 31) &&& nI 255) - nI 127) &&& 31) else nI 2000) else nI 0)
  else -(if 0 ≤ (b >>> (nI 23 &&& 31) &&& nI 255) - nI 127 then (if (b >>> (nI 23 &&& 31) &&& nI 255) - nI 127 ≤ nI 10 then (b &&& 8388607 ||| 8388608) >>> (nI 23 - ((b >>> (nI 23 &&& 31) &&& nI 255) - nI 127) &&& 31) else nI 2000) else nI 0)
def mWhole (μ : St) (s i : Nat) : Int32 := if μ 3 s = nI 2 then mCut (μ 5 (24 * s + i)) else μ 5 (24 * s + i)
abbrev mswn (μ : St) (s n : Nat) : Prop := ∀ i, i < n → ¬ (μ 3 s = nI 2 ∧ noNum (μ 5 (24 * s + i)))
def fmCar (s : Nat) (i : Nat) (τ : St) : St := wr τ 6 i (mWhole τ s i)
def fmDrw (w m : Nat) (i : Nat) (τ : St) : St := wr τ 1 (50 + 24 * w + m + i) (τ 6 i)
def mdrN (μ : St) (m s : Nat) : Nat := min (μ 4 s).toNatClampNeg (24 - m)
/-- draws: the first number that is no amount, if there is one -/
def mBad (μ : St) (s n : Nat) : Option Nat := scan (fun i => decide (¬ isR (mWhole (it0 (fmCar s) i μ) s i) 1000)) 0 n
def mDrws (μ : St) (w m s n : Nat) : Int32 × St := match mBad μ s n with
  | some k => (-1000000001, mfnd (it0 (fmCar s) (k + 1) μ))
  | none => (nI n, it0 (fmDrw w m) n (it0 (fmCar s) n μ))
def mfDraws (μ : St) (w m s : Int32) : Int32 × St := if isMW μ w ∧ isR m 23 ∧ isR s 3 then (if mKind μ (tn w) = nI 5 then (-1000000004, mfnd μ) else if μ 3 (tn s) = 0 then (-1000000002, mfnd μ) else if mswn μ (tn s) (mdrN μ (tn m) (tn s)) then mDrws μ (tn w) (tn m) (tn s) (mdrN μ (tn m) (tn s)) else (-1000000007, mfnd μ)) else (-1000000001, mfnd μ)
def mfDraw (μ : St) (w m v : Int32) : Int32 × St := if isMW μ w ∧ isR m 23 ∧ isR v 1000 then (if mKind μ (tn w) = nI 5 then (-1000000004, mfnd μ) else (mDr μ (tn w) (tn m), wr μ 1 (50 + 24 * tn w + tn m) v)) else (-1000000001, mfnd μ)
def mfCounts (μ : St) (w m : Int32) : Int32 × St := if isMW μ w ∧ isR m 23 then (mSgn μ (tn w) (tn m) * mDr μ (tn w) (tn m), μ) else (-1000000001, mfnd μ)
def mfRain (μ : St) (m v : Int32) : Int32 × St := if isR m 23 ∧ isR v 1000 then (μ 1 (542 + tn m), wr μ 1 (542 + tn m) v) else (-1000000001, mfnd μ)
def fmDry (k : Nat) (q : Int32 × St) : Int32 × St := (q.1 + (if q.2 1 k = 0 then nI 0 else nI 1), wr q.2 1 k (nI 0))
def mDry1 (μ : St) : Int32 × St := it fmDry 50 240 (nI 0, μ)
def mfDry (μ : St) : Int32 × St := it fmDry 542 24 (mDry1 μ)
def mfHead (μ : St) (w m : Int32) : Int32 × St := if isMW μ w ∧ isR m 23 then (mHead μ (tn w) (tn m), μ) else (-1000000001, mfnd μ)
def mfBy (μ : St) (w m s : Int32) : Int32 × St := if isMW μ w ∧ isR m 23 ∧ isMW μ s then (mLow μ (tn w) (tn m) (tn s) 0, μ) else (-1000000001, mfnd μ)
def mfRained (μ : St) (w m : Int32) : Int32 × St := if isMW μ w ∧ isR m 23 then (mRain μ (tn m), μ) else (-1000000001, mfnd μ)
def fmMost (μ : St) (w m : Nat) (i : Nat) (q : Int32 × Int32) : Int32 × Int32 := if q.1 < mLow μ w m i 0 then (mLow μ w m i 0, nI i) else q
def mMost (μ : St) (w m : Nat) : Int32 := (it0 (fmMost μ w m) (mN μ) (nI 0, -1)).2
def mfMost (μ : St) (w m : Int32) : Int32 × St := if isMW μ w ∧ isR m 23 then (if 0 ≤ mMost μ (tn w) (tn m) then (mMost μ (tn w) (tn m), μ) else (-1000000006, mfnd μ)) else (-1000000001, mfnd μ)
def mWhen (μ : St) (w m : Nat) : Option Nat := scan (fun i => decide (mAbv μ w i < 0)) m (24 - m)
def mopF (o : Option Nat) (μ : St) : Int32 × St := match o with
  | some i => (nI i, μ)
  | none => (-1000000006, mfnd μ)
def mfWhen (μ : St) (w m : Int32) : Int32 × St := if isMW μ w ∧ isR m 23 then mopF (mWhen μ (tn w) (tn m)) μ else (-1000000001, mfnd μ)
def fmNear (μ : St) (w : Nat) (i : Nat) (a : Int32) : Int32 := if a ≤ mAbv μ w i then a else mAbv μ w i
def mfNear (μ : St) (w m : Int32) : Int32 × St := if isMW μ w ∧ isR m 23 then (it (fmNear μ (tn w)) (tn m) (24 - tn m) (mAbv μ (tn w) (tn m)), μ) else (-1000000001, mfnd μ)
def fmLows (μ : St) (m : Nat) (w : Nat) (a : Int32) : Int32 := a + (if 0 ≤ mAbv μ w m then nI 0 else nI 1)
def mfLow (μ : St) (m : Int32) : Int32 × St := if isR m 23 then (it0 (fmLows μ (tn m)) (mN μ) (nI 0), μ) else (-1000000001, mfnd μ)
def mfWithout (μ : St) (w m s f : Int32) : Int32 × St := if isMW μ w ∧ isR m 23 ∧ isMW μ s ∧ isR f 23 then (mLow μ (tn w) (tn m) (tn s) (tn f), μ) else (-1000000001, mfnd μ)
def mfFree (μ : St) (w m : Int32) : Int32 × St := if isMW μ w ∧ isR m 23 then mFree μ (tn w) (tn m) else (-1000000001, mfnd μ)
def mLicT (μ : St) (n : Nat) (w y v : Int32) : St := wr (wr (wr (wr μ 1 (566 + 4 * n) w) 1 (566 + 4 * n + 1) y) 1 (566 + 4 * n + 2) v) 1 (566 + 4 * n + 3) (nI 0)
def mLic (μ : St) (n : Nat) (w y v : Int32) : St := wr (mLicT μ n w y v) 1 1087 (mLicT μ n w y v 1 1087 + nI 1)
def mfLicence (μ : St) (w y v : Int32) : Int32 × St := if isMW μ w ∧ isR y 9999 ∧ isR v 1000 then (if mKind μ (tn w) ≤ nI 2 then (if μ 1 1087 = nI 10 then (-1000000005, mfnd μ) else (nI (mL μ), mLic μ (mL μ) w y v)) else (-1000000004, mfnd μ)) else (-1000000001, mfnd μ)
/-- serve -/
def mlw (μ : St) (i : Nat) : Nat := (μ 1 (566 + 4 * i + 0)).toNatClampNeg
def fmU (w : Nat) (m : Nat) (τ : St) : St := wr τ 1 (50 + 24 * w + m) (nI 0)
def gmU (fr : Nat) (i : Nat) (τ : St) : St := it (fmU (mlw τ i)) fr (24 - fr) τ
def mUns (μ : St) (fr : Nat) : St := it0 (gmU fr) (mL μ) μ
def fmG (i : Nat) (τ : St) : St := wr τ 9 i (nI 0)
def mGiv (μ : St) : St := it0 fmG 10 μ
def fmNx (μ : St) (D : Nat) (i : Nat) (a : Int32) : Int32 := if D.testBit i = false ∧ (a < 0 ∨ μ 1 (566 + 4 * i + 1) < μ 1 (566 + 4 * a.toNatClampNeg + 1)) then nI i else a
def mNx (μ : St) (D : Nat) : Int32 := it0 (fmNx μ D) (mL μ) (-1)
def mAm1 (f v : Int32) : Int32 := if v ≤ f then v else f
abbrev mDrs (μ : St) (w fr : Nat) : Prop := nI fr < nI 23 ∨ ¬ mSgn μ w fr = 0
def mAm2 (μ : St) (w fr : Nat) (v : Int32) : Int32 := if mDrs μ w fr ∧ nI 1000 - μ 9 w < v then nI 1000 - μ 9 w else v
def fmA (w : Nat) (v : Int32) (m : Nat) (τ : St) : St := if mSgn τ w m = 0 then τ else wr τ 1 (50 + 24 * w + m) (τ 1 (50 + 24 * w + m) + v)
def mGrT (τ : St) (j w fr : Nat) (v : Int32) : St := wr (it (fmA w v) fr (24 - fr) (wr τ 9 w (τ 9 w + v))) 1 (566 + 4 * j + 3) v
/-- one turn: the licence j of the well w; the free that it has is (mFree μ w fr).1 -/
def mAmt (μ : St) (j fr : Nat) : Int32 := mAm2 (mFree μ (mlw μ j) fr).2 (mlw μ j) fr (mAm1 (mFree μ (mlw μ j) fr).1 (μ 1 (566 + 4 * j + 2)))
def fmServe (fr : Nat) (_ : Nat) (q : (Int32 × Nat) × St) : (Int32 × Nat) × St :=
  ((q.1.1 + mAmt q.2 (tn (mNx q.2 q.1.2)) fr, q.1.2 ||| 2 ^ tn (mNx q.2 q.1.2)), mGrT (mFree q.2 (mlw q.2 (tn (mNx q.2 q.1.2))) fr).2 (tn (mNx q.2 q.1.2)) (mlw q.2 (tn (mNx q.2 q.1.2))) fr (mAmt q.2 (tn (mNx q.2 q.1.2)) fr))
def mSv (μ : St) (fr n : Nat) : (Int32 × Nat) × St := it0 (fmServe fr) n ((nI 0, 0), mGiv (mUns μ fr))
def mServe (μ : St) (fr : Nat) : Int32 × St := ((mSv μ fr (mL μ)).1.1, wr (mSv μ fr (mL μ)).2 1 1089 (nI (mL μ)))
def mfServe (μ : St) (m : Int32) : Int32 × St := if isR m 23 then mServe μ (tn m) else (-1000000001, mfnd μ)
def mfServed (μ : St) (i b : Int32) : Int32 × St := if nI 0 ≤ i ∧ i ≤ μ 1 1087 - nI 1 then (if i < μ 1 1089 then (if b = 0 then (μ 1 (566 + 4 * tn i + 3), μ) else (μ 1 (566 + 4 * tn i + 2) - μ 1 (566 + 4 * tn i + 3), μ)) else (-1000000006, mfnd μ)) else (-1000000001, mfnd μ)
/-- hold -/
def fmH (k : Nat) (v : Nat) (τ : St) : St := wr τ 1 k (nI v)
def mHs (μ : St) (w m : Nat) (h : Int32) : Option Nat := scan (fun v => decide (h ≤ mHead (it0 (fmH (50 + 24 * w + m)) (v + 1) μ) w m)) 0 1001
def mHold (μ : St) (w m : Nat) (h : Int32) : Int32 × St := match mHs μ w m h with
  | some v => (nI v, it0 (fmH (50 + 24 * w + m)) (v + 1) μ)
  | none => (-1000000006, mfnd (wr (it0 (fmH (50 + 24 * w + m)) 1001 μ) 1 (50 + 24 * w + m) (μ 1 (50 + 24 * w + m))))
def mfHold (μ : St) (w m h : Int32) : Int32 × St := if isMW μ w ∧ isR m 23 ∧ isH h then (if mKind μ (tn w) = nI 4 then mHold μ (tn w) (tn m) h else (-1000000004, mfnd μ)) else (-1000000001, mfnd μ)
/-- move -/
abbrev mMay (μ : St) (w f n : Nat) (more less : Int32) : Prop := ∀ p, p < mN μ → ∀ g, g < n → more * mSh μ p w (nI g) ≤ less * mSh μ p f (nI g)
def mMoveQ (μ : St) (w m f : Nat) : Nat := down (fun q => decide (mMay μ w f (24 - m) (mSgn μ w m * nI q - mSgn μ w m * mDr μ w m) (mSgn μ f m * mDr μ f m))) 1000
def mMove (μ : St) (w m f : Nat) : Int32 × St := (nI (mMoveQ μ w m f), wr (wr μ 1 (50 + 24 * w + m) (nI (mMoveQ μ w m f))) 1 (50 + 24 * f + m) (nI 0))
def mfMove (μ : St) (w m f : Int32) : Int32 × St := if isMW μ w ∧ isMW μ f ∧ ¬ w = f ∧ isR m 23 then (if mKind μ (tn w) ≤ nI 2 ∧ mKind μ (tn f) ≤ nI 2 then mMove μ (tn w) (tn m) (tn f) else (-1000000004, mfnd μ)) else (-1000000001, mfnd μ)
/-- readings -/
abbrev mRd (w m : Nat) : Nat := 606 + 2 * (24 * w + m)
def mWr1 (μ : St) (k : Nat) : St := wr μ 1 1088 (μ 1 1088 + (nI 1 - μ 1 k))
def mWri (μ : St) (k : Nat) (v : Int32) : St := wr (wr (mWr1 μ k) 1 k (nI 1)) 1 (k + 1) v
def mfRead (μ : St) (w m v : Int32) : Int32 × St := if isMW μ w ∧ isR m 23 ∧ (-100000000 ≤ v ∧ v ≤ 100000000) then (if μ 1 (mRd (tn w) (tn m)) = 0 ∧ μ 1 1088 = nI 40 then (-1000000005, mfnd μ) else (mWri μ (mRd (tn w) (tn m)) v 1 1088, mWri μ (mRd (tn w) (tn m)) v)) else (-1000000001, mfnd μ)
def mDif (μ : St) (w m : Nat) : Int32 := μ 1 (mRd w m + 1) - mHead μ w m
def mfDiffer (μ : St) (w m : Int32) : Int32 × St := if isMW μ w ∧ isR m 23 then (if μ 1 (mRd (tn w) (tn m)) = 0 then (-1000000006, mfnd μ) else (mDif μ (tn w) (tn m), μ)) else (-1000000001, mfnd μ)
def fmSq (μ : St) (w : Nat) (m : Nat) (a : Int64) : Int64 := if μ 1 (mRd w m) = 0 then a else a + (mDif μ w m).toInt64 * (mDif μ w m).toInt64
def gmSq (μ : St) (w : Nat) (a : Int64) : Int64 := it0 (fmSq μ w) 24 a
def mSq (μ : St) : Int64 := it0 (gmSq μ) (mN μ) 0
/-- fit -/
def cap1 (x : Int32) : Int32 := if x ≤ nI 1000 then x else nI 1000
def fmT (i g : Nat) (f : Int32) (d : Nat) (τ : St) : St := wr τ 1 (mcl i d g) (cap1 (τ 10 d * f / nI 100))
def mTm (μ : St) (i g : Nat) (f : Int32) : St := it0 (fmT i g f) 10 μ
def fmOld (i g : Nat) (d : Nat) (τ : St) : St := wr τ 10 d (τ 1 (mcl i d g))
def mOld (μ : St) (i g : Nat) : St := it0 (fmOld i g) 10 μ
def fmFit (i g : Nat) (j : Nat) (q : (Int32 × Int64) × St) : (Int32 × Int64) × St :=
  if q.1.1 = 0 ∨ mSq (mTm q.2 i g (nI (50 + 10 * j))) < q.1.2 then ((nI (50 + 10 * j), mSq (mTm q.2 i g (nI (50 + 10 * j)))), mTm q.2 i g (nI (50 + 10 * j))) else (q.1, mTm q.2 i g (nI (50 + 10 * j)))
def lmFit (μ : St) (i g : Nat) : (Int32 × Int64) × St := it0 (fmFit i g) 11 ((nI 0, 0), mOld μ i g)
def mFit (μ : St) (i g : Nat) : Int32 × St := ((lmFit μ i g).1.1, mTm (lmFit μ i g).2 i g (lmFit μ i g).1.1)
def mfFit (μ : St) (i g : Int32) : Int32 × St := if isR i 1 ∧ isR g 11 then (if μ 1 1088 = 0 then (-1000000006, mfnd μ) else mFit μ (tn i) (tn g)) else (-1000000001, mfnd μ)
/-- keep, back -/
def fmK (k : Nat) (τ : St) : St := wr τ 2 k (τ 1 k)
def fmB (k : Nat) (τ : St) : St := wr τ 1 k (τ 2 k)
def mfKeep (μ : St) : Int32 × St := (wr (it0 fmK 1090 μ) 0 2 (nI 1) 1 1086, wr (it0 fmK 1090 μ) 0 2 (nI 1))
def mfBack (μ : St) : Int32 × St := if μ 0 2 = 0 then (-1000000006, mfnd μ) else (it0 fmB 1090 μ 1 1086, it0 fmB 1090 μ)
def mfTold (μ : St) (q : Int32) : Int32 × St := if q = 0 then (μ 1 1086, μ) else if q = nI 1 then (μ 1 1087, μ) else if q = nI 2 then (μ 1 1088, μ) else if q = nI 3 then (μ 0 6, μ) else (-1000000001, mfnd μ)
