/-- THE FACE's METHODS as functions of the cells and the arguments: answer, cells -/
abbrev isW (σ : St) (v : Int32) : Prop := nI 0 ≤ v ∧ v ≤ σ 2 0 - nI 1
abbrev isR (v : Int32) (n : Nat) : Prop := nI 0 ≤ v ∧ v ≤ nI n
abbrev isH (v : Int32) : Prop := -100000 ≤ v ∧ v ≤ 100000
abbrev tn (x : Int32) : Nat := x.toNatClampNeg
theorem tnI {j : Nat} (h : j < 2000) : tn (nI j) = j := nI_clamp (by omega)
theorem isR_nat {v : Int32} {n : Nat} (hn : n < 2000000) (h : isR v n) : ∃ j, j ≤ n ∧ v = nI j :=
  nI_of2 (M := nI n) (nI_toInt (by omega)) (Int32.not_lt.mpr h.1) h.2
theorem isW_nat {σ : St} (hwc : WC σ) {v : Int32} (h : isW σ v) : ∃ j, j < nW σ ∧ v = nI j := by
  obtain ⟨h1, h2⟩ := h
  rw [hwc.n] at h2
  have h10 := hwc.n10
  obtain ⟨j, hj, rfl⟩ := nI_of (Int32.not_lt.mpr h1)
  refine ⟨j, ?_, rfl⟩
  rw [Int32.le_iff_toInt_le, nI_toInt hj, pk_sub_toInt (by omega) (by omega)] at h2
  omega
theorem isL_nat {σ : St} (hwc : WC σ) {v : Int32} (h : nI 0 ≤ v ∧ v ≤ σ 12 0 - nI 1) : ∃ j, j < nLi σ ∧ v = nI j := by
  obtain ⟨h1, h2⟩ := h
  rw [hwc.l] at h2
  have h10 := hwc.l10
  obtain ⟨j, hj, rfl⟩ := nI_of (Int32.not_lt.mpr h1)
  refine ⟨j, ?_, rfl⟩
  rw [Int32.le_iff_toInt_le, nI_toInt hj, pk_sub_toInt (by omega) (by omega)] at h2
  omega
theorem isS_nat {σ : St} (hws : WS σ) {s : Nat} (hs : s < 4) {v : Int32} (h : nI 0 ≤ v ∧ v ≤ σ (46 + s) 1 - nI 1) : ∃ j, j < (σ (46 + s) 1).toNatClampNeg ∧ v = nI j := by
  obtain ⟨h1, h2⟩ := h
  have h3 := (hws s hs).2
  have h4 := h3.2
  rw [h3.1] at h2
  obtain ⟨j, hj, rfl⟩ := nI_of (Int32.not_lt.mpr h1)
  refine ⟨j, ?_, rfl⟩
  rw [Int32.le_iff_toInt_le, nI_toInt hj, pk_sub_toInt (by omega) (by omega)] at h2
  omega
theorem sw_out {q : Int32} (n : Nat) (hn : n < 1000) (h : ∀ j, j ≤ n → q ≠ nI j) : q.toInt < 0 ∨ (n : Int) < q.toInt := by
  by_cases h0 : q < 0
  · exact Or.inl (by simpa using Int32.lt_iff_toInt_lt.mp h0)
  · obtain ⟨j, hj, rfl⟩ := nI_of h0
    refine Or.inr ?_
    rw [nI_toInt hj]
    have := h j
    rcases Nat.lt_or_ge n j with q | q
    · omega
    · exact absurd rfl (this q)
def cfWell (σ : St) (k x y r : Int32) : Int32 × St := if isR k 5 ∧ isR x 30 ∧ isR y 30 ∧ isH r then (if σ 2 0 < nI 10 then (nI (nW σ), cAdd σ (nW σ) k x y r) else (-1000000005, fnd σ)) else (-1000000001, fnd σ)
def cfLimit (σ : St) (w v : Int32) : Int32 × St := if isW σ w ∧ isH v then (σ 7 (tn w), wr σ 7 (tn w) v) else (-1000000001, fnd σ)
def cfAs (σ : St) (w k : Int32) : Int32 × St := if isW σ w ∧ isR k 5 then (if σ 3 (tn w) = k ∨ k = 0 ∨ (k = nI 3 ∧ σ 3 (tn w) = nI 4) then (w, σ) else (-1000000004, fnd σ)) else (-1000000001, fnd σ)
def cfOf (σ : St) (w q : Int32) : Int32 × St := if isW σ w then (if q = nI 0 then (σ 3 (tn w), σ) else if q = nI 1 then (σ 4 (tn w), σ) else if q = nI 2 then (σ 5 (tn w), σ) else if q = nI 3 then (σ 6 (tn w), σ) else if q = nI 4 then (σ 7 (tn w), σ) else if q = nI 5 then (cSum σ (tn w), σ) else (-1000000001, fnd σ)) else (-1000000001, fnd σ)
def cfDist (σ : St) (a b : Int32) : Int32 × St := if isW σ a ∧ isW σ b then (nI (apN σ (tn a) (tn b)), σ) else (-1000000001, fnd σ)
def cfTable (σ : St) (i d g v : Int32) : Int32 × St := if isR i 1 ∧ isR g 11 ∧ isR v 1000 ∧ isR d 9 then (if kO σ (tn i) (tn d) (tn g) v then (σ 9 ((tn i * 10 + tn d) * 12 + tn g), wr σ 9 ((tn i * 10 + tn d) * 12 + tn g) v) else (-1000000003, fnd σ)) else (-1000000001, fnd σ)
def cfRainT (σ : St) (g v : Int32) : Int32 × St := if isR g 11 ∧ isR v 1000 then (σ 10 (tn g), wr σ 10 (tn g) v) else (-1000000001, fnd σ)
def cSt0 (σ : St) (s : Nat) (k n : Int32) : St := wr (wr σ (46 + s) 0 k) (46 + s) 1 (if k = 0 then nI 0 else n)
def cStart (σ : St) (s : Nat) (k n : Int32) : St := (cClr (cSt0 σ s k n) (50 + s) 24).2
def cfSheet (σ : St) (s k n : Int32) : Int32 × St := if isR s 3 ∧ isR k 2 then (if 0 ≤ n then (if n ≤ nI 24 then (cStart σ (tn s) k n (46 + tn s) 1, cStart σ (tn s) k n) else (-1000000001, fnd σ)) else (-1000000003, fnd σ)) else (-1000000001, fnd σ)
def cPutV (σ : St) (s : Nat) (v : Int32) : Int32 := if σ (46 + s) 0 = nI 2 ∧ noNum v then 2143289344 else v
def cfPut (σ : St) (s i v : Int32) : Int32 × St := if isR s 3 then (if σ (46 + tn s) 0 = 0 then (-1000000002, fnd σ) else if nI 0 ≤ i ∧ i ≤ σ (46 + tn s) 1 - nI 1 then (nI 0, wr σ (50 + tn s) (tn i) (cPutV σ (tn s) v)) else (-1000000001, fnd σ)) else (-1000000001, fnd σ)
abbrev hasP (σ : St) (s : Nat) (f n : Int32) : Prop := ¬ f < 0 ∧ ¬ n < 0 ∧ f ≤ σ (46 + s) 1 ∧ n ≤ σ (46 + s) 1 - f
def cfCopy (σ : St) (s f t g n : Int32) : Int32 × St := if isR s 3 ∧ isR t 3 then (if σ (46 + tn s) 0 = 0 ∨ σ (46 + tn t) 0 = 0 then (-1000000002, fnd σ) else if σ (46 + tn s) 0 = σ (46 + tn t) 0 then (if hasP σ (tn s) f n ∧ hasP σ (tn t) g n then (n, wrA σ (50 + tn t) (va_cpy (σ (50 + tn s)) (σ (50 + tn t)) (tn f) (tn g) (tn n))) else (-1000000001, fnd σ)) else (-1000000004, fnd σ)) else (-1000000001, fnd σ)
abbrev swn (σ : St) (s n : Nat) : Prop := ∀ i, i < n → ¬ (σ (46 + s) 0 = nI 2 ∧ noNum (σ (50 + s) i))
abbrev swa (σ : St) (s n : Nat) : Prop := ∀ i, i < n → isR (cWhole σ s i) 1000
def fDrw (w m s : Nat) (i : Nat) (τ : St) : St := wr τ 20 (w * 24 + (m + i)) (cWhole τ s i)
def drN (σ : St) (m s : Nat) : Nat := min (σ (46 + s) 1).toNatClampNeg (24 - m)
def cfDraws (σ : St) (w m s : Int32) : Int32 × St := if isW σ w ∧ isR m 23 ∧ isR s 3 then (if σ 3 (tn w) = nI 5 then (-1000000004, fnd σ) else if σ (46 + tn s) 0 = 0 then (-1000000002, fnd σ) else if swn σ (tn s) (drN σ (tn m) (tn s)) then (if swa σ (tn s) (drN σ (tn m) (tn s)) then (nI (drN σ (tn m) (tn s)), it0 (fDrw (tn w) (tn m) (tn s)) (drN σ (tn m) (tn s)) σ) else (-1000000001, fnd σ)) else (-1000000007, fnd σ)) else (-1000000001, fnd σ)
def cfDraw (σ : St) (w m v : Int32) : Int32 × St := if isW σ w ∧ isR m 23 ∧ isR v 1000 then (if σ 3 (tn w) = nI 5 then (-1000000004, fnd σ) else (σ 20 (tn w * 24 + tn m), wr σ 20 (tn w * 24 + tn m) v)) else (-1000000001, fnd σ)
def cfCounts (σ : St) (w m : Int32) : Int32 × St := if isW σ w ∧ isR m 23 then (cCnt σ (tn w) (tn m), σ) else (-1000000001, fnd σ)
def cfRain (σ : St) (m v : Int32) : Int32 × St := if isR m 23 ∧ isR v 1000 then (σ 21 (tn m), wr σ 21 (tn m) v) else (-1000000001, fnd σ)
def cfDry (σ : St) : Int32 × St := ((cClr σ 20 240).1 + (cClr (cClr σ 20 240).2 21 24).1, (cClr (cClr σ 20 240).2 21 24).2)
def cfHead (σ : St) (w m : Int32) : Int32 × St := if isW σ w ∧ isR m 23 then (cHead σ (tn w) (tn m), σ) else (-1000000001, fnd σ)
def cfBy (σ : St) (w m s : Int32) : Int32 × St := if isW σ w ∧ isR m 23 ∧ isW σ s then (cLow σ (tn w) (tn m) (tn s) 0, σ) else (-1000000001, fnd σ)
def cfRained (σ : St) (w m : Int32) : Int32 × St := if isW σ w ∧ isR m 23 then (cRain σ (tn m), σ) else (-1000000001, fnd σ)
def fMost (σ : St) (w m : Nat) (i : Nat) (q : Int32 × Int32) : Int32 × Int32 := if cLow σ w m i 0 ≤ q.1 then q else (cLow σ w m i 0, nI i)
def cMost (σ : St) (w m : Nat) : Int32 := (it0 (fMost σ w m) (nW σ) (nI 0, -1000000006)).2
def cfMost (σ : St) (w m : Int32) : Int32 × St := if isW σ w ∧ isR m 23 then (if cMost σ (tn w) (tn m) = -1000000006 then (-1000000006, fnd σ) else (cMost σ (tn w) (tn m), σ)) else (-1000000001, fnd σ)
/-- the first of n numbers from lo on of which p holds -/
def scan (p : Nat → Bool) : Nat → Nat → Option Nat
  | _, 0 => none
  | lo, n + 1 => if p lo = true then some lo else scan p (lo + 1) n
def cWhen (σ : St) (w m : Nat) : Option Nat := scan (fun i => decide (cAbv σ w i < 0)) m (24 - m)
def opF (o : Option Nat) (σ : St) : Int32 × St := match o with
  | some i => (nI i, σ)
  | none => (-1000000006, fnd σ)
def cfWhen (σ : St) (w m : Int32) : Int32 × St := if isW σ w ∧ isR m 23 then opF (cWhen σ (tn w) (tn m)) σ else (-1000000001, fnd σ)
def fNear (σ : St) (w : Nat) (i : Nat) (a : Int32) : Int32 := mn a (cAbv σ w i)
def cfNear (σ : St) (w m : Int32) : Int32 × St := if isW σ w ∧ isR m 23 then (it (fNear σ (tn w)) (tn m + 1) (23 - tn m) (cAbv σ (tn w) (tn m)), σ) else (-1000000001, fnd σ)
def fLows (σ : St) (m : Nat) (w : Nat) (a : Int32) : Int32 := if 0 ≤ cAbv σ w m then a else a + nI 1
def cfLow (σ : St) (m : Int32) : Int32 × St := if isR m 23 then (it0 (fLows σ (tn m)) (nW σ) (nI 0), σ) else (-1000000001, fnd σ)
def cfWithout (σ : St) (w m s f : Int32) : Int32 × St := if isW σ w ∧ isR m 23 ∧ isW σ s ∧ isR f 23 then (cLow σ (tn w) (tn m) (tn s) (tn f), σ) else (-1000000001, fnd σ)
def cfFree (σ : St) (w m : Int32) : Int32 × St := if isW σ w ∧ isR m 23 then (cFree (cFsp σ (tn m)) (tn w) (tn m), cFsp σ (tn m)) else (-1000000001, fnd σ)
def cfLicence (σ : St) (w y v : Int32) : Int32 × St := if isW σ w ∧ isR y 9999 ∧ isR v 1000 then (if 0 < ctf (kd σ (tn w)) then (if σ 12 0 < nI 10 then (nI (nLi σ), cLic σ (nLi σ) w y v) else (-1000000005, fnd σ)) else (-1000000004, fnd σ)) else (-1000000001, fnd σ)
def cfServe (σ : St) (m : Int32) : Int32 × St := if isR m 23 then cServe σ (tn m) else (-1000000001, fnd σ)
def cfServed (σ : St) (i b : Int32) : Int32 × St := if nI 0 ≤ i ∧ i ≤ σ 12 0 - nI 1 then (if σ 16 (tn i) = -1 then (-1000000006, fnd σ) else if b = 0 then (σ 16 (tn i), σ) else (σ 15 (tn i) - σ 16 (tn i), σ)) else (-1000000001, fnd σ)
def cfHold (σ : St) (w m h : Int32) : Int32 × St := if isW σ w ∧ isR m 23 ∧ isH h then (if σ 3 (tn w) = nI 4 then (if cHold σ (tn w) (tn m) h ≤ nI 1000 then (cHold σ (tn w) (tn m) h, wr σ 20 (tn w * 24 + tn m) (cHold σ (tn w) (tn m) h)) else (-1000000006, fnd σ)) else (-1000000004, fnd σ)) else (-1000000001, fnd σ)
def cfMove (σ : St) (w m f : Int32) : Int32 × St := if isW σ w ∧ isW σ f ∧ ¬ w = f ∧ isR m 23 then (if 0 < ctf (kd σ (tn w)) ∧ 0 < ctf (kd σ (tn f)) then (cMove σ (tn w) (tn m) (tn f), wr (wr σ 20 (tn w * 24 + tn m) (cMove σ (tn w) (tn m) (tn f))) 20 (tn f * 24 + tn m) (nI 0)) else (-1000000004, fnd σ)) else (-1000000001, fnd σ)
def cfRead (σ : St) (w m v : Int32) : Int32 × St := if isW σ w ∧ isR m 23 ∧ (-100000000 ≤ v ∧ v ≤ 100000000) then (if σ 18 (tn w * 24 + tn m) = 0 ∧ ¬ σ 17 0 < nI 40 then (-1000000005, fnd σ) else (cWri σ (tn w * 24 + tn m) v 17 0, cWri σ (tn w * 24 + tn m) v)) else (-1000000001, fnd σ)
def cfDiffer (σ : St) (w m : Int32) : Int32 × St := if isW σ w ∧ isR m 23 then (if σ 18 (tn w * 24 + tn m) = 0 then (-1000000006, fnd σ) else (cDif σ (tn w) (tn m), σ)) else (-1000000001, fnd σ)
def cfFit (σ : St) (i g : Int32) : Int32 × St := if isR i 1 ∧ isR g 11 then (if σ 17 0 = 0 then (-1000000006, fnd σ) else cFit σ (tn i) (tn g)) else (-1000000001, fnd σ)
def cfKeep (σ : St) : Int32 × St := (wr (takeA σ 1 23) 0 2 (nI 1) 2 0, wr (takeA σ 1 23) 0 2 (nI 1))
def cfBack (σ : St) : Int32 × St := if σ 0 2 = 0 then (-1000000006, fnd σ) else (takeA σ 23 1 2 0, takeA σ 23 1)
def cfTold (σ : St) (q : Int32) : Int32 × St := if q = nI 0 then (σ 2 0, σ) else if q = nI 1 then (σ 12 0, σ) else if q = nI 2 then (σ 17 0, σ) else if q = nI 3 then (σ 0 4, σ) else (-1000000001, fnd σ)
