section
variable {X : XT} {E : ET} {cc : ByteArray} {own : String} {nL : Nat} {R0 : Room} {pc : Nat} {L : List (Option Value)} {st : List Value} {σ μ σ2 μ2 : St}
theorem callQ {p : Program} {l : Launch} {e : Env} {R : Room} {s : State} {m : MethodId} {args : Array Value} {below : List Frame} {meth : Method} {c : Code} {H : Heap} {locs : List Loc} {cells slots : Nat} {Q : State → Prop} {ls : Array Slot} {rest st0 : List Value} {ar : Array Value} {A0 : Nat → Prop} {H0 : Heap} {v : Option Value}
    (hr : va_Run p l e R s m args below meth c H locs cells slots 0 0 (F0 m pc ls st0) rest (Qr E v σ μ ar) (AA E)) (hS : va_S A0 H0 H locs) (hA : ∀ q, AA E q → A0 q)
    (kk : ∀ (H1 : Heap) (locs1 : List Loc), va_P E.1 vwCl (mkW E σ μ) H1 → va_S A0 H0 H1 locs1 → W p l e R s m args below meth c H1 locs1 cells slots Q (F0 m (pc + 3) ls (v.toList ++ rest))) : W p l e R s m args below meth c H locs cells slots Q (F0 m pc ls st0) := by
  intro T hT X
  obtain ⟨v2, st₀, t, T', L, h0, X', hL, e1, e2, ⟨hv, hP, hz, hk⟩, stp⟩ := hr T hT X
  cases hv
  rw [h0] at hz hk
  obtain ⟨t2, a1, b1⟩ := kk T'.heap (locs ++ L) (by rw [e1]; exact hP)
    ⟨Nat.le_trans hS.1 (by rw [e1]; exact hz), fun q h1 h2 => by rw [e1, hk q (Nat.lt_of_lt_of_le h1 hS.1) (fun z => h2 (hA q z))]; exact hS.2.1 q h1 h2, fun q hq => by
      rcases List.mem_append.mp hq with h | h
      · exact hS.2.2 q h
      · exact hA _ (hL q h)⟩ T' rfl X'
  exact ⟨t2, stp t2 a1, b1⟩
def okM (M : MT) (n : Nat) : Prop := Cond.initialized M.1.cls ∈ gT ∧ Cond.code M.1 M.2.1 M.2.2.1 M.2.2.2.1 ∈ gT ∧ (M.1.cls ≠ "java/lang/invoke/MethodHandle" ∧ M.1.cls ≠ "java/lang/invoke/VarHandle" ∧ (parseMethodDescriptor M.1.desc).map (fun d => d.parameters.length) = some n)
def lnk (own : String) (idx : Nat) (y : MethodName) : Prop := Cond.methodLink own idx y ∈ gT ∨ ∃ host, Cond.methodLinkNest own idx y host ∈ nT
def LkV (own : String) (idx : Nat) (M : MT) (n : Nat) : Prop := lnk own idx M.1 ∧ okM M n ∧ Cond.instanceMethod M.1 ∈ gT ∧ Cond.selects M.1.cls M.1 M.1 ∈ gT
def LkS (own : String) (idx : Nat) (M : MT) (n : Nat) : Prop := lnk own idx M.1 ∧ okM M n ∧ Cond.static M.1 ∈ gT
def rmOk (R0 : Room) (M : MT) : Prop := M.2.2.2.2.frames + 1 ≤ R0.frames ∧ 8 + (M.2.2.1 + 11) + M.2.2.2.2.locals ≤ R0.locals ∧ M.2.2.2.2.cells = 0 ∧ M.2.2.2.2.slots = 0
theorem good_ws {M : MT} {n : Nat} (h : okM M n) : GoodIn gT (Cond.code M.1 M.2.1 M.2.2.1 M.2.2.2.1 :: gT) := by
  intro w hw
  rcases List.mem_cons.mp hw with rfl | hw
  · exact ⟨h.2.1, gT_good h.2.1⟩
  · exact ⟨hw, gT_good hw⟩
theorem Cx.wd (hC : Cx X E cc own nL R0) {H : Heap} {locs : List Loc} (hP : va_P E.1 vwCl (mkW E σ μ) H) (hS : va_S (xA X) (xs X).heap H locs) (U : State) (hU : U.heap = H) (hW : (xs X).WarmedH U.vm) : Wd E σ μ U := by
  refine ⟨by rw [hU]; exact hP, hC.2.2.2.2.2.1.warm hW, ?_⟩
  rw [hU]
  exact ((hC.2.2.2.2.2.2.1.kept hS.2.1).moved hW.alike).narrow (fun q ⟨k, hk, e⟩ => e ▸ hC.2.2.2.2.2.2.2.1 k hk)
theorem v_callV (hC : Cx X E cc own nL R0) {M : MT} {n k idx ci : Nat} {As fs : List Value} {v : Option Value} {q : vw_C} (hL : LkV own idx M n) (hM : Ct (xl X) E M (.ref (adr E k) :: As) σ μ v σ2 μ2) (hk : k < 65) (he : ent E σ μ k = .inr (ci, fs)) (hq : vwCl[ci]? = some q) (hqn : q.1 = M.1.cls) (hR : rmOk R0 M) (hn : As.length = n) (hst : (st.map fun v => v.category).sum ≤ 8) (hd : decode cc pc = .ok (.invokevirtual idx, 3)) {s0 : List Value} (hs0 : s0 = As.reverse ++ .ref (adr E k) :: st)
    (kk : V X E (pc + 3) L (v.toList ++ st) σ2 μ2) : V X E pc L s0 σ μ := fun H locs ls hP hS hl => by
  obtain ⟨y, b, mL, r, rm⟩ := M
  obtain ⟨hl1, hok, hin, hsel⟩ := hL
  have hts := hC.2.2.2.2.1
  have hRx := hC.2.2.2.2.2.2.2.2.1
  have hg := good_ws hok
  have hrcv : ∃ cellB : Cell, H[adr E k]? = some cellB ∧ cellB.vm.isStatics = false ∧ (xs X).vm.findClass y.cls = some cellB.cls := by
    have h := va_recv hC.2.2.2.2.2.1.1 hP hq (a := adr E k) (q0 := k) (ci := ci) (fs := fs) (by rw [mkW_get hk, he])
    rw [hqn] at h
    exact h
  have hpre : PreV (xs X) H y.cls (adr E k) (va_Pc (.ref (adr E k) :: As) (Wd E σ μ)) As := ⟨Wd.blind, hrcv, fun U hU hW => ⟨rfl, hC.wd hP hS U hU hW⟩⟩
  have hrun : va_Run (xp X) (xl X) (xe X) (xR X) (xs X) (xm X) (xa X) (xb X) (xM X) (xc X) H locs (xk X) (xn X) 0 0 (F0 (xm X) pc ls s0) st (Qr E v σ2 μ2 (Value.ref (adr E k) :: As).toArray) (AA E) := by
    rcases hl1 with hl1 | ⟨host, hl1⟩
    · exact va_runV (g := F0 (xm X) pc ls s0) (rest := st) ⟨hC.1, hC.2.1, rfl, hC.2.2.2.1, hts⟩ hM ⟨callB_of n hts hg rfl hR.2.2.1 hR.2.2.2 (hts _ hok.1) (hts _ hl1) hok.2.2 (by rw [hRx]; exact ⟨hR.1, hR.2.1⟩), hts _ hin, hts _ hsel⟩ hpre rfl hn hl.1 hs0 (lv_room hst) hd (by rw [hRx]; exact ⟨hC.2.2.2.2.2.2.2.2.2.1, hC.2.2.2.2.2.2.2.2.2.2⟩)
    · exact va_runVN (g := F0 (xm X) pc ls s0) (rest := st) ⟨hC.1, hC.2.1, rfl, hC.2.2.2.1, hts⟩ hM ⟨va_cnB n hts hg rfl hR.2.2.1 hR.2.2.2 (hC.2.2.2.2.2.1.2.2 _ hl1) (hts _ hok.1) hok.2.2 (by rw [hRx]; exact ⟨hR.1, hR.2.1⟩), hts _ hin, hts _ hsel⟩ hpre rfl hn hl.1 hs0 (lv_room hst) hd (by rw [hRx]; exact ⟨hC.2.2.2.2.2.2.2.2.2.1, hC.2.2.2.2.2.2.2.2.2.2⟩)
  exact callQ hrun hS (fun q ⟨j, hj, e⟩ => e ▸ hC.2.2.2.2.2.2.2.1 j hj) (fun H1 locs1 hP1 hS1 => kk H1 locs1 ls hP1 hS1 hl)
theorem v_callS (hC : Cx X E cc own nL R0) {M : MT} {n idx : Nat} {As : List Value} {v : Option Value} (hL : LkS own idx M n) (hM : Ct (xl X) E M As σ μ v σ2 μ2) (hR : rmOk R0 M) (hn : As.length = n) (hst : (st.map fun v => v.category).sum ≤ 8) (hd : decode cc pc = .ok (.invokestatic idx, 3)) {s0 : List Value} (hs0 : s0 = As.reverse ++ st)
    (kk : V X E (pc + 3) L (v.toList ++ st) σ2 μ2) : V X E pc L s0 σ μ := fun H locs ls hP hS hl => by
  obtain ⟨y, b, mL, r, rm⟩ := M
  obtain ⟨hl1, hok, hstt⟩ := hL
  have hts := hC.2.2.2.2.1
  have hRx := hC.2.2.2.2.2.2.2.2.1
  have hg := good_ws hok
  have hpre : PreS (xs X) H (va_Pc As (Wd E σ μ)) As := ⟨Wd.blind, fun U hU hW => ⟨rfl, hC.wd hP hS U hU hW⟩⟩
  have hrun : va_Run (xp X) (xl X) (xe X) (xR X) (xs X) (xm X) (xa X) (xb X) (xM X) (xc X) H locs (xk X) (xn X) 0 0 (F0 (xm X) pc ls s0) st (Qr E v σ2 μ2 As.toArray) (AA E) := by
    rcases hl1 with hl1 | ⟨host, hl1⟩
    · exact va_runS (g := F0 (xm X) pc ls s0) (rest := st) ⟨hC.1, hC.2.1, rfl, hC.2.2.2.1, hts⟩ hM ⟨callB_of n hts hg rfl hR.2.2.1 hR.2.2.2 (hts _ hok.1) (hts _ hl1) hok.2.2 (by rw [hRx]; exact ⟨hR.1, hR.2.1⟩), hts _ hstt⟩ hpre rfl hn hl.1 hs0 (lv_room hst) hd (by rw [hRx]; exact ⟨hC.2.2.2.2.2.2.2.2.2.1, hC.2.2.2.2.2.2.2.2.2.2⟩)
    · exact va_runSN (g := F0 (xm X) pc ls s0) (rest := st) ⟨hC.1, hC.2.1, rfl, hC.2.2.2.1, hts⟩ hM ⟨va_cnB n hts hg rfl hR.2.2.1 hR.2.2.2 (hC.2.2.2.2.2.1.2.2 _ hl1) (hts _ hok.1) hok.2.2 (by rw [hRx]; exact ⟨hR.1, hR.2.1⟩), hts _ hstt, trivial⟩ hpre rfl hn hl.1 hs0 (lv_room hst) hd (by rw [hRx]; exact ⟨hC.2.2.2.2.2.2.2.2.2.1, hC.2.2.2.2.2.2.2.2.2.2⟩)
  exact callQ hrun hS (fun q ⟨j, hj, e⟩ => e ▸ hC.2.2.2.2.2.2.2.1 j hj) (fun H1 locs1 hP1 hS1 => kk H1 locs1 ls hP1 hS1 hl)
/-- an object's class: the receiver of a call -/
def rcv (k : Nat) (M : MT) : Prop := k < 65 ∧ ∃ (ci : Nat) (q : vw_C), vwCl[ci]? = some q ∧ q.1 = M.1.cls ∧ ∀ (E : ET) (σ μ : St), ∃ fs, ent E σ μ k = .inr (ci, fs)
theorem v_cv0r (hC : Cx X E cc own nL R0) {M : MT} {k idx : Nat} {v : Value} (hL : LkV own idx M 0) (hr : rcv k M) (hM : Ct (xl X) E M [.ref (adr E k)] σ μ (some v) σ2 μ2) (hR : rmOk R0 M) (hst : (st.map fun v => v.category).sum ≤ 8) (hd : decode cc pc = .ok (.invokevirtual idx, 3)) (kk : V X E (pc + 3) L (v :: st) σ2 μ2) : V X E pc L (.ref (adr E k) :: st) σ μ := by
  obtain ⟨h1, ci, q, h2, h3, h4⟩ := hr
  obtain ⟨fs, h5⟩ := h4 E σ μ
  exact v_callV (As := []) hC hL hM h1 h5 h2 h3 hR rfl hst hd rfl kk
theorem v_cv0 (hC : Cx X E cc own nL R0) {M : MT} {k idx : Nat} (hL : LkV own idx M 0) (hr : rcv k M) (hM : Ct (xl X) E M [.ref (adr E k)] σ μ (none) σ2 μ2) (hR : rmOk R0 M) (hst : (st.map fun v => v.category).sum ≤ 8) (hd : decode cc pc = .ok (.invokevirtual idx, 3)) (kk : V X E (pc + 3) L (st) σ2 μ2) : V X E pc L (.ref (adr E k) :: st) σ μ := by
  obtain ⟨h1, ci, q, h2, h3, h4⟩ := hr
  obtain ⟨fs, h5⟩ := h4 E σ μ
  exact v_callV (As := []) hC hL hM h1 h5 h2 h3 hR rfl hst hd rfl kk
theorem v_cv1r (hC : Cx X E cc own nL R0) {M : MT} {k idx : Nat} {x0 : Value} {v : Value} (hL : LkV own idx M 1) (hr : rcv k M) (hM : Ct (xl X) E M [.ref (adr E k), x0] σ μ (some v) σ2 μ2) (hR : rmOk R0 M) (hst : (st.map fun v => v.category).sum ≤ 8) (hd : decode cc pc = .ok (.invokevirtual idx, 3)) (kk : V X E (pc + 3) L (v :: st) σ2 μ2) : V X E pc L (x0 :: .ref (adr E k) :: st) σ μ := by
  obtain ⟨h1, ci, q, h2, h3, h4⟩ := hr
  obtain ⟨fs, h5⟩ := h4 E σ μ
  exact v_callV (As := [x0]) hC hL hM h1 h5 h2 h3 hR rfl hst hd rfl kk
theorem v_cs1r (hC : Cx X E cc own nL R0) {M : MT} {idx : Nat} {x0 : Value} {v : Value} (hL : LkS own idx M 1) (hM : Ct (xl X) E M [x0] σ μ (some v) σ2 μ2) (hR : rmOk R0 M) (hst : (st.map fun v => v.category).sum ≤ 8) (hd : decode cc pc = .ok (.invokestatic idx, 3)) (kk : V X E (pc + 3) L (v :: st) σ2 μ2) : V X E pc L (x0 :: st) σ μ := v_callS (As := [x0]) hC hL hM hR rfl hst hd rfl kk
theorem v_cv1 (hC : Cx X E cc own nL R0) {M : MT} {k idx : Nat} {x0 : Value} (hL : LkV own idx M 1) (hr : rcv k M) (hM : Ct (xl X) E M [.ref (adr E k), x0] σ μ (none) σ2 μ2) (hR : rmOk R0 M) (hst : (st.map fun v => v.category).sum ≤ 8) (hd : decode cc pc = .ok (.invokevirtual idx, 3)) (kk : V X E (pc + 3) L (st) σ2 μ2) : V X E pc L (x0 :: .ref (adr E k) :: st) σ μ := by
  obtain ⟨h1, ci, q, h2, h3, h4⟩ := hr
  obtain ⟨fs, h5⟩ := h4 E σ μ
  exact v_callV (As := [x0]) hC hL hM h1 h5 h2 h3 hR rfl hst hd rfl kk
theorem v_cs1 (hC : Cx X E cc own nL R0) {M : MT} {idx : Nat} {x0 : Value} (hL : LkS own idx M 1) (hM : Ct (xl X) E M [x0] σ μ (none) σ2 μ2) (hR : rmOk R0 M) (hst : (st.map fun v => v.category).sum ≤ 8) (hd : decode cc pc = .ok (.invokestatic idx, 3)) (kk : V X E (pc + 3) L (st) σ2 μ2) : V X E pc L (x0 :: st) σ μ := v_callS (As := [x0]) hC hL hM hR rfl hst hd rfl kk
theorem v_cv2r (hC : Cx X E cc own nL R0) {M : MT} {k idx : Nat} {x0 x1 : Value} {v : Value} (hL : LkV own idx M 2) (hr : rcv k M) (hM : Ct (xl X) E M [.ref (adr E k), x0, x1] σ μ (some v) σ2 μ2) (hR : rmOk R0 M) (hst : (st.map fun v => v.category).sum ≤ 8) (hd : decode cc pc = .ok (.invokevirtual idx, 3)) (kk : V X E (pc + 3) L (v :: st) σ2 μ2) : V X E pc L (x1 :: x0 :: .ref (adr E k) :: st) σ μ := by
  obtain ⟨h1, ci, q, h2, h3, h4⟩ := hr
  obtain ⟨fs, h5⟩ := h4 E σ μ
  exact v_callV (As := [x0, x1]) hC hL hM h1 h5 h2 h3 hR rfl hst hd rfl kk
theorem v_cs2r (hC : Cx X E cc own nL R0) {M : MT} {idx : Nat} {x0 x1 : Value} {v : Value} (hL : LkS own idx M 2) (hM : Ct (xl X) E M [x0, x1] σ μ (some v) σ2 μ2) (hR : rmOk R0 M) (hst : (st.map fun v => v.category).sum ≤ 8) (hd : decode cc pc = .ok (.invokestatic idx, 3)) (kk : V X E (pc + 3) L (v :: st) σ2 μ2) : V X E pc L (x1 :: x0 :: st) σ μ := v_callS (As := [x0, x1]) hC hL hM hR rfl hst hd rfl kk
theorem v_cv2 (hC : Cx X E cc own nL R0) {M : MT} {k idx : Nat} {x0 x1 : Value} (hL : LkV own idx M 2) (hr : rcv k M) (hM : Ct (xl X) E M [.ref (adr E k), x0, x1] σ μ (none) σ2 μ2) (hR : rmOk R0 M) (hst : (st.map fun v => v.category).sum ≤ 8) (hd : decode cc pc = .ok (.invokevirtual idx, 3)) (kk : V X E (pc + 3) L (st) σ2 μ2) : V X E pc L (x1 :: x0 :: .ref (adr E k) :: st) σ μ := by
  obtain ⟨h1, ci, q, h2, h3, h4⟩ := hr
  obtain ⟨fs, h5⟩ := h4 E σ μ
  exact v_callV (As := [x0, x1]) hC hL hM h1 h5 h2 h3 hR rfl hst hd rfl kk
theorem v_cs2 (hC : Cx X E cc own nL R0) {M : MT} {idx : Nat} {x0 x1 : Value} (hL : LkS own idx M 2) (hM : Ct (xl X) E M [x0, x1] σ μ (none) σ2 μ2) (hR : rmOk R0 M) (hst : (st.map fun v => v.category).sum ≤ 8) (hd : decode cc pc = .ok (.invokestatic idx, 3)) (kk : V X E (pc + 3) L (st) σ2 μ2) : V X E pc L (x1 :: x0 :: st) σ μ := v_callS (As := [x0, x1]) hC hL hM hR rfl hst hd rfl kk
theorem v_cv3r (hC : Cx X E cc own nL R0) {M : MT} {k idx : Nat} {x0 x1 x2 : Value} {v : Value} (hL : LkV own idx M 3) (hr : rcv k M) (hM : Ct (xl X) E M [.ref (adr E k), x0, x1, x2] σ μ (some v) σ2 μ2) (hR : rmOk R0 M) (hst : (st.map fun v => v.category).sum ≤ 8) (hd : decode cc pc = .ok (.invokevirtual idx, 3)) (kk : V X E (pc + 3) L (v :: st) σ2 μ2) : V X E pc L (x2 :: x1 :: x0 :: .ref (adr E k) :: st) σ μ := by
  obtain ⟨h1, ci, q, h2, h3, h4⟩ := hr
  obtain ⟨fs, h5⟩ := h4 E σ μ
  exact v_callV (As := [x0, x1, x2]) hC hL hM h1 h5 h2 h3 hR rfl hst hd rfl kk
theorem v_cs3r (hC : Cx X E cc own nL R0) {M : MT} {idx : Nat} {x0 x1 x2 : Value} {v : Value} (hL : LkS own idx M 3) (hM : Ct (xl X) E M [x0, x1, x2] σ μ (some v) σ2 μ2) (hR : rmOk R0 M) (hst : (st.map fun v => v.category).sum ≤ 8) (hd : decode cc pc = .ok (.invokestatic idx, 3)) (kk : V X E (pc + 3) L (v :: st) σ2 μ2) : V X E pc L (x2 :: x1 :: x0 :: st) σ μ := v_callS (As := [x0, x1, x2]) hC hL hM hR rfl hst hd rfl kk
theorem v_cv3 (hC : Cx X E cc own nL R0) {M : MT} {k idx : Nat} {x0 x1 x2 : Value} (hL : LkV own idx M 3) (hr : rcv k M) (hM : Ct (xl X) E M [.ref (adr E k), x0, x1, x2] σ μ (none) σ2 μ2) (hR : rmOk R0 M) (hst : (st.map fun v => v.category).sum ≤ 8) (hd : decode cc pc = .ok (.invokevirtual idx, 3)) (kk : V X E (pc + 3) L (st) σ2 μ2) : V X E pc L (x2 :: x1 :: x0 :: .ref (adr E k) :: st) σ μ := by
  obtain ⟨h1, ci, q, h2, h3, h4⟩ := hr
  obtain ⟨fs, h5⟩ := h4 E σ μ
  exact v_callV (As := [x0, x1, x2]) hC hL hM h1 h5 h2 h3 hR rfl hst hd rfl kk
theorem v_cs3 (hC : Cx X E cc own nL R0) {M : MT} {idx : Nat} {x0 x1 x2 : Value} (hL : LkS own idx M 3) (hM : Ct (xl X) E M [x0, x1, x2] σ μ (none) σ2 μ2) (hR : rmOk R0 M) (hst : (st.map fun v => v.category).sum ≤ 8) (hd : decode cc pc = .ok (.invokestatic idx, 3)) (kk : V X E (pc + 3) L (st) σ2 μ2) : V X E pc L (x2 :: x1 :: x0 :: st) σ μ := v_callS (As := [x0, x1, x2]) hC hL hM hR rfl hst hd rfl kk
theorem v_cv4r (hC : Cx X E cc own nL R0) {M : MT} {k idx : Nat} {x0 x1 x2 x3 : Value} {v : Value} (hL : LkV own idx M 4) (hr : rcv k M) (hM : Ct (xl X) E M [.ref (adr E k), x0, x1, x2, x3] σ μ (some v) σ2 μ2) (hR : rmOk R0 M) (hst : (st.map fun v => v.category).sum ≤ 8) (hd : decode cc pc = .ok (.invokevirtual idx, 3)) (kk : V X E (pc + 3) L (v :: st) σ2 μ2) : V X E pc L (x3 :: x2 :: x1 :: x0 :: .ref (adr E k) :: st) σ μ := by
  obtain ⟨h1, ci, q, h2, h3, h4⟩ := hr
  obtain ⟨fs, h5⟩ := h4 E σ μ
  exact v_callV (As := [x0, x1, x2, x3]) hC hL hM h1 h5 h2 h3 hR rfl hst hd rfl kk
theorem v_cs4r (hC : Cx X E cc own nL R0) {M : MT} {idx : Nat} {x0 x1 x2 x3 : Value} {v : Value} (hL : LkS own idx M 4) (hM : Ct (xl X) E M [x0, x1, x2, x3] σ μ (some v) σ2 μ2) (hR : rmOk R0 M) (hst : (st.map fun v => v.category).sum ≤ 8) (hd : decode cc pc = .ok (.invokestatic idx, 3)) (kk : V X E (pc + 3) L (v :: st) σ2 μ2) : V X E pc L (x3 :: x2 :: x1 :: x0 :: st) σ μ := v_callS (As := [x0, x1, x2, x3]) hC hL hM hR rfl hst hd rfl kk
theorem v_cv4 (hC : Cx X E cc own nL R0) {M : MT} {k idx : Nat} {x0 x1 x2 x3 : Value} (hL : LkV own idx M 4) (hr : rcv k M) (hM : Ct (xl X) E M [.ref (adr E k), x0, x1, x2, x3] σ μ (none) σ2 μ2) (hR : rmOk R0 M) (hst : (st.map fun v => v.category).sum ≤ 8) (hd : decode cc pc = .ok (.invokevirtual idx, 3)) (kk : V X E (pc + 3) L (st) σ2 μ2) : V X E pc L (x3 :: x2 :: x1 :: x0 :: .ref (adr E k) :: st) σ μ := by
  obtain ⟨h1, ci, q, h2, h3, h4⟩ := hr
  obtain ⟨fs, h5⟩ := h4 E σ μ
  exact v_callV (As := [x0, x1, x2, x3]) hC hL hM h1 h5 h2 h3 hR rfl hst hd rfl kk
theorem v_cs4 (hC : Cx X E cc own nL R0) {M : MT} {idx : Nat} {x0 x1 x2 x3 : Value} (hL : LkS own idx M 4) (hM : Ct (xl X) E M [x0, x1, x2, x3] σ μ (none) σ2 μ2) (hR : rmOk R0 M) (hst : (st.map fun v => v.category).sum ≤ 8) (hd : decode cc pc = .ok (.invokestatic idx, 3)) (kk : V X E (pc + 3) L (st) σ2 μ2) : V X E pc L (x3 :: x2 :: x1 :: x0 :: st) σ μ := v_callS (As := [x0, x1, x2, x3]) hC hL hM hR rfl hst hd rfl kk
theorem v_cv5r (hC : Cx X E cc own nL R0) {M : MT} {k idx : Nat} {x0 x1 x2 x3 x4 : Value} {v : Value} (hL : LkV own idx M 5) (hr : rcv k M) (hM : Ct (xl X) E M [.ref (adr E k), x0, x1, x2, x3, x4] σ μ (some v) σ2 μ2) (hR : rmOk R0 M) (hst : (st.map fun v => v.category).sum ≤ 8) (hd : decode cc pc = .ok (.invokevirtual idx, 3)) (kk : V X E (pc + 3) L (v :: st) σ2 μ2) : V X E pc L (x4 :: x3 :: x2 :: x1 :: x0 :: .ref (adr E k) :: st) σ μ := by
  obtain ⟨h1, ci, q, h2, h3, h4⟩ := hr
  obtain ⟨fs, h5⟩ := h4 E σ μ
  exact v_callV (As := [x0, x1, x2, x3, x4]) hC hL hM h1 h5 h2 h3 hR rfl hst hd rfl kk
theorem v_cs5r (hC : Cx X E cc own nL R0) {M : MT} {idx : Nat} {x0 x1 x2 x3 x4 : Value} {v : Value} (hL : LkS own idx M 5) (hM : Ct (xl X) E M [x0, x1, x2, x3, x4] σ μ (some v) σ2 μ2) (hR : rmOk R0 M) (hst : (st.map fun v => v.category).sum ≤ 8) (hd : decode cc pc = .ok (.invokestatic idx, 3)) (kk : V X E (pc + 3) L (v :: st) σ2 μ2) : V X E pc L (x4 :: x3 :: x2 :: x1 :: x0 :: st) σ μ := v_callS (As := [x0, x1, x2, x3, x4]) hC hL hM hR rfl hst hd rfl kk
theorem v_cv5 (hC : Cx X E cc own nL R0) {M : MT} {k idx : Nat} {x0 x1 x2 x3 x4 : Value} (hL : LkV own idx M 5) (hr : rcv k M) (hM : Ct (xl X) E M [.ref (adr E k), x0, x1, x2, x3, x4] σ μ (none) σ2 μ2) (hR : rmOk R0 M) (hst : (st.map fun v => v.category).sum ≤ 8) (hd : decode cc pc = .ok (.invokevirtual idx, 3)) (kk : V X E (pc + 3) L (st) σ2 μ2) : V X E pc L (x4 :: x3 :: x2 :: x1 :: x0 :: .ref (adr E k) :: st) σ μ := by
  obtain ⟨h1, ci, q, h2, h3, h4⟩ := hr
  obtain ⟨fs, h5⟩ := h4 E σ μ
  exact v_callV (As := [x0, x1, x2, x3, x4]) hC hL hM h1 h5 h2 h3 hR rfl hst hd rfl kk
theorem v_cs5 (hC : Cx X E cc own nL R0) {M : MT} {idx : Nat} {x0 x1 x2 x3 x4 : Value} (hL : LkS own idx M 5) (hM : Ct (xl X) E M [x0, x1, x2, x3, x4] σ μ (none) σ2 μ2) (hR : rmOk R0 M) (hst : (st.map fun v => v.category).sum ≤ 8) (hd : decode cc pc = .ok (.invokestatic idx, 3)) (kk : V X E (pc + 3) L (st) σ2 μ2) : V X E pc L (x4 :: x3 :: x2 :: x1 :: x0 :: st) σ μ := v_callS (As := [x0, x1, x2, x3, x4]) hC hL hM hR rfl hst hd rfl kk
end
