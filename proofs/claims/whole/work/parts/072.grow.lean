/-- GROWING WORLDS, for the constructors: what holds of the tables -/
def Gk (E : ET) (U : State) : Prop := va_K E.1 vwCl (tyS E) U ∧ va_AO "WellField$Sheet" U ∧ Nw U
theorem Gk.warm {E : ET} {s U : State} (hW : s.WarmedH U.vm) (h : Gk E s) : Gk E U := ⟨va_K.moved hW.alike h.1, h.2.1.moved hW.alike, h.2.2.warm hW⟩
def G (X : XT) (E : ET) (pc : Nat) (L : List (Option Value)) (st : List Value) (ws : va_W) (k n : Nat) : Prop :=
  ∀ (H : Heap) (locs : List Loc) (ls : Array Slot), va_P E.1 vwCl ws H → va_D (xA X) ws → va_S (xA X) (xs X).heap H locs → lvO ls (xc X).maxLocals L → W (xp X) (xl X) (xe X) (xR X) (xs X) (xm X) (xa X) (xb X) (xM X) (xc X) H locs k n (xQ X) (F0 (xm X) pc ls st)
def GC (X : XT) (E : ET) (cc : ByteArray) (own : String) (nL : Nat) (R0 : Room) : Prop :=
  (xp X).tables.exec = Jvm.exec ∧ (xc X).code = cc ∧ (xc X).maxLocals = nL ∧ (xs X).vm.findClass own = some (xm X).cls ∧ (∀ w ∈ gT, w.before (xa X) (xs X) = true) ∧ Gk E (xs X) ∧ (∀ q, (xs X).heap.size ≤ q → xA X q) ∧ xR X = R0
/-- the contract of a constructor, or of a static method: over the world ws it returns v, and the world is 'out' of some addresses -/
def Ci (l : Launch) (E : ET) (M : MT) (args : List Value) (ws : va_W) (v : Option Value) (out : (Nat → Nat) → va_W) : Prop :=
  ∀ sz : Nat, Met l M.1 (.code M.1 M.2.1 M.2.2.1 M.2.2.2.1 :: gT) M.2.2.2.2 (va_Pc args (fun U => U.heap.size = sz ∧ va_P E.1 vwCl ws U.heap ∧ va_D (fun _ => True) ws ∧ Gk E U)) (fun _ st o t => o = .returned v ∧ (∃ qs : Nat → Nat, va_P E.1 vwCl (out qs) t.heap ∧ va_D (va_A ws sz) (out qs)) ∧ va_F (va_A ws sz) st t) M.2.2.2.2.cells M.2.2.2.2.slots (va_A ws sz)
/-- its aim -/
def Gx (X : XT) (E : ET) (r : Option FieldType) (v : Option Value) (out : (Nat → Nat) → va_W) (k n : Nat) : Prop :=
  xQ X = MQ (xb X) (fun _ st o t => o = .returned v ∧ (∃ qs : Nat → Nat, va_P E.1 vwCl (out qs) t.heap ∧ va_D (xA X) (out qs)) ∧ va_F (xA X) st t) (xa X) (xs X) k n (xA X) ∧ (xM X).sig.returnType = r ∧ (xM X).locks = false
theorem Ci.of {l : Launch} {E : ET} {y : MethodName} {b : ByteArray} {nl : Nat} {r : Option FieldType} {rm : Room} {args : List Value} {ws : va_W} {v : Option Value} {out : (Nat → Nat) → va_W} {L : List (Option Value)}
    (hy : plainName y.cls = true) (hc : args.all (fun v => v.category == 1) = true) (hn : args.length ≤ nl) (hL : args.map some ++ List.replicate (nl - args.length) none = L)
    (body : ∀ X : XT, GC X E b y.cls nl rm → (xM X).name = y.name → Gx X E r v out rm.cells rm.slots → G X E 0 L [] ws 0 0) : Ci l E (y, b, nl, r, rm) args ws v out := by
  have hc' : ∀ v ∈ args, v.category = 1 := fun v hv => by simpa using List.all_eq_true.mp hc v hv
  intro sz
  refine Met.ofW (cc := b) (maxL := nl) (ret := r) hy rfl ?_
  intro p e s m args' below meth c s₁ B hml hv
  obtain ⟨rfl, hsz, hP, hD, hK⟩ := hv
  have hts := atoms_spec (ws := Cond.code y b nl r :: gT) B.pre
  have hown : s.vm.findClass y.cls = some m.cls := findClass_of_methodNamed B.named
  have hin : meth.name = y.name := (name_of_methodNamed B.named B.method).1
  subst hsz
  have h := body (p, l, e, rm, s, m, args.toArray, below, meth, c, va_A ws s.heap.size, MQ below (fun _ st o t => o = .returned v ∧ (∃ qs : Nat → Nat, va_P E.1 vwCl (out qs) t.heap ∧ va_D (va_A ws s.heap.size) (out qs)) ∧ va_F (va_A ws s.heap.size) st t) args.toArray s rm.cells rm.slots (va_A ws s.heap.size), 0, 0)
    ⟨B.exec, B.bytes, hml, hown, fun w hw => hts w (List.mem_cons_of_mem _ hw), hK, fun q hq => Or.inr hq, rfl⟩ hin ⟨rfl, B.returns, B.notSynchronized⟩
  rw [lg_entry_eq]
  have hl := lvO_entry (n := nl) hc' hn hL
  refine h s.heap [] _ hP hD.self va_S.rf ?_
  show lvO _ c.maxLocals L
  rw [hml]
  exact hl
section
variable {X : XT} {E : ET} {cc : ByteArray} {own : String} {nL : Nat} {R0 : Room} {pc : Nat} {L : List (Option Value)} {st : List Value} {ws : va_W} {k n : Nat}
theorem g_iconst (hC : GC X E cc own nL R0) {i : Int} {v : Int32} (hd : decode cc pc = .ok (.iconst i, 1)) (hv : Int32.ofInt i = v) (kk : G X E (pc + 1) L (.int v :: st) ws k n) : G X E pc L (st) ws k n := fun H locs ls hP hD hS hl => lv_iconst hC.1 hC.2.1 hd hv (kk H locs ls hP hD hS hl)
theorem g_bipush (hC : GC X E cc own nL R0) {i : Int} {v : Int32} (hd : decode cc pc = .ok (.bipush i, 2)) (hv : (Int8.ofInt i).toInt32 = v) (kk : G X E (pc + 2) L (.int v :: st) ws k n) : G X E pc L (st) ws k n := fun H locs ls hP hD hS hl => lv_bipush hC.1 hC.2.1 hd hv (kk H locs ls hP hD hS hl)
theorem g_sipush (hC : GC X E cc own nL R0) {i : Int} {v : Int32} (hd : decode cc pc = .ok (.sipush i, 3)) (hv : (Int16.ofInt i).toInt32 = v) (kk : G X E (pc + 3) L (.int v :: st) ws k n) : G X E pc L (st) ws k n := fun H locs ls hP hD hS hl => lv_sipush hC.1 hC.2.1 hd hv (kk H locs ls hP hD hS hl)
theorem g_iadd (hC : GC X E cc own nL R0) {x y : Int32} (hd : decode cc pc = .ok (.iadd, 1))  (kk : G X E (pc + 1) L (.int (x + y) :: st) ws k n) : G X E pc L (.int y :: .int x :: st) ws k n := fun H locs ls hP hD hS hl => lv_iadd hC.1 hC.2.1 hd  (kk H locs ls hP hD hS hl)
theorem g_isub (hC : GC X E cc own nL R0) {x y : Int32} (hd : decode cc pc = .ok (.isub, 1))  (kk : G X E (pc + 1) L (.int (x - y) :: st) ws k n) : G X E pc L (.int y :: .int x :: st) ws k n := fun H locs ls hP hD hS hl => lv_isub hC.1 hC.2.1 hd  (kk H locs ls hP hD hS hl)
theorem g_imul (hC : GC X E cc own nL R0) {x y : Int32} (hd : decode cc pc = .ok (.imul, 1))  (kk : G X E (pc + 1) L (.int (x * y) :: st) ws k n) : G X E pc L (.int y :: .int x :: st) ws k n := fun H locs ls hP hD hS hl => lv_imul hC.1 hC.2.1 hd  (kk H locs ls hP hD hS hl)
theorem g_idiv (hC : GC X E cc own nL R0) {x y : Int32} (hd : decode cc pc = .ok (.idiv, 1)) (hne : ¬ y = 0) (kk : G X E (pc + 1) L (.int (x / y) :: st) ws k n) : G X E pc L (.int y :: .int x :: st) ws k n := fun H locs ls hP hD hS hl => lv_idiv hC.1 hC.2.1 hd hne (kk H locs ls hP hD hS hl)
theorem g_iaddN (hC : GC X E cc own nL R0) {i j : Nat} (hd : decode cc pc = .ok (.iadd, 1)) (kk : G X E (pc + 1) L (.int (nI (i + j)) :: st) ws k n) : G X E pc L (.int (nI j) :: .int (nI i) :: st) ws k n := g_iadd hC hd (by rw [nI_add]; exact kk)
theorem g_imulN (hC : GC X E cc own nL R0) {i j : Nat} (hd : decode cc pc = .ok (.imul, 1)) (kk : G X E (pc + 1) L (.int (nI (i * j)) :: st) ws k n) : G X E pc L (.int (nI j) :: .int (nI i) :: st) ws k n := g_imul hC hd (by rw [pk_mul]; exact kk)
theorem g_isubN (hC : GC X E cc own nL R0) {i j : Nat} (hd : decode cc pc = .ok (.isub, 1)) (h : j ≤ i) (kk : G X E (pc + 1) L (.int (nI (i - j)) :: st) ws k n) : G X E pc L (.int (nI j) :: .int (nI i) :: st) ws k n := g_isub hC hd (by rw [pk_sub h]; exact kk)
theorem g_dup (hC : GC X E cc own nL R0) {v : Value} (hc : v.category = 1) (hd : decode cc pc = .ok (.dup, 1)) (kk : G X E (pc + 1) L (v :: v :: st) ws k n) : G X E pc L (v :: st) ws k n := fun H locs ls hP hD hS hl => lv_dup hC.1 hC.2.1 hd hc (kk H locs ls hP hD hS hl)
theorem g_icge (hC : GC X E cc own nL R0) {x y : Int32} {off : Int} {tgt : Nat} (hd : decode cc pc = .ok (.if_icmp .ge off, 3)) (ht : (pc : Int) + off = (tgt : Int)) (kt : y ≤ x → G X E tgt L st ws k n) (kf : ¬ y ≤ x → G X E (pc + 3) L st ws k n) : G X E pc L (.int y :: .int x :: st) ws k n := fun H locs ls hP hD hS hl => lv_icmp_ge hC.1 hC.2.1 hd ht (fun h => kt h H locs ls hP hD hS hl) (fun h => kf h H locs ls hP hD hS hl)
theorem g_goto (hC : GC X E cc own nL R0) {off : Int} {tgt : Nat} (hd : decode cc pc = .ok (.goto off, 3)) (ht : (pc : Int) + off = (tgt : Int)) (kk : G X E tgt L st ws k n) : G X E pc L st ws k n := fun H locs ls hP hD hS hl => lv_goto hC.1 hC.2.1 hd ht (kk H locs ls hP hD hS hl)
theorem g_iload_0 (hC : GC X E cc own nL R0) {x : Int32} (hd : decode cc pc = .ok (.iload_n 0, 1)) (kk : G X E (pc + 1) (some (.int x) :: L) (.int x :: st) ws k n) : G X E pc (some (.int x) :: L) st ws k n := fun H locs ls hP hD hS hl => lv_iload_n hC.1 hC.2.1 hd rfl (hl.2.2 0 _ rfl) (kk H locs ls hP hD hS hl)
theorem g_istore_0 (hC : GC X E cc own nL R0) {a0 : Option Value} {x : Int32} (hn : 0 < nL) (hd : decode cc pc = .ok (.istore_n 0, 1)) (kk : G X E (pc + 1) (some (.int x) :: L) st ws k n) : G X E pc (a0 :: L) (.int x :: st) ws k n := fun H locs ls hP hD hS hl => lv_istore_n hC.1 hC.2.1 hd rfl hl.has (by rw [hC.2.2.1]; exact hn) rfl (fun ls2 h2 => kk H locs ls2 hP hD hS (lvO.store1 (L := a0 :: L) h2 rfl))
theorem g_aload_0 (hC : GC X E cc own nL R0) {x : Nat} (hd : decode cc pc = .ok (.aload_n 0, 1)) (kk : G X E (pc + 1) (some (.ref x) :: L) (.ref x :: st) ws k n) : G X E pc (some (.ref x) :: L) st ws k n := fun H locs ls hP hD hS hl => lv_aload_n hC.1 hC.2.1 hd rfl (hl.2.2 0 _ rfl) (kk H locs ls hP hD hS hl)
theorem g_astore_0 (hC : GC X E cc own nL R0) {a0 : Option Value} {x : Nat} (hn : 0 < nL) (hd : decode cc pc = .ok (.astore_n 0, 1)) (kk : G X E (pc + 1) (some (.ref x) :: L) st ws k n) : G X E pc (a0 :: L) (.ref x :: st) ws k n := fun H locs ls hP hD hS hl => lv_astore_n hC.1 hC.2.1 hd rfl hl.has (by rw [hC.2.2.1]; exact hn) rfl (fun ls2 h2 => kk H locs ls2 hP hD hS (lvO.store1 (L := a0 :: L) h2 rfl))
theorem g_iinc1_0 (hC : GC X E cc own nL R0) {j : Nat} (hn : 0 < nL) (hd : decode cc pc = .ok (.iinc 0 1, 3)) (kk : G X E (pc + 3) (some (.int (nI (j + 1))) :: L) st ws k n) : G X E pc (some (.int (nI j)) :: L) st ws k n := fun H locs ls hP hD hS hl => by
  obtain ⟨kx, hkk⟩ := List.getElem?_of_mem (lvL_mem (L := some (.int (nI j)) :: L) (i := 0) (k := 0) rfl)
  exact lv_iinc hC.1 hC.2.1 hd hl.has (by rw [hkk, Nat.zero_add]) (nI_1 j) (by rw [hC.2.2.1]; exact hn) rfl (fun ls2 h2 => kk H locs ls2 hP hD hS (lvO.store1 (L := some (.int (nI j)) :: L) h2 rfl))
theorem g_iload_1 (hC : GC X E cc own nL R0) {a0 : Option Value} {x : Int32} (hd : decode cc pc = .ok (.iload_n 1, 1)) (kk : G X E (pc + 1) (a0 :: some (.int x) :: L) (.int x :: st) ws k n) : G X E pc (a0 :: some (.int x) :: L) st ws k n := fun H locs ls hP hD hS hl => lv_iload_n hC.1 hC.2.1 hd rfl (hl.2.2 1 _ rfl) (kk H locs ls hP hD hS hl)
theorem g_istore_1 (hC : GC X E cc own nL R0) {a0 a1 : Option Value} {x : Int32} (hn : 1 < nL) (hc : catO a0 = true) (hd : decode cc pc = .ok (.istore_n 1, 1)) (kk : G X E (pc + 1) (a0 :: some (.int x) :: L) st ws k n) : G X E pc (a0 :: a1 :: L) (.int x :: st) ws k n := fun H locs ls hP hD hS hl => lv_istore_n hC.1 hC.2.1 hd rfl hl.has (by rw [hC.2.2.1]; exact hn) rfl (fun ls2 h2 => kk H locs ls2 hP hD hS (lvO.store1 (L := a0 :: a1 :: L) h2 hc))
theorem g_aload_1 (hC : GC X E cc own nL R0) {a0 : Option Value} {x : Nat} (hd : decode cc pc = .ok (.aload_n 1, 1)) (kk : G X E (pc + 1) (a0 :: some (.ref x) :: L) (.ref x :: st) ws k n) : G X E pc (a0 :: some (.ref x) :: L) st ws k n := fun H locs ls hP hD hS hl => lv_aload_n hC.1 hC.2.1 hd rfl (hl.2.2 1 _ rfl) (kk H locs ls hP hD hS hl)
theorem g_astore_1 (hC : GC X E cc own nL R0) {a0 a1 : Option Value} {x : Nat} (hn : 1 < nL) (hc : catO a0 = true) (hd : decode cc pc = .ok (.astore_n 1, 1)) (kk : G X E (pc + 1) (a0 :: some (.ref x) :: L) st ws k n) : G X E pc (a0 :: a1 :: L) (.ref x :: st) ws k n := fun H locs ls hP hD hS hl => lv_astore_n hC.1 hC.2.1 hd rfl hl.has (by rw [hC.2.2.1]; exact hn) rfl (fun ls2 h2 => kk H locs ls2 hP hD hS (lvO.store1 (L := a0 :: a1 :: L) h2 hc))
theorem g_iinc1_1 (hC : GC X E cc own nL R0) {a0 : Option Value} {j : Nat} (hn : 1 < nL) (hc : catO a0 = true) (hd : decode cc pc = .ok (.iinc 1 1, 3)) (kk : G X E (pc + 3) (a0 :: some (.int (nI (j + 1))) :: L) st ws k n) : G X E pc (a0 :: some (.int (nI j)) :: L) st ws k n := fun H locs ls hP hD hS hl => by
  obtain ⟨kx, hkk⟩ := List.getElem?_of_mem (lvL_mem (L := a0 :: some (.int (nI j)) :: L) (i := 0) (k := 1) rfl)
  exact lv_iinc hC.1 hC.2.1 hd hl.has (by rw [hkk, Nat.zero_add]) (nI_1 j) (by rw [hC.2.2.1]; exact hn) rfl (fun ls2 h2 => kk H locs ls2 hP hD hS (lvO.store1 (L := a0 :: some (.int (nI j)) :: L) h2 hc))
theorem g_iload_2 (hC : GC X E cc own nL R0) {a0 a1 : Option Value} {x : Int32} (hd : decode cc pc = .ok (.iload_n 2, 1)) (kk : G X E (pc + 1) (a0 :: a1 :: some (.int x) :: L) (.int x :: st) ws k n) : G X E pc (a0 :: a1 :: some (.int x) :: L) st ws k n := fun H locs ls hP hD hS hl => lv_iload_n hC.1 hC.2.1 hd rfl (hl.2.2 2 _ rfl) (kk H locs ls hP hD hS hl)
theorem g_istore_2 (hC : GC X E cc own nL R0) {a0 a1 a2 : Option Value} {x : Int32} (hn : 2 < nL) (hc : catO a1 = true) (hd : decode cc pc = .ok (.istore_n 2, 1)) (kk : G X E (pc + 1) (a0 :: a1 :: some (.int x) :: L) st ws k n) : G X E pc (a0 :: a1 :: a2 :: L) (.int x :: st) ws k n := fun H locs ls hP hD hS hl => lv_istore_n hC.1 hC.2.1 hd rfl hl.has (by rw [hC.2.2.1]; exact hn) rfl (fun ls2 h2 => kk H locs ls2 hP hD hS (lvO.store1 (L := a0 :: a1 :: a2 :: L) h2 hc))
theorem g_aload_2 (hC : GC X E cc own nL R0) {a0 a1 : Option Value} {x : Nat} (hd : decode cc pc = .ok (.aload_n 2, 1)) (kk : G X E (pc + 1) (a0 :: a1 :: some (.ref x) :: L) (.ref x :: st) ws k n) : G X E pc (a0 :: a1 :: some (.ref x) :: L) st ws k n := fun H locs ls hP hD hS hl => lv_aload_n hC.1 hC.2.1 hd rfl (hl.2.2 2 _ rfl) (kk H locs ls hP hD hS hl)
theorem g_astore_2 (hC : GC X E cc own nL R0) {a0 a1 a2 : Option Value} {x : Nat} (hn : 2 < nL) (hc : catO a1 = true) (hd : decode cc pc = .ok (.astore_n 2, 1)) (kk : G X E (pc + 1) (a0 :: a1 :: some (.ref x) :: L) st ws k n) : G X E pc (a0 :: a1 :: a2 :: L) (.ref x :: st) ws k n := fun H locs ls hP hD hS hl => lv_astore_n hC.1 hC.2.1 hd rfl hl.has (by rw [hC.2.2.1]; exact hn) rfl (fun ls2 h2 => kk H locs ls2 hP hD hS (lvO.store1 (L := a0 :: a1 :: a2 :: L) h2 hc))
theorem g_iinc1_2 (hC : GC X E cc own nL R0) {a0 a1 : Option Value} {j : Nat} (hn : 2 < nL) (hc : catO a1 = true) (hd : decode cc pc = .ok (.iinc 2 1, 3)) (kk : G X E (pc + 3) (a0 :: a1 :: some (.int (nI (j + 1))) :: L) st ws k n) : G X E pc (a0 :: a1 :: some (.int (nI j)) :: L) st ws k n := fun H locs ls hP hD hS hl => by
  obtain ⟨kx, hkk⟩ := List.getElem?_of_mem (lvL_mem (L := a0 :: a1 :: some (.int (nI j)) :: L) (i := 0) (k := 2) rfl)
  exact lv_iinc hC.1 hC.2.1 hd hl.has (by rw [hkk, Nat.zero_add]) (nI_1 j) (by rw [hC.2.2.1]; exact hn) rfl (fun ls2 h2 => kk H locs ls2 hP hD hS (lvO.store1 (L := a0 :: a1 :: some (.int (nI j)) :: L) h2 hc))
theorem g_iload_3 (hC : GC X E cc own nL R0) {a0 a1 a2 : Option Value} {x : Int32} (hd : decode cc pc = .ok (.iload_n 3, 1)) (kk : G X E (pc + 1) (a0 :: a1 :: a2 :: some (.int x) :: L) (.int x :: st) ws k n) : G X E pc (a0 :: a1 :: a2 :: some (.int x) :: L) st ws k n := fun H locs ls hP hD hS hl => lv_iload_n hC.1 hC.2.1 hd rfl (hl.2.2 3 _ rfl) (kk H locs ls hP hD hS hl)
theorem g_istore_3 (hC : GC X E cc own nL R0) {a0 a1 a2 a3 : Option Value} {x : Int32} (hn : 3 < nL) (hc : catO a2 = true) (hd : decode cc pc = .ok (.istore_n 3, 1)) (kk : G X E (pc + 1) (a0 :: a1 :: a2 :: some (.int x) :: L) st ws k n) : G X E pc (a0 :: a1 :: a2 :: a3 :: L) (.int x :: st) ws k n := fun H locs ls hP hD hS hl => lv_istore_n hC.1 hC.2.1 hd rfl hl.has (by rw [hC.2.2.1]; exact hn) rfl (fun ls2 h2 => kk H locs ls2 hP hD hS (lvO.store1 (L := a0 :: a1 :: a2 :: a3 :: L) h2 hc))
theorem g_aload_3 (hC : GC X E cc own nL R0) {a0 a1 a2 : Option Value} {x : Nat} (hd : decode cc pc = .ok (.aload_n 3, 1)) (kk : G X E (pc + 1) (a0 :: a1 :: a2 :: some (.ref x) :: L) (.ref x :: st) ws k n) : G X E pc (a0 :: a1 :: a2 :: some (.ref x) :: L) st ws k n := fun H locs ls hP hD hS hl => lv_aload_n hC.1 hC.2.1 hd rfl (hl.2.2 3 _ rfl) (kk H locs ls hP hD hS hl)
theorem g_astore_3 (hC : GC X E cc own nL R0) {a0 a1 a2 a3 : Option Value} {x : Nat} (hn : 3 < nL) (hc : catO a2 = true) (hd : decode cc pc = .ok (.astore_n 3, 1)) (kk : G X E (pc + 1) (a0 :: a1 :: a2 :: some (.ref x) :: L) st ws k n) : G X E pc (a0 :: a1 :: a2 :: a3 :: L) (.ref x :: st) ws k n := fun H locs ls hP hD hS hl => lv_astore_n hC.1 hC.2.1 hd rfl hl.has (by rw [hC.2.2.1]; exact hn) rfl (fun ls2 h2 => kk H locs ls2 hP hD hS (lvO.store1 (L := a0 :: a1 :: a2 :: a3 :: L) h2 hc))
theorem g_iinc1_3 (hC : GC X E cc own nL R0) {a0 a1 a2 : Option Value} {j : Nat} (hn : 3 < nL) (hc : catO a2 = true) (hd : decode cc pc = .ok (.iinc 3 1, 3)) (kk : G X E (pc + 3) (a0 :: a1 :: a2 :: some (.int (nI (j + 1))) :: L) st ws k n) : G X E pc (a0 :: a1 :: a2 :: some (.int (nI j)) :: L) st ws k n := fun H locs ls hP hD hS hl => by
  obtain ⟨kx, hkk⟩ := List.getElem?_of_mem (lvL_mem (L := a0 :: a1 :: a2 :: some (.int (nI j)) :: L) (i := 0) (k := 3) rfl)
  exact lv_iinc hC.1 hC.2.1 hd hl.has (by rw [hkk, Nat.zero_add]) (nI_1 j) (by rw [hC.2.2.1]; exact hn) rfl (fun ls2 h2 => kk H locs ls2 hP hD hS (lvO.store1 (L := a0 :: a1 :: a2 :: some (.int (nI j)) :: L) h2 hc))
theorem g_forget_2 {a0 a1 w : Option Value} (kk : G X E pc (a0 :: a1 :: none :: L) st ws k n) : G X E pc (a0 :: a1 :: w :: L) st ws k n := fun H locs ls hP hD hS hl => kk H locs ls hP hD hS ⟨hl.1, hl.2.1, fun i v hi => hl.2.2 i v (by match i, hi with
  | 0, hi => exact hi
  | 1, hi => exact hi
  | 2, hi => cases hi
  | i + 3, hi => exact hi)⟩
theorem g_get (hC : GC X E cc own nL R0) {q0 a idx ci i : Nat} {fs : List Value} {v : Value} (hF : FL own idx ci i) (he : ws[q0]? = some (a, .inr (ci, fs))) (hv : fs[i]? = some v) (hd : decode cc pc = .ok (.getfield idx, 3)) (kk : G X E (pc + 3) L (v :: st) ws k n) : G X E pc L (.ref a :: st) ws k n := fun H locs ls hP hD hS hl => by
  obtain ⟨Cn, T, N, h1, h2, h3, h4⟩ := hF
  rcases h4 with h4 | ⟨host, h4⟩
  · exact va_get hC.1 hC.2.1 hC.2.2.2.2.1 h3 hC.2.2.2.1 hC.2.2.2.2.2.1.1 hP q0 he h1 i h2 (hC.2.2.2.2.1 _ h4) (fun _ h => h) hv hd (kk H locs ls hP hD hS hl)
  · exact va_getN hC.1 hC.2.1 hC.2.2.2.2.1 h3 hC.2.2.2.1 hC.2.2.2.2.2.1.1 hP q0 he h1 i h2 (va_Nw.use rfl (hC.2.2.2.2.2.1.2.2 _ h4)) (fun _ h => h) hv hd (kk H locs ls hP hD hS hl)
theorem g_put (hC : GC X E cc own nL R0) {q0 a idx ci i : Nat} {fs : List Value} {x : Int32} {ty : FieldType} {ws2 : va_W} (hF : FP own idx ci i ty) (hn : narrow ty (.int x) = .int x) (hft : fits ty (.int x) = true) (he : ws[q0]? = some (a, .inr (ci, fs))) (hl0 : i < fs.length) (hw : ws.set q0 (a, .inr (ci, fs.set i (.int x))) = ws2) (hd : decode cc pc = .ok (.putfield idx, 3)) (kk : G X E (pc + 3) L st ws2 k n) : G X E pc L (.int x :: .ref a :: st) ws k n := fun H locs ls hP hD hS hl => by
  obtain ⟨Cn, T, N, ty0, q1, q2, q3, q4, q5, q6, q7, q8⟩ := hF
  refine va_put hC.1 hC.2.1 hC.2.2.2.2.1 q3 ty0 q4 q5 hC.2.2.2.1 hC.2.2.2.2.2.1.1 hP hD hS q0 he q1 i q2 (hC.2.2.2.2.1 _ q8) (fun _ h => h) q6 (by rw [q4 i q2, q7]) hn hft hl0 hd (fun H1 locs1 hP1 hD1 hS1 => ?_)
  rw [hw] at hP1 hD1
  exact kk H1 locs1 ls hP1 hD1 hS1 hl
/-- a final field's link for writing in the constructor -/
def FF (own : String) (idx ci i : Nat) : Prop := ∃ (Cn : String) (T : u_T) (N : Nat) (ty0 : Nat → FieldType), vwCl[ci]? = some (Cn, T, N) ∧ i < N ∧ (∀ w ∈ u_ws Cn T N, w ∈ gT) ∧ (∀ k, k < N → parseFieldDescriptor (T k).2.2.1 = some (ty0 k)) ∧ (∀ a, a < N → ∀ b, b < N → a ≠ b → (T a).2.1 ≠ (T b).2.1) ∧ (T i).2.2.2 = true ∧ (T i).1 = own ∧ (∀ q : Nat, narrow (ty0 i) (.ref q) = .ref q ∧ fits (ty0 i) (.ref q) = true) ∧ Cond.fieldLink own idx (T i).1 (T i).2.1 (T i).2.2.1 ∈ gT
theorem g_putF (hC : GC X E cc own nL R0) (hm : (xM X).name = "<init>") {q0 a idx ci i r : Nat} {fs : List Value} {ws2 : va_W} (hF : FF own idx ci i) (he : ws[q0]? = some (a, .inr (ci, fs))) (hl0 : i < fs.length) (hw : ws.set q0 (a, .inr (ci, fs.set i (.ref r))) = ws2) (hd : decode cc pc = .ok (.putfield idx, 3)) (kk : G X E (pc + 3) L st ws2 k n) : G X E pc L (.ref r :: .ref a :: st) ws k n := fun H locs ls hP hD hS hl => by
  obtain ⟨Cn, T, N, ty0, q1, q2, q3, q4, q5, q6, q7, q8, q9⟩ := hF
  refine va_putF hC.1 hC.2.1 hC.2.2.2.2.1 q3 ty0 q4 q5 hC.2.2.2.1 hC.2.2.2.2.2.1.1 hP hD hS q0 he q1 i q2 (hC.2.2.2.2.1 _ q9) (fun _ h => h) q6 hm q7 (q4 i q2) (q8 r).1 (q8 r).2 hl0 hd (fun H1 locs1 hP1 hD1 hS1 => ?_)
  rw [hw] at hP1 hD1
  exact kk H1 locs1 ls hP1 hD1 hS1 hl
theorem P_rot {D : va_G} {c : Nat × va_E} {H : Heap} (h : va_P D vwCl (ws ++ [c]) H) : va_P D vwCl (c :: ws) H := by
  intro i q hi
  cases i with
  | zero => simp at hi; subst hi; exact h ws.length c (by simp)
  | succ i =>
    have hi : ws[i]? = some q := by simpa using hi
    exact h i q (by rw [List.getElem?_append_left (List.getElem?_eq_some_iff.mp hi).1]; exact hi)
theorem D_rot {A : Nat → Prop} {c : Nat × va_E} (h : va_D A (ws ++ [c])) : va_D A (c :: ws) := by
  have key : ∀ (i : Nat) (q : Nat × va_E), (c :: ws)[i]? = some q → (ws ++ [c])[if i = 0 then ws.length else i - 1]? = some q := by
    intro i q hi
    cases i with
    | zero => simp at hi; subst hi; simp
    | succ i =>
      have hi : ws[i]? = some q := by simpa using hi
      rw [if_neg (by omega), show i + 1 - 1 = i by omega, List.getElem?_append_left (List.getElem?_eq_some_iff.mp hi).1]
      exact hi
  refine ⟨fun i j p q h1 h2 e => ?_, fun i q h1 => h.2 _ q (key i q h1)⟩
  have h3 := h.1 _ _ p q (key i p h1) (key j q h2) e
  have l1 : i < ws.length + 1 := by simpa using (List.getElem?_eq_some_iff.mp h1).1
  have l2 : j < ws.length + 1 := by simpa using (List.getElem?_eq_some_iff.mp h2).1
  split at h3 <;> split at h3 <;> omega
theorem g_new (hC : GC X E cc own nL R0) {idx ci N : Nat} {Cn : String} {T : u_T} {ty : Nat → FieldType} {fs : List Value} (hin : ∀ w ∈ u_ws Cn T N, w ∈ gT) (hty : ∀ k, k < N → parseFieldDescriptor (T k).2.2.1 = some (ty k)) (h1 : Cond.classLink own idx Cn ∈ gT) (h2 : Cond.instantiable Cn N ∈ gT) (h3 : Cond.initialized Cn ∈ gT) (hc : vwCl[ci]? = some (Cn, T, N)) (hfs : ∀ j, j < N → defaultValue (ty j) = vp_V fs j) (hk : k + 1 ≤ R0.cells) (hn : n + N ≤ R0.slots) (hd : decode cc pc = .ok (.new idx, 3))
    (kk : ∀ q : Nat, G X E (pc + 3) L (.ref q :: st) ((q, .inr (ci, fs)) :: ws) (k + 1) (n + N)) : G X E pc L st ws k n := fun H locs ls hP hD hS hl =>
  va_new hC.1 hC.2.1 hC.2.2.2.2.1 hin ty hty hC.2.2.2.1 (hC.2.2.2.2.1 _ h1) (hC.2.2.2.2.1 _ h2) (hC.2.2.2.2.1 _ h3) hC.2.2.2.2.2.1.1 hP hD hS hC.2.2.2.2.2.2.1 hc hfs (by rw [hC.2.2.2.2.2.2.2]; exact hk) (by rw [hC.2.2.2.2.2.2.2]; exact hn) hd (fun q H1 hP1 hD1 hS1 => kk q H1 locs ls (P_rot hP1) (D_rot hD1) hS1 hl)
theorem g_newa (hC : GC X E cc own nL R0) {N : Nat} (ha : Cond.arrayClass .int ∈ gT) (hN : N < 2000) (hk : k + 1 ≤ R0.cells) (hn : n + N ≤ R0.slots) (hd : decode cc pc = .ok (.newarray .int, 2))
    (kk : ∀ q : Nat, G X E (pc + 2) L (.ref q :: st) ((q, .inl (E.2.1, N, .inl (fun _ => 0))) :: ws) (k + 1) (n + N)) : G X E pc L (.int (nI N) :: st) ws k n := fun H locs ls hP hD hS hl => by
  refine va_newaK hC.1 hC.2.1 (atype := .int) (hC.2.2.2.2.1 _ ha) rfl hd rfl (nI_pos (by omega)) (nI_clamp (by omega)) (by show N * 4 ≤ _; omega) (by rw [hC.2.2.2.2.2.2.2]; exact hk) (by rw [hC.2.2.2.2.2.2.2]; exact hn) rfl fun H1 cA e1 z1 o1 hAr hNm => ?_
  have hcI : (xs X).vm.findClass ("[" ++ FieldType.int.toString) = some E.2.1 := (hC.2.2.2.2.2.1.1.2 0 _ rfl).2
  have hcc : cA = E.2.1 := Option.some.inj (hNm.symm.trans hcI)
  subst hcc
  have hkp : ∀ (k : Nat) (x : Nat × va_E), ws[k]? = some x → H1[x.1]? = H[x.1]? := fun k x hx => o1 x.1 ((hP k x hx).lt)
  refine kk H.size H1 locs ls (P_rot ((hP.kept hkp).app (fun k x hx => ?_))) (D_rot (hD.push hP rfl (hC.2.2.2.2.2.2.1 _ hS.1))) ⟨Nat.le_trans hS.1 (by omega), fun x h1 h2 => (o1 x (Nat.lt_of_lt_of_le h1 hS.1)).trans (hS.2.1 x h1 h2), hS.2.2⟩ hl
  have hz : k < 1 := (List.getElem?_eq_some_iff.mp hx).1
  rw [show k = 0 by omega] at hx
  cases hx
  exact e1
theorem g_newq (hC : GC X E cc own nL R0) {idx : Nat} (h1 : Cond.classLink own idx "WellField$Sheet" ∈ gT) (hk : k + 1 ≤ R0.cells) (hn : n + 4 ≤ R0.slots) (hd : decode cc pc = .ok (.anewarray idx, 3))
    (kk : ∀ q : Nat, G X E (pc + 3) L (.ref q :: st) ((q, .inl (E.2.2.1, 4, .inr (.inr (.inr (.inr (fun _ => none)))))) :: ws) (k + 1) (n + 4)) : G X E pc L (.int (nI 4) :: st) ws k n := fun H locs ls hP hD hS hl => by
  refine va_newq (N' := 4) hC.1 hC.2.1 hC.2.2.2.1 (hC.2.2.2.2.1 _ h1) hC.2.2.2.2.2.1.2.1 hC.2.2.2.2.2.1.1 hP hD hS hC.2.2.2.2.2.2.1 (by decide) (by decide) (by decide) (by rw [hC.2.2.2.2.2.2.2]; exact hk) (by rw [hC.2.2.2.2.2.2.2]; exact hn) hd (fun q cA H1 hK1 hP1 hD1 hS1 => ?_)
  obtain ⟨-, -, -, -, -, e1⟩ := (hK1.2 2 _ rfl).2
  obtain ⟨-, -, -, -, -, e2⟩ := (hC.2.2.2.2.2.1.1.2 1 _ rfl).2
  have hcc : cA = E.2.2.1 := Option.some.inj (e1.symm.trans e2)
  subst hcc
  exact kk q H1 locs ls (P_rot hP1) (D_rot hD1) hS1 hl
theorem g_iast (hC : GC X E cc own nL R0) {q0 a N j : Nat} {f : Nat → Int32} {x : Int32} {ws2 : va_W} (he : ws[q0]? = some (a, .inl (E.2.1, N, .inl f))) (hj : j < N) (hN : N < 2000) (hw : ws.set q0 (a, .inl (E.2.1, N, .inl (upd f j x))) = ws2) (hd : decode cc pc = .ok (.iastore, 1)) (kk : G X E (pc + 1) L st ws2 k n) : G X E pc L (.int x :: .int (nI j) :: .ref a :: st) ws k n := fun H locs ls hP hD hS hl => by
  have hc : (nI j).toNatClampNeg = j := nI_clamp (by omega)
  refine va_iast hC.1 hC.2.1 hC.2.2.2.2.2.1.1 hP hD hS q0 0 he rfl (vp_in_nI hj (by omega)) hd (fun H1 locs1 hP1 hD1 hS1 => ?_)
  rw [hc, hw] at hP1 hD1
  exact kk H1 locs1 ls hP1 hD1 hS1 hl
theorem g_aast (hC : GC X E cc own nL R0) {q0 qk a v ci j : Nat} {f : Nat → Option Nat} {vs : List Value} {ws2 : va_W} {T : u_T} {N : Nat} (he : ws[q0]? = some (a, .inl (E.2.2.1, 4, .inr (.inr (.inr (.inr f)))))) (hv : ws[qk]? = some (v, .inr (ci, vs))) (hc : vwCl[ci]? = some ("WellField$Sheet", T, N)) (hj : j < 4) (hw : ws.set q0 (a, .inl (E.2.2.1, 4, .inr (.inr (.inr (.inr (va_up f j (some v))))))) = ws2) (hd : decode cc pc = .ok (.aastore, 1)) (kk : G X E (pc + 1) L st ws2 k n) : G X E pc L (.ref v :: .int (nI j) :: .ref a :: st) ws k n := fun H locs ls hP hD hS hl => by
  have hcl : (nI j).toNatClampNeg = j := nI_clamp (by omega)
  refine va_astq hC.1 hC.2.1 hC.2.2.2.2.2.1.1 hP hD hS q0 1 qk ci he rfl hv hc (vp_in_nI hj (by omega)) hd (fun H1 locs1 hP1 hD1 hS1 => ?_)
  rw [hcl, hw] at hP1 hD1
  exact kk H1 locs1 ls hP1 hD1 hS1 hl
theorem g_obj (hC : GC X E cc own nL R0) {a idx : Nat} (h1 : Cond.methodLink own idx Lib.objectInit ∈ gT) (h2 : Cond.instanceMethod Lib.objectInit ∈ gT) (h3 : Cond.code Lib.objectInit ⟨#[0xb1]⟩ 1 none ∈ gT) (hf : 1 ≤ R0.frames) (hlo : (st.map fun v => v.category).sum + 12 ≤ R0.locals) (hd : decode cc pc = .ok (.invokespecial idx, 3)) (kk : G X E (pc + 3) L st ws k n) : G X E pc L (.ref a :: st) ws k n := fun H locs ls hP hD hS hl => by
  refine W.objInit hC.1 hC.2.1 hC.2.2.2.1 (hC.2.2.2.2.1 _ h1) (hC.2.2.2.2.1 _ h2) (hC.2.2.2.2.1 _ h3) rfl hl.1 rfl hd (by rw [hC.2.2.2.2.2.2.2]; exact hf) (by rw [hC.2.2.2.2.2.2.2]; show 2 * 0 + _ + 12 ≤ _; omega) ?_
  exact kk H locs ls hP hD hS hl
theorem g_vret (hC : GC X E cc own nL R0) {out : (Nat → Nat) → va_W} (hT : Gx X E none none out k n) (qs : Nat → Nat) (hw : out qs = ws) (hd : decode cc pc = .ok (.return_, 1)) : G X E pc L [] ws k n := fun H locs ls hP hD hS hl => by
  rw [hT.1]
  exact W.vret hC.1 hC.2.1 hT.2.1 (fun t ht hW => ⟨rfl, ⟨qs, by rw [ht, hw]; exact hP, by rw [hw]; exact hD⟩, hS.F ht⟩) hS.2.2 hd hT.2.2
theorem g_iret (hC : GC X E cc own nL R0) {x : Int32} {out : (Nat → Nat) → va_W} (hT : Gx X E (some .int) (some (.int x)) out k n) (qs : Nat → Nat) (hw : out qs = ws) (hd : decode cc pc = .ok (.ireturn, 1)) : G X E pc L [.int x] ws k n := fun H locs ls hP hD hS hl => by
  rw [hT.1]
  exact W.iret hC.1 hC.2.1 hT.2.1 (fun t ht hW => ⟨rfl, ⟨qs, by rw [ht, hw]; exact hP, by rw [hw]; exact hD⟩, hS.F ht⟩) hS.2.2 hd hT.2.2
theorem callG {p : Program} {l : Launch} {e : Env} {R : Room} {s : State} {m : MethodId} {args : Array Value} {below : List Frame} {meth : Method} {c : Code} {H : Heap} {locs : List Loc} {cells slots mc ms : Nat} {Q : State → Prop} {ls : Array Slot} {rest st0 : List Value} {ar : Array Value} {A0 A1 : Nat → Prop} {H0 : Heap} {v : Option Value} {out : (Nat → Nat) → va_W}
    (hr : va_Run p l e R s m args below meth c H locs cells slots mc ms (F0 m pc ls st0) rest ((fun (_ : Array Value) (st : State) (o : Outcome) (t : State) => o = .returned v ∧ (∃ qs : Nat → Nat, va_P E.1 vwCl (out qs) t.heap ∧ va_D A1 (out qs)) ∧ va_F A1 st t) ar) A1) (hS : va_S A0 H0 H locs) (hA : ∀ q, A1 q → A0 q)
    (kk : ∀ (qs : Nat → Nat) (H1 : Heap) (locs1 : List Loc), va_P E.1 vwCl (out qs) H1 → va_D A0 (out qs) → va_S A0 H0 H1 locs1 → W p l e R s m args below meth c H1 locs1 (cells + mc) (slots + ms) Q (F0 m (pc + 3) ls (v.toList ++ rest))) : W p l e R s m args below meth c H locs cells slots Q (F0 m pc ls st0) := by
  intro T hT X
  obtain ⟨v2, st₀, t, T', L, h0, X', hL, e1, e2, ⟨hv, ⟨qs, hP, hD⟩, hz, hk⟩, stp⟩ := hr T hT X
  cases hv
  rw [h0] at hz hk
  obtain ⟨t2, a1, b1⟩ := kk qs T'.heap (locs ++ L) (by rw [e1]; exact hP) (hD.weaken (fun _ _ _ h => hA _ h))
    ⟨Nat.le_trans hS.1 (by rw [e1]; exact hz), fun q h1 h2 => by rw [e1, hk q (Nat.lt_of_lt_of_le h1 hS.1) (fun z => h2 (hA q z))]; exact hS.2.1 q h1 h2, fun q hq => by
      rcases List.mem_append.mp hq with h | h
      · exact hS.2.2 q h
      · exact hA _ (hL q h)⟩ T' rfl X'
  exact ⟨t2, stp t2 a1, b1⟩
theorem GC.pre (hC : GC X E cc own nL R0) {H : Heap} (hP : va_P E.1 vwCl ws H) (hD : va_D (xA X) ws) {args : List Value} (U : State) (hU : U.heap = H) (hW : (xs X).WarmedH U.vm) : U.heap.size = H.size ∧ va_P E.1 vwCl ws U.heap ∧ va_D (fun _ => True) ws ∧ Gk E U :=
  ⟨by rw [hU], by rw [hU]; exact hP, hD.weaken (fun _ _ _ _ => trivial), hC.2.2.2.2.2.1.warm hW⟩
theorem G_blind {E : ET} {ws : va_W} {args : List Value} {sz : Nat} : FrameBlind (va_Pc args (fun U => U.heap.size = sz ∧ va_P E.1 vwCl ws U.heap ∧ va_D (fun _ => True) ws ∧ Gk E U)) := by
  intro a U g mk h
  obtain ⟨h1, h2, h3, h4, h5⟩ := h
  exact ⟨h1, h2, h3, h4, ⟨va_K.moved (u := U) (U := U.calling g mk a) (Vm.Alike.refl U.vm) h5.1, va_AO.moved (u := U) (U := U.calling g mk a) (Vm.Alike.refl U.vm) h5.2.1, Nw.same (u := U) (U := U.calling g mk a) rfl h5.2.2⟩⟩
theorem G_free (hC : GC X E cc own nL R0) {H : Heap} {locs : List Loc} (hD : va_D (xA X) ws) (hS : va_S (xA X) (xs X).heap H locs) : ∀ q, va_A ws H.size q → xA X q := by
  rintro q (⟨i, e, h⟩ | h)
  · exact hD.2 i _ h
  · exact hC.2.2.2.2.2.2.1 q (Nat.le_trans hS.1 h)
def rmG (R0 : Room) (M : MT) (k n : Nat) : Prop := M.2.2.2.2.frames + 1 ≤ R0.frames ∧ 8 + (M.2.2.1 + 11) + M.2.2.2.2.locals ≤ R0.locals ∧ k + M.2.2.2.2.cells ≤ R0.cells ∧ n + M.2.2.2.2.slots ≤ R0.slots
/-- a constructor without arguments is called -/
theorem g_init (hC : GC X E cc own nL R0) {M : MT} {a idx : Nat} {out : (Nat → Nat) → va_W} (hl1 : lnk own idx M.1) (hok : okM M 0) (hnm : M.1.name = "<init>") (hret : M.2.2.2.1 = none) (hin : Cond.instanceMethod M.1 ∈ gT) (hM : Ci (xl X) E M [.ref a] ws none out) (hR : rmG R0 M k n) (hst : (st.map fun v => v.category).sum ≤ 8) (hd : decode cc pc = .ok (.invokespecial idx, 3))
    (kk : ∀ qs : Nat → Nat, G X E (pc + 3) L st (out qs) (k + M.2.2.2.2.cells) (n + M.2.2.2.2.slots)) : G X E pc L (.ref a :: st) ws k n := fun H locs ls hP hD hS hl => by
  obtain ⟨y, b, mL, r, rm⟩ := M
  have hret : r = none := hret
  subst hret
  have hts := hC.2.2.2.2.1
  have hRx := hC.2.2.2.2.2.2.2
  have hg := good_ws hok
  have hpre : PreS (xs X) H (va_Pc [.ref a] (fun U => U.heap.size = H.size ∧ va_P E.1 vwCl ws U.heap ∧ va_D (fun _ => True) ws ∧ Gk E U)) [.ref a] := ⟨G_blind, fun U hU hW => ⟨rfl, hC.pre hP hD (args := []) U hU hW⟩⟩
  refine callG (v := none) (rest := st) (out := out) (mc := rm.cells) (ms := rm.slots) ?_ hS (G_free hC hD hS) (fun qs H1 locs1 hP1 hD1 hS1 => kk qs H1 locs1 ls hP1 hD1 hS1 hl) (ar := ([.ref a] : List Value).toArray)
  rcases hl1 with hl1 | ⟨host, hl1⟩
  · exact va_runI (As := []) (g := F0 (xm X) pc ls (.ref a :: st)) (rest := st) ⟨hC.1, hC.2.1, rfl, hC.2.2.2.1, hts⟩ (hM H.size) ⟨callB_of 0 hts hg rfl rfl rfl (hts _ hok.1) (hts _ hl1) hok.2.2 (by rw [hRx]; exact ⟨hR.1, hR.2.1⟩), hnm, hts _ hin⟩ hpre rfl rfl hl.1 rfl (lv_room hst) hd (by rw [hRx]; exact ⟨hR.2.2.1, hR.2.2.2⟩)
  · exact va_runIN (As := []) (g := F0 (xm X) pc ls (.ref a :: st)) (rest := st) ⟨hC.1, hC.2.1, rfl, hC.2.2.2.1, hts⟩ (hM H.size) ⟨va_cnB 0 hts hg rfl rfl rfl (hC.2.2.2.2.2.1.2.2 _ hl1) (hts _ hok.1) hok.2.2 (by rw [hRx]; exact ⟨hR.1, hR.2.1⟩), hnm, hts _ hin⟩ hpre rfl rfl hl.1 rfl (lv_room hst) hd (by rw [hRx]; exact ⟨hR.2.2.1, hR.2.2.2⟩)
/-- a static method of two ints that answers an int and leaves the world -/
theorem g_cs2 (hC : GC X E cc own nL R0) {M : MT} {idx : Nat} {x y v : Int32} (hL : LkS own idx M 2) (hM : Ci (xl X) E M [.int x, .int y] ws (some (.int v)) (fun _ => ws)) (hR : rmOk R0 M) (hk : k ≤ R0.cells) (hn : n ≤ R0.slots) (hst : (st.map fun v => v.category).sum ≤ 8) (hd : decode cc pc = .ok (.invokestatic idx, 3))
    (kk : G X E (pc + 3) L (.int v :: st) ws k n) : G X E pc L (.int y :: .int x :: st) ws k n := fun H locs ls hP hD hS hl => by
  obtain ⟨ym, b, mL, r, ⟨f1, f2, f3, f4⟩⟩ := M
  obtain ⟨hl1, hok, hstt⟩ := hL
  have hts := hC.2.2.2.2.1
  have hRx := hC.2.2.2.2.2.2.2
  have hg := good_ws hok
  have hpre : PreS (xs X) H (va_Pc [.int x, .int y] (fun U => U.heap.size = H.size ∧ va_P E.1 vwCl ws U.heap ∧ va_D (fun _ => True) ws ∧ Gk E U)) [.int x, .int y] := ⟨G_blind, fun U hU hW => ⟨rfl, hC.pre hP hD (args := []) U hU hW⟩⟩
  have hM := hM H.size
  have h1 : _ = 0 := hR.2.2.1
  have h2 : _ = 0 := hR.2.2.2
  dsimp only at h1 h2
  subst h1
  subst h2
  refine callG (v := some (.int v)) (rest := st) (out := fun _ => ws) (mc := 0) (ms := 0) ?_ hS (G_free hC hD hS) (fun qs H1 locs1 hP1 hD1 hS1 => kk H1 locs1 ls hP1 hD1 hS1 hl) (ar := ([.int x, .int y] : List Value).toArray)
  rcases hl1 with hl1 | ⟨host, hl1⟩
  · exact va_runS (As := [.int x, .int y]) (g := F0 (xm X) pc ls (.int y :: .int x :: st)) (rest := st) ⟨hC.1, hC.2.1, rfl, hC.2.2.2.1, hts⟩ hM ⟨callB_of 2 hts hg rfl rfl rfl (hts _ hok.1) (hts _ hl1) hok.2.2 (by rw [hRx]; exact ⟨hR.1, hR.2.1⟩), hts _ hstt⟩ hpre rfl rfl hl.1 rfl (lv_room hst) hd (by rw [hRx]; exact ⟨hk, hn⟩)
  · exact va_runSN (As := [.int x, .int y]) (g := F0 (xm X) pc ls (.int y :: .int x :: st)) (rest := st) ⟨hC.1, hC.2.1, rfl, hC.2.2.2.1, hts⟩ hM ⟨va_cnB 2 hts hg rfl rfl rfl (hC.2.2.2.2.2.1.2.2 _ hl1) (hts _ hok.1) hok.2.2 (by rw [hRx]; exact ⟨hR.1, hR.2.1⟩), hts _ hstt, trivial⟩ hpre rfl rfl hl.1 rfl (lv_room hst) hd (by rw [hRx]; exact ⟨hk, hn⟩)
end
