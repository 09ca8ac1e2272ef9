/-- the ints of the cells: of the system (cells 0 to 53), of the reference (0 to 10) -/
abbrev St : Type := Nat → Nat → Int32
def wr (σ : St) (k j : Nat) (x : Int32) : St := fun a b => if a = k ∧ b = j then x else σ a b
def wrA (σ : St) (k : Nat) (f : Nat → Int32) : St := fun a => if a = k then f else σ a
theorem wr_ne {σ : St} {k j a : Nat} {x : Int32} (h : a ≠ k) : wr σ k j x a = σ a := by funext b; simp [wr, h]
theorem wr_row (σ : St) (k j : Nat) (x : Int32) : wr σ k j x k = upd (σ k) j x := by funext b; by_cases h : b = j <;> simp [wr, upd, h]
theorem wrA_ne {σ : St} {k a : Nat} {f : Nat → Int32} (h : a ≠ k) : wrA σ k f a = σ a := by simp [wrA, h]
theorem wrA_row (σ : St) (k : Nat) (f : Nat → Int32) : wrA σ k f k = f := by simp [wrA]
/-- the world's constants: the tables of the classes, the array classes, the addresses, the table COUNTS_TIMES -/
abbrev ET : Type := va_G × ClassId × ClassId × (Nat → Nat) × Nat
def adr (E : ET) (k : Nat) : Nat := E.2.2.2.1 k
def ent (E : ET) (σ μ : St) (k : Nat) : va_E := match k with
  | 0 => .inr (6, [.ref (adr E 1), .ref (adr E 23), .int (σ 0 2), .ref (adr E 45), .int (σ 0 4)])
  | 1 => .inr (4, [.ref (adr E 2), .ref (adr E 8), .ref (adr E 12), .ref (adr E 17), .ref (adr E 20), .ref (adr E 21), .ref (adr E 22)])
  | 2 => .inr (5, [.int (σ 2 0), .ref (adr E 3), .ref (adr E 4), .ref (adr E 5), .ref (adr E 6), .ref (adr E 7)])
  | 3 => .inl (E.2.1, 10, .inl (σ 3))
  | 4 => .inl (E.2.1, 10, .inl (σ 4))
  | 5 => .inl (E.2.1, 10, .inl (σ 5))
  | 6 => .inl (E.2.1, 10, .inl (σ 6))
  | 7 => .inl (E.2.1, 10, .inl (σ 7))
  | 8 => .inr (3, [.ref (adr E 9), .ref (adr E 10), .ref (adr E 11)])
  | 9 => .inl (E.2.1, 240, .inl (σ 9))
  | 10 => .inl (E.2.1, 12, .inl (σ 10))
  | 11 => .inl (E.2.1, 10, .inl (σ 11))
  | 12 => .inr (0, [.int (σ 12 0), .ref (adr E 13), .ref (adr E 14), .ref (adr E 15), .ref (adr E 16)])
  | 13 => .inl (E.2.1, 10, .inl (σ 13))
  | 14 => .inl (E.2.1, 10, .inl (σ 14))
  | 15 => .inl (E.2.1, 10, .inl (σ 15))
  | 16 => .inl (E.2.1, 10, .inl (σ 16))
  | 17 => .inr (1, [.int (σ 17 0), .ref (adr E 18), .ref (adr E 19)])
  | 18 => .inl (E.2.1, 240, .inl (σ 18))
  | 19 => .inl (E.2.1, 240, .inl (σ 19))
  | 20 => .inl (E.2.1, 240, .inl (σ 20))
  | 21 => .inl (E.2.1, 24, .inl (σ 21))
  | 22 => .inl (E.2.1, 240, .inl (σ 22))
  | 23 => .inr (4, [.ref (adr E 24), .ref (adr E 30), .ref (adr E 34), .ref (adr E 39), .ref (adr E 42), .ref (adr E 43), .ref (adr E 44)])
  | 24 => .inr (5, [.int (σ 24 0), .ref (adr E 25), .ref (adr E 26), .ref (adr E 27), .ref (adr E 28), .ref (adr E 29)])
  | 25 => .inl (E.2.1, 10, .inl (σ 25))
  | 26 => .inl (E.2.1, 10, .inl (σ 26))
  | 27 => .inl (E.2.1, 10, .inl (σ 27))
  | 28 => .inl (E.2.1, 10, .inl (σ 28))
  | 29 => .inl (E.2.1, 10, .inl (σ 29))
  | 30 => .inr (3, [.ref (adr E 31), .ref (adr E 32), .ref (adr E 33)])
  | 31 => .inl (E.2.1, 240, .inl (σ 31))
  | 32 => .inl (E.2.1, 12, .inl (σ 32))
  | 33 => .inl (E.2.1, 10, .inl (σ 33))
  | 34 => .inr (0, [.int (σ 34 0), .ref (adr E 35), .ref (adr E 36), .ref (adr E 37), .ref (adr E 38)])
  | 35 => .inl (E.2.1, 10, .inl (σ 35))
  | 36 => .inl (E.2.1, 10, .inl (σ 36))
  | 37 => .inl (E.2.1, 10, .inl (σ 37))
  | 38 => .inl (E.2.1, 10, .inl (σ 38))
  | 39 => .inr (1, [.int (σ 39 0), .ref (adr E 40), .ref (adr E 41)])
  | 40 => .inl (E.2.1, 240, .inl (σ 40))
  | 41 => .inl (E.2.1, 240, .inl (σ 41))
  | 42 => .inl (E.2.1, 240, .inl (σ 42))
  | 43 => .inl (E.2.1, 24, .inl (σ 43))
  | 44 => .inl (E.2.1, 240, .inl (σ 44))
  | 45 => .inl (E.2.2.1, 4, .inr (.inr (.inr (.inr (fun j => some (adr E (46 + j)))))))
  | 46 => .inr (2, [.int (σ 46 0), .int (σ 46 1), .ref (adr E 50)])
  | 47 => .inr (2, [.int (σ 47 0), .int (σ 47 1), .ref (adr E 51)])
  | 48 => .inr (2, [.int (σ 48 0), .int (σ 48 1), .ref (adr E 52)])
  | 49 => .inr (2, [.int (σ 49 0), .int (σ 49 1), .ref (adr E 53)])
  | 50 => .inl (E.2.1, 24, .inl (σ 50))
  | 51 => .inl (E.2.1, 24, .inl (σ 51))
  | 52 => .inl (E.2.1, 24, .inl (σ 52))
  | 53 => .inl (E.2.1, 24, .inl (σ 53))
  | 54 => .inr (7, [.ref (adr E 55), .ref (adr E 56), .int (μ 0 2), .ref (adr E 57), .ref (adr E 58), .ref (adr E 59), .int (μ 0 6), .ref (adr E 60), .ref (adr E 61), .ref (adr E 62), .ref (adr E 63), .ref (adr E 64)])
  | 55 => .inl (E.2.1, 1090, .inl (μ 1))
  | 56 => .inl (E.2.1, 1090, .inl (μ 2))
  | 57 => .inl (E.2.1, 4, .inl (μ 3))
  | 58 => .inl (E.2.1, 4, .inl (μ 4))
  | 59 => .inl (E.2.1, 96, .inl (μ 5))
  | 60 => .inl (E.2.1, 24, .inl (μ 6))
  | 61 => .inl (E.2.1, 240, .inl (μ 7))
  | 62 => .inl (E.2.1, 240, .inl (μ 8))
  | 63 => .inl (E.2.1, 10, .inl (μ 9))
  | 64 => .inl (E.2.1, 10, .inl (μ 10))
  | _ => .inl (E.2.1, 0, .inl (fun _ => 0))
theorem ent_same (E : ET) {σ σ' μ μ' : St} (i : Nat) (h : σ' i = σ i) (h2 : μ' (i - 54) = μ (i - 54)) : ent E σ' μ' i = ent E σ μ i := by
  unfold ent
  split <;> simp only [h, h2, Nat.reduceSub] at * <;> simp only [h2]
def mkW (E : ET) (σ μ : St) : va_W := (List.range 65).map (fun k => (adr E k, ent E σ μ k))
theorem mkW_get {E : ET} {σ μ : St} {k : Nat} (h : k < 65) : (mkW E σ μ)[k]? = some (adr E k, ent E σ μ k) := by simp [mkW, h]
theorem mkW_lt {E : ET} {σ μ : St} {k : Nat} {q : Nat × va_E} (h : (mkW E σ μ)[k]? = some q) : k < 65 ∧ q = (adr E k, ent E σ μ k) := by
  have hk : k < 65 := by
    have := (List.getElem?_eq_some_iff.mp h).1
    simpa [mkW] using this
  rw [mkW_get hk] at h
  exact ⟨hk, (Option.some.inj h).symm⟩
theorem mkW_set {E : ET} {σ μ σ' μ' : St} {k : Nat} {e : va_E} (h : k < 65) (h1 : ent E σ' μ' k = e) (h2 : ∀ j, j ≠ k → ent E σ' μ' j = ent E σ μ j) : (mkW E σ μ).set k (adr E k, e) = mkW E σ' μ' := by
  apply List.ext_getElem?
  intro i
  by_cases hi : i < 65
  · by_cases hk : i = k
    · subst hk
      rw [mkW_get hi, List.getElem?_set_self (by simp [mkW, hi]), h1]
    · rw [mkW_get hi, List.getElem?_set_ne (fun q => hk q.symm), mkW_get hi, h2 i hk]
  · rw [List.getElem?_eq_none (by simp [mkW]; omega), List.getElem?_eq_none (by simp [mkW]; omega)]
/-- cells of the system, of the reference, that are rows of ints -/
def isC (k n : Nat) : Prop := k < 54 ∧ n < 2000 ∧ ∀ (E : ET) (σ μ : St), ent E σ μ k = .inl (E.2.1, n, .inl (σ k))
def isM (k n : Nat) : Prop := k < 11 ∧ n < 2000 ∧ ∀ (E : ET) (σ μ : St), ent E σ μ (k + 54) = .inl (E.2.1, n, .inl (μ k))
/-- which cells may change -/
def AA (E : ET) : Nat → Prop := fun q => ∃ k, k < 65 ∧ q = adr E k
abbrev tyS (E : ET) : List (ClassId × FieldType) := [(E.2.1, .int), (E.2.2.1, .object "WellField$Sheet")]
def isNest : Cond → Bool
  | .fieldLinkNest _ _ _ _ _ _ => true
  | .methodLinkNest _ _ _ _ => true
  | _ => false
def gT : List Cond := lw_tbl.filter goodWord
def nT : List Cond := lw_tbl.filter isNest
theorem mem_gT {w : Cond} (i : Nat) (h : lw_tbl[i]? = some w) (hg : goodWord w = true) : w ∈ gT := List.mem_filter.mpr ⟨List.mem_of_getElem? h, hg⟩
theorem mem_nT {w : Cond} (i : Nat) (h : lw_tbl[i]? = some w) (hg : isNest w = true) : w ∈ nT := List.mem_filter.mpr ⟨List.mem_of_getElem? h, hg⟩
theorem gT_good {w : Cond} (h : w ∈ gT) : (w.onTables && w.keeps) = true ∨ ∃ ty, w = .arrayClass ty := good_of_word (List.mem_filter.mp h).2
def Nw (U : State) : Prop := ∀ w ∈ nT, va_Nw w U
theorem Nw.warm {s U : State} (hW : s.WarmedH U.vm) (h : Nw s) : Nw U := by
  intro w hw
  have h1 := h w hw
  have h2 := (List.mem_filter.mp hw).2
  cases w <;> first | (exact va_Nw.warmF hW h1) | (exact va_Nw.warmM hW h1) | (cases h2)
theorem Nw.same {u U : State} (hv : u.vm = U.vm) (h : Nw u) : Nw U := by
  intro w hw
  have h1 := h w hw
  have h2 := (List.mem_filter.mp hw).2
  cases w <;> first | (exact va_Nw.same rfl hv h1) | (cases h2)
def ctf (j : Nat) : Int32 := match j with
  | 0 => 1
  | 1 => 1
  | 2 => 1
  | 3 => -1
  | 4 => -1
  | _ => 0
/-- what holds of the tables, and of the row of constants that nobody writes -/
def Zk (E : ET) (A : Nat → Prop) (U : State) (H : Heap) : Prop := va_Z "WellField" "COUNTS_TIMES" "[I" (.ref E.2.2.2.2) A U H ∧ va_T .int E.2.2.2.2 6 (fun j => .int (ctf j)) A U H
def Wk (E : ET) (U : State) : Prop := va_K E.1 vwCl (tyS E) U ∧ (∀ i j, i < 65 → j < 65 → adr E i = adr E j → i = j) ∧ Nw U
def Wd (E : ET) (σ μ : St) (U : State) : Prop := va_P E.1 vwCl (mkW E σ μ) U.heap ∧ Wk E U ∧ Zk E (AA E) U U.heap
theorem Zk.kept {E : ET} {A : Nat → Prop} {U : State} {H H1 : Heap} (h : Zk E A U H) (hq : ∀ a : Nat, a < H.size → ¬ A a → H1[a]? = H[a]?) : Zk E A U H1 := ⟨h.1.kept hq, h.2.kept hq⟩
theorem Zk.moved {E : ET} {A : Nat → Prop} {u U : State} {H : Heap} (hvm : u.vm.Alike U.vm) (h : Zk E A u H) : Zk E A U H := ⟨h.1.moved hvm, h.2.moved hvm⟩
theorem Zk.narrow {E : ET} {A B : Nat → Prop} {U : State} {H : Heap} (h : Zk E A U H) (hAB : ∀ q, B q → A q) : Zk E B U H := ⟨h.1.narrow hAB, h.2.narrow hAB⟩
theorem Wk.warm {E : ET} {s U : State} (hW : s.WarmedH U.vm) (h : Wk E s) : Wk E U := ⟨va_K.moved hW.alike h.1, h.2.1, h.2.2.warm hW⟩
theorem Wd.blind {E : ET} {σ μ : St} {args : List Value} : FrameBlind (va_Pc args (Wd E σ μ)) := by
  intro a U g mk h
  obtain ⟨h1, h2, h3, h4⟩ := h
  exact ⟨h1, h2, ⟨va_K.moved (u := U) (U := U.calling g mk a) (Vm.Alike.refl U.vm) h3.1, h3.2.1, Nw.same (u := U) (U := U.calling g mk a) rfl h3.2.2⟩, ⟨va_Z.moved (u := U) (U := U.calling g mk a) (Vm.Alike.refl U.vm) h4.1, va_T.moved (u := U) (U := U.calling g mk a) (Vm.Alike.refl U.vm) h4.2⟩⟩
theorem mkW_D {E : ET} {σ μ : St} {A : Nat → Prop} (hi : ∀ i j, i < 65 → j < 65 → adr E i = adr E j → i = j) (hA : ∀ k, k < 65 → A (adr E k)) : va_D A (mkW E σ μ) := by
  refine ⟨fun i j p q h1 h2 h => ?_, fun k q h => ?_⟩
  · obtain ⟨a1, rfl⟩ := mkW_lt h1
    obtain ⟨a2, rfl⟩ := mkW_lt h2
    exact hi i j a1 a2 h
  · obtain ⟨a1, rfl⟩ := mkW_lt h
    exact hA k a1
/-- a method: its name, code, locals, type, room -/
abbrev MT : Type := MethodName × ByteArray × Nat × Option FieldType × Room
def Qr (E : ET) (v : Option Value) (σ μ : St) : Array Value → State → Outcome → State → Prop := fun _ st o t => o = .returned v ∧ va_P E.1 vwCl (mkW E σ μ) t.heap ∧ va_F (AA E) st t
/-- THE CONTRACT: called with these values over the world σ μ, the method returns v, and the world is σ' μ' -/
def Ct (l : Launch) (E : ET) (M : MT) (args : List Value) (σ μ : St) (v : Option Value) (σ' μ' : St) : Prop :=
  Met l M.1 (.code M.1 M.2.1 M.2.2.1 M.2.2.2.1 :: gT) M.2.2.2.2 (va_Pc args (Wd E σ μ)) (Qr E v σ' μ') 0 0 (AA E)
/-- the frame of a method that runs -/
abbrev XT : Type := Program × Launch × Env × Room × State × MethodId × Array Value × List Frame × Method × Code × (Nat → Prop) × (State → Prop) × Nat × Nat
def xp (X : XT) : Program := X.1
def xl (X : XT) : Launch := X.2.1
def xe (X : XT) : Env := X.2.2.1
def xR (X : XT) : Room := X.2.2.2.1
def xs (X : XT) : State := X.2.2.2.2.1
def xm (X : XT) : MethodId := X.2.2.2.2.2.1
def xa (X : XT) : Array Value := X.2.2.2.2.2.2.1
def xb (X : XT) : List Frame := X.2.2.2.2.2.2.2.1
def xM (X : XT) : Method := X.2.2.2.2.2.2.2.2.1
def xc (X : XT) : Code := X.2.2.2.2.2.2.2.2.2.1
def xA (X : XT) : Nat → Prop := X.2.2.2.2.2.2.2.2.2.2.1
def xQ (X : XT) : State → Prop := X.2.2.2.2.2.2.2.2.2.2.2.1
def xk (X : XT) : Nat := X.2.2.2.2.2.2.2.2.2.2.2.2.1
def xn (X : XT) : Nat := X.2.2.2.2.2.2.2.2.2.2.2.2.2
/-- the locals: what is known of each place -/
def lvO (ls : Array Slot) (nL : Nat) (L : List (Option Value)) : Prop := ls.size = nL ∧ lv_wf ls ∧ ∀ (k : Nat) (v : Value), L[k]? = some (some v) → ls[k]? = some (.val v)
def lvL : Nat → List (Option Value) → List (Nat × Value)
  | _, [] => []
  | i, none :: r => lvL (i + 1) r
  | i, some v :: r => (i, v) :: lvL (i + 1) r
theorem lvL_in {q : Nat × Value} : ∀ {L : List (Option Value)} {i : Nat}, q ∈ lvL i L → ∃ k, L[k]? = some (some q.2) ∧ q.1 = i + k
  | [], _, h => by cases h
  | none :: r, i, h => by
    obtain ⟨k, h1, h2⟩ := lvL_in (L := r) (i := i + 1) h
    exact ⟨k + 1, by simpa using h1, by omega⟩
  | some v :: r, i, h => by
    rcases List.mem_cons.mp h with rfl | h
    · exact ⟨0, by simp, by simp⟩
    · obtain ⟨k, h1, h2⟩ := lvL_in (L := r) (i := i + 1) h
      exact ⟨k + 1, by simpa using h1, by omega⟩
theorem lvL_mem {v : Value} : ∀ {L : List (Option Value)} {i k : Nat}, L[k]? = some (some v) → (i + k, v) ∈ lvL i L
  | [], _, _, h => by simp at h
  | none :: r, i, 0, h => by simp at h
  | none :: r, i, k + 1, h => by
    have := lvL_mem (L := r) (i := i + 1) (k := k) (by simpa using h)
    rw [show i + (k + 1) = i + 1 + k by omega]
    exact this
  | some w :: r, i, 0, h => by
    simp at h
    subst h
    exact List.mem_cons_self
  | some w :: r, i, k + 1, h => by
    have := lvL_mem (L := r) (i := i + 1) (k := k) (by simpa using h)
    rw [show i + (k + 1) = i + 1 + k by omega]
    exact List.mem_cons_of_mem _ this
theorem lvO.has {ls : Array Slot} {nL : Nat} {L : List (Option Value)} (h : lvO ls nL L) : lv_has ls nL (lvL 0 L) := by
  refine ⟨h.1, h.2.1, fun q hq => ?_⟩
  obtain ⟨k, h1, h2⟩ := lvL_in hq
  rw [h2, Nat.zero_add]
  exact h.2.2 k _ h1
/-- a value of one slot is stored at place i -/
theorem lvO.put1 {ls : Array Slot} {nL i : Nat} {v : Value} {L L' : List (Option Value)} (h : lv_has ls nL ((i, v) :: (lvL 0 L).filter (fun q => !(q.1 == i) && !(q.1 + 1 == i && q.2.category == 2))))
    (hL : ∀ (k : Nat) (w : Value), L'[k]? = some (some w) → (k = i ∧ w = v) ∨ (k ≠ i ∧ L[k]? = some (some w) ∧ (k + 1 = i → w.category = 1))) : lvO ls nL L' := by
  refine ⟨h.1, h.2.1, fun k w hk => ?_⟩
  rcases hL k w hk with ⟨rfl, rfl⟩ | ⟨h1, h2, h3⟩
  · exact h.2.2 (k, w) List.mem_cons_self
  · have h4 := lvL_mem (i := 0) h2
    rw [Nat.zero_add] at h4
    refine h.2.2 (k, w) (List.mem_cons_of_mem _ (List.mem_filter.mpr ⟨h4, ?_⟩))
    by_cases h5 : k + 1 = i
    · have := h3 h5
      simp [h1, h5, this]
    · simp [h1, h5]
theorem lvO.put2 {ls : Array Slot} {nL i : Nat} {v : Value} {L L' : List (Option Value)} (h : lv_has ls nL ((i, v) :: (lvL 0 L).filter (fun q => !(q.1 == i) && (!(q.1 == i + 1) && !(q.1 + 1 == i && q.2.category == 2)))))
    (hL : ∀ (k : Nat) (w : Value), L'[k]? = some (some w) → (k = i ∧ w = v) ∨ (k ≠ i ∧ k ≠ i + 1 ∧ L[k]? = some (some w) ∧ (k + 1 = i → w.category = 1))) : lvO ls nL L' := by
  refine ⟨h.1, h.2.1, fun k w hk => ?_⟩
  rcases hL k w hk with ⟨rfl, rfl⟩ | ⟨h1, h1', h2, h3⟩
  · exact h.2.2 (k, w) List.mem_cons_self
  · have h4 := lvL_mem (i := 0) h2
    rw [Nat.zero_add] at h4
    refine h.2.2 (k, w) (List.mem_cons_of_mem _ (List.mem_filter.mpr ⟨h4, ?_⟩))
    by_cases h5 : k + 1 = i
    · have := h3 h5
      simp [h1, h1', h5, this]
    · simp [h1, h1', h5]
/-- THE JUDGEMENT: from place pc, with these locals and this stack, over the world σ μ, the frame X comes to its end -/
def V (X : XT) (E : ET) (pc : Nat) (L : List (Option Value)) (st : List Value) (σ μ : St) : Prop :=
  ∀ (H : Heap) (locs : List Loc) (ls : Array Slot), va_P E.1 vwCl (mkW E σ μ) H → va_S (xA X) (xs X).heap H locs → lvO ls (xc X).maxLocals L → W (xp X) (xl X) (xe X) (xR X) (xs X) (xm X) (xa X) (xb X) (xM X) (xc X) H locs (xk X) (xn X) (xQ X) (F0 (xm X) pc ls st)
/-- its context: the code, the class that it stands in, its locals, its room -/
def Cx (X : XT) (E : ET) (cc : ByteArray) (own : String) (nL : Nat) (R0 : Room) : Prop :=
  (xp X).tables.exec = Jvm.exec ∧ (xc X).code = cc ∧ (xc X).maxLocals = nL ∧ (xs X).vm.findClass own = some (xm X).cls ∧ (∀ w ∈ gT, w.before (xa X) (xs X) = true) ∧ Wk E (xs X) ∧ Zk E (xA X) (xs X) (xs X).heap ∧ (∀ k, k < 65 → xA X (adr E k)) ∧ xR X = R0 ∧ xk X ≤ R0.cells ∧ xn X ≤ R0.slots
/-- its aim: it returns v, and the world is σ μ -/
def Tx (X : XT) (E : ET) (r : Option FieldType) (v : Option Value) (σ μ : St) : Prop :=
  xQ X = MQ (xb X) (Qr E v σ μ) (xa X) (xs X) (xk X) (xn X) (AA E) ∧ xA X = AA E ∧ (xM X).sig.returnType = r ∧ (xM X).locks = false
theorem cat_entry {args : List Value} (hc : ∀ v ∈ args, v.category = 1) : ∀ (i k : Nat) (v : Value), args[k]? = some v → (i + k, v) ∈ lv_args i args := by
  induction args with
  | nil => intro i k v h; simp at h
  | cons a t ih =>
    intro i k v h
    have ha : a.category = 1 := hc a List.mem_cons_self
    cases k with
    | zero =>
      simp at h
      subst h
      exact List.mem_cons_self
    | succ k =>
      have h2 := ih (fun w hw => hc w (List.mem_cons_of_mem _ hw)) (i + 1) k v (by simpa using h)
      refine List.mem_cons_of_mem _ ?_
      rw [if_neg (by omega), show i + (k + 1) = i + 1 + k by omega]
      exact h2
theorem cat_sl {args : List Value} (hc : ∀ v ∈ args, v.category = 1) : (lg_sl args).length = args.length := by
  induction args with
  | nil => rfl
  | cons a t ih =>
    have ha : a.category = 1 := hc a List.mem_cons_self
    have := ih (fun w hw => hc w (List.mem_cons_of_mem _ hw))
    simp [lg_sl, ha] at this ⊢
    exact this
theorem lvO_entry {args : List Value} {n : Nat} {L : List (Option Value)} (hc : ∀ v ∈ args, v.category = 1) (hn : args.length ≤ n) (hL : args.map some ++ List.replicate (n - args.length) none = L) : lvO (lg_sl args ++ List.replicate (n - (lg_sl args).length) Slot.unset).toArray n L := by
  have h := lv_entry args (n := n) (by rw [cat_sl hc]; exact hn)
  refine ⟨h.1, h.2.1, fun k v hk => ?_⟩
  rw [← hL] at hk
  have h1 : args[k]? = some v := by
    rcases Nat.lt_or_ge k args.length with q | q
    · rw [List.getElem?_append_left (by simpa using q), List.getElem?_map] at hk
      cases ha : args[k]? with
      | none => rw [ha] at hk; simp at hk
      | some w => rw [ha] at hk; simp at hk; rw [hk]
    · rw [List.getElem?_append_right (by simpa using q), List.getElem?_replicate] at hk
      split at hk <;> simp at hk
  have h2 := cat_entry hc 0 k v h1
  rw [Nat.zero_add] at h2
  exact h.2.2 (k, v) h2
/-- a contract out of the walk of the method's body -/
theorem Ct.of {l : Launch} {E : ET} {y : MethodName} {b : ByteArray} {n : Nat} {r : Option FieldType} {rm : Room} {args : List Value} {σ μ : St} {v : Option Value} {σ' μ' : St} {L : List (Option Value)}
    (hy : plainName y.cls = true) (hc : args.all (fun v => v.category == 1) = true) (hn : args.length ≤ n) (hL : args.map some ++ List.replicate (n - args.length) none = L)
    (body : ∀ X : XT, Cx X E b y.cls n rm → Tx X E r v σ' μ' → V X E 0 L [] σ μ) : Ct l E (y, b, n, r, rm) args σ μ v σ' μ' := by
  have hc' : ∀ v ∈ args, v.category = 1 := fun v hv => by simpa using List.all_eq_true.mp hc v hv
  refine Met.ofW (cc := b) (maxL := n) (ret := r) hy rfl ?_
  intro p e s m args' below meth c s₁ B hml hv
  obtain ⟨rfl, hP, hK, hZ⟩ := hv
  have hts := atoms_spec (ws := Cond.code y b n r :: gT) B.pre
  have hown : s.vm.findClass y.cls = some m.cls := findClass_of_methodNamed B.named
  have h := body (p, l, e, rm, s, m, args.toArray, below, meth, c, AA E, MQ below (Qr E v σ' μ') args.toArray s 0 0 (AA E), 0, 0)
    ⟨B.exec, B.bytes, hml, hown, fun w hw => hts w (List.mem_cons_of_mem _ hw), hK, hZ, fun k hk => ⟨k, hk, rfl⟩, rfl, Nat.zero_le _, Nat.zero_le _⟩
    ⟨rfl, rfl, B.returns, B.notSynchronized⟩
  rw [lg_entry_eq]
  have hl := lvO_entry (n := n) hc' hn hL
  refine h s.heap [] _ hP va_S.rf ?_
  show lvO _ c.maxLocals L
  rw [hml]
  exact hl
