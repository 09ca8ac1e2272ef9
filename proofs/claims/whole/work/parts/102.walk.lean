set_option maxRecDepth 100000 in
theorem w_ao : Cond.arrayOver (.object "WellField$Sheet") ∈ lw_tbl := List.mem_of_getElem? (i := 227) (by decide +kernel)
set_option maxRecDepth 100000 in
theorem w_ls : Cond.laysStatic "WellField" "COUNTS_TIMES" "[I" ∈ lw_tbl := List.mem_of_getElem? (i := 454) (by decide +kernel)
theorem nest_on {w : Cond} (h : isNest w = true) : w.onTables = true := by
  cases w <;> first | rfl | (cases h)

theorem whole_start {p : Program} {e : Env} {s : State} {m : MethodId} {below : List Frame} {meth : Method} {c : Code} (l : Launch) {b L : Nat} {xs : Nat → Int32} (hL : L ≤ 3072) (C0 : lw_At p s m meth c b L xs) : W p l e room_1 s m #[Value.ref b] below meth c s.heap [] 0 0 (lw_Z below #[Value.ref b] s) (entryFrame m ([Value.ref b] : List Value).toArray 4) := by
  obtain ⟨hx, hb, hr, hml, hown, hts, hX, hbl, hlk, hgv⟩ := C0
  have hgt : ∀ w ∈ gT, w.before #[Value.ref b] s = true := fun w hw => hts w (List.mem_filter.mp hw).1
  have hnw : Nw s := fun w hw => va_Nw.of (nest_on (List.mem_filter.mp hw).2) (hts w (List.mem_filter.mp hw).1)
  have hA : ∀ a : Nat, a < s.heap.size → ¬ (fun q : Nat => s.heap.size ≤ q) a := fun a h => Nat.not_le.mpr h
  obtain ⟨cI, kI, mI, i1, i2, i3⟩ := Cond.arrayClass_spec (hgt _ ac_int)
  have hao := hts _ w_ao
  obtain ⟨mS, cS, kS, j1, -, j3, j4, j5⟩ := Cond.arrayOver_spec hao
  obtain ⟨c0, f0, k0⟩ := u_known (C := RX0) (T := TX0) (N := 5) (n := 5) hgt cw_X0 (hgt _ in_X0)
  obtain ⟨c1, f1, k1⟩ := u_known (C := RX1) (T := TX1) (N := 3) (n := 3) hgt cw_X1 (hgt _ in_X1)
  obtain ⟨c2, f2, k2⟩ := u_known (C := RX2) (T := TX2) (N := 3) (n := 3) hgt cw_X2 (hgt _ in_X2)
  obtain ⟨c3, f3, k3⟩ := u_known (C := RX3) (T := TX3) (N := 3) (n := 3) hgt cw_X3 (hgt _ in_X3)
  obtain ⟨c4, f4, k4⟩ := u_known (C := RX4) (T := TX4) (N := 7) (n := 7) hgt cw_X4 (hgt _ in_X4)
  obtain ⟨c5, f5, k5⟩ := u_known (C := RX5) (T := TX5) (N := 6) (n := 6) hgt cw_X5 (hgt _ in_X5)
  obtain ⟨c6, f6, k6⟩ := u_known (C := RX6) (T := TX6) (N := 5) (n := 5) hgt cw_X6 (hgt _ in_X6)
  obtain ⟨c7, f7, k7⟩ := u_known (C := RX7) (T := TX7) (N := 12) (n := 12) hgt cw_X7 (hgt _ in_X7)
  obtain ⟨D, hD⟩ : ∃ D : va_G, ∀ (k : Nat) (q : vw_C), vwCl[k]? = some q → u_Kn s q.1 q.2.1 q.2.2 (D.1 k) (D.2 k) := by
    refine ⟨((fun k => match k with | 0 => c0 | 1 => c1 | 2 => c2 | 3 => c3 | 4 => c4 | 5 => c5 | 6 => c6 | _ => c7), (fun k => match k with | 0 => f0 | 1 => f1 | 2 => f2 | 3 => f3 | 4 => f4 | 5 => f5 | 6 => f6 | _ => f7)), fun k q hq => ?_⟩
    match k, hq with
    | 0, hq => cases hq; exact k0
    | 1, hq => cases hq; exact k1
    | 2, hq => cases hq; exact k2
    | 3, hq => cases hq; exact k3
    | 4, hq => cases hq; exact k4
    | 5, hq => cases hq; exact k5
    | 6, hq => cases hq; exact k6
    | 7, hq => cases hq; exact k7
    | k + 8, hq => simp [vwCl] at hq
  have hK : va_K D vwCl [(cI, .int), (cS, .object "WellField$Sheet")] s := by
    refine ⟨hD, fun k q hq => ?_⟩
    match k, hq with
    | 0, hq => cases hq; exact ⟨fun N z => ⟨fun k h => (by cases h), kI, i2, mI, i3⟩, i1⟩
    | 1, hq => cases hq; exact ⟨fun N z => ⟨fun k h => (by cases h), kS, j3, mS, j4⟩, kS, mS, j3, j4, j1, j5⟩
    | k + 2, hq => simp at hq
  have hs := flat_of_before _ hgv
  obtain ⟨t, t1, t2⟩ := va_Tof (args := #[Value.ref b]) (s := s) (tm := .static "WellField" "COUNTS_TIMES" "[I") (ty := .int) (N := 6) (f := fun j => .int (ctf j)) (A := fun q : Nat => s.heap.size ≤ q) (by decide) (hs _ (by decide +kernel)) (va_eqt (hs (.eq (.length (.static "WellField" "COUNTS_TIMES" "[I")) (.int 6)) (by decide +kernel))) (fun j hj => by
    rcases (show j = 0 ∨ j = 1 ∨ j = 2 ∨ j = 3 ∨ j = 4 ∨ j = 5 by omega) with rfl | rfl | rfl | rfl | rfl | rfl
    · exact va_eqt (hs (.eq (.elem (.static "WellField" "COUNTS_TIMES" "[I") (.int 0)) (.int (1))) (by decide +kernel))
    · exact va_eqt (hs (.eq (.elem (.static "WellField" "COUNTS_TIMES" "[I") (.int 1)) (.int (1))) (by decide +kernel))
    · exact va_eqt (hs (.eq (.elem (.static "WellField" "COUNTS_TIMES" "[I") (.int 2)) (.int (1))) (by decide +kernel))
    · exact va_eqt (hs (.eq (.elem (.static "WellField" "COUNTS_TIMES" "[I") (.int 3)) (.int (-1))) (by decide +kernel))
    · exact va_eqt (hs (.eq (.elem (.static "WellField" "COUNTS_TIMES" "[I") (.int 4)) (.int (-1))) (by decide +kernel))
    · exact va_eqt (hs (.eq (.elem (.static "WellField" "COUNTS_TIMES" "[I") (.int 5)) (.int (0))) (by decide +kernel))) hA
  have hZ := va_Zof (hts _ w_ls) (hgt _ ini_X6) t1 hA
  have hC : GC (p, l, e, room_1, s, m, #[Value.ref b], below, meth, c, (fun q : Nat => s.heap.size ≤ q), lw_Z below #[Value.ref b] s, 65, 5657) (D, cI, cS, fun _ => 0, t) cL_law RL 4 room_1 := ⟨hx, hb, hml, hown, hgt, ⟨hK, va_AO.of hao, hnw⟩, fun q h => h, rfl⟩
  have hgo : G (p, l, e, room_1, s, m, #[Value.ref b], below, meth, c, (fun q : Nat => s.heap.size ≤ q), lw_Z below #[Value.ref b] s, 65, 5657) (D, cI, cS, fun _ => 0, t) 0 [some (.ref b), none, none, none] [] [] 0 0 := by
    refine g_new (fs := [.null, .null, .int 0, .null, .int 0]) (ci := 6) hC cw_X6 tyX6_ok cl_L_7 in_X6 ini_X6 rfl df_X6 (Nat.le_of_ble_eq_true rfl) (Nat.le_of_ble_eq_true rfl) dL_law_0 (fun q0 => ?_)
    refine g_dup hC rfl dL_law_3 ?_
    refine g_init (M := MX6_init) hC ln_L_9 ok_X6_init rfl rfl im_X6_init k_X6_init ⟨(Nat.le_of_ble_eq_true rfl), (Nat.le_of_ble_eq_true rfl), (Nat.le_of_ble_eq_true rfl), (Nat.le_of_ble_eq_true rfl)⟩ (Nat.le_of_ble_eq_true rfl) dL_law_4 (fun qa => ?_)
    refine g_astore_1 hC (by decide) rfl dL_law_7 ?_
    refine g_new (fs := [.null, .null, .int 0, .null, .null, .null, .int 0, .null, .null, .null, .null, .null]) (ci := 7) hC cw_X7 tyX7_ok cl_L_10 in_X7 ini_X7 rfl df_X7 (Nat.le_of_ble_eq_true rfl) (Nat.le_of_ble_eq_true rfl) dL_law_8 (fun q8 => ?_)
    refine g_dup hC rfl dL_law_11 ?_
    refine g_init (M := MX7_init) hC ln_L_12 ok_X7_init rfl rfl im_X7_init k_X7_init ⟨(Nat.le_of_ble_eq_true rfl), (Nat.le_of_ble_eq_true rfl), (Nat.le_of_ble_eq_true rfl), (Nat.le_of_ble_eq_true rfl)⟩ (Nat.le_of_ble_eq_true rfl) dL_law_12 (fun qb => ?_)
    refine g_astore_2 hC (by decide) rfl dL_law_15 ?_
    refine start_V (X := (p, l, e, room_1, s, m, #[Value.ref b], below, meth, c, (fun q : Nat => s.heap.size ≤ q), lw_Z below #[Value.ref b] s, 65, 5657)) (ha := q0) (hb := q8) (qa := qa) (qb := qb) (n := L) (q := xs) hx hb hml hown hgt hK hnw ⟨hZ, t2⟩ rfl rfl rfl ⟨hX, hbl, hA b hbl, hL⟩ (fun E hC L2 σ μ H locs ls hP hS hl => ?_) _ rfl rfl rfl
    refine lv_iconst (v := 1) hx hb dL_law_1473 (by decide) ?_
    refine va_forget (fun q hq => hS.2.2 q hq) ?_
    exact lw_ret hx hb hr hlk dL_law_1474
  have hl := lvO_entry (args := [Value.ref b]) (n := 4) (L := [some (.ref b), none, none, none]) (fun v hv => by
    rw [List.mem_singleton.mp hv]
    rfl) (Nat.le_of_ble_eq_true rfl) rfl
  rw [lg_entry_eq]
  refine hgo s.heap [] _ (fun k q h => by simp at h) ⟨fun i j p q h => by simp at h, fun k q h => by simp at h⟩ va_S.rf ?_
  show lvO _ c.maxLocals _
  rw [hml]
  exact hl
