/-- THE LAW's LOOP -/
theorem law_case {X : XT} {E : ET} {σ μ : St} (hC : Cx X E cL_law RL 4 room_1) {b n i : Nat} {q : Nat → Int32} (hS0 : Sc X b n q) (hi : i + 6 ≤ n) (h : Rel σ μ) (ih : ∀ σ2 μ2 : St, Rel σ2 μ2 → V X E 1467 [some (.ref b), some (.ref (adr E 0)), some (.ref (adr E 54)), some (.int (nI i))] [] σ2 μ2) (x : Int32) : V X E 33 [some (.ref b), some (.ref (adr E 0)), some (.ref (adr E 54)), some (.int (nI i))] [.int x] σ μ := by
  by_cases h0 : x = nI 0
  · rw [h0]
    exact v_tabIn (tgt := 192) hC dL_law_33 (by decide) (by decide) rfl (by decide) (law_well hC hS0 hi h.wc h.ws h.wm (e_well h _ _ _ _).1 (ih _ _ (e_well h _ _ _ _).2))
  by_cases h1 : x = nI 1
  · rw [h1]
    exact v_tabIn (tgt := 245) hC dL_law_33 (by decide) (by decide) rfl (by decide) (law_limit hC hS0 hi h.wc h.ws h.wm (e_limit h _ _).1 (ih _ _ (e_limit h _ _).2))
  by_cases h2 : x = nI 2
  · rw [h2]
    exact v_tabIn (tgt := 278) hC dL_law_33 (by decide) (by decide) rfl (by decide) (law_as hC hS0 hi h.wc h.ws h.wm (e_as h _ _).1 (ih _ _ (e_as h _ _).2))
  by_cases h3 : x = nI 3
  · rw [h3]
    exact v_tabIn (tgt := 311) hC dL_law_33 (by decide) (by decide) rfl (by decide) (law_of hC hS0 hi h.wc h.ws h.wm (e_of h _ _).1 (ih _ _ (e_of h _ _).2))
  by_cases h4 : x = nI 4
  · rw [h4]
    exact v_tabIn (tgt := 344) hC dL_law_33 (by decide) (by decide) rfl (by decide) (law_distance hC hS0 hi h.wc h.ws h.wm (e_dist h _ _).1 (ih _ _ (e_dist h _ _).2))
  by_cases h5 : x = nI 5
  · rw [h5]
    exact v_tabIn (tgt := 377) hC dL_law_33 (by decide) (by decide) rfl (by decide) (law_table hC hS0 hi h.wc h.ws h.wm (e_table h _ _ _ _).1 (ih _ _ (e_table h _ _ _ _).2))
  by_cases h6 : x = nI 6
  · rw [h6]
    exact v_tabIn (tgt := 430) hC dL_law_33 (by decide) (by decide) rfl (by decide) (law_rainTable hC hS0 hi h.wc h.ws h.wm (e_rainT h _ _).1 (ih _ _ (e_rainT h _ _).2))
  by_cases h7 : x = nI 7
  · rw [h7]
    exact v_tabIn (tgt := 463) hC dL_law_33 (by decide) (by decide) rfl (by decide) (law_sheet hC hS0 hi h.wc h.ws h.wm (e_sheet h _ _ _).1 (ih _ _ (e_sheet h _ _ _).2))
  by_cases h8 : x = nI 8
  · rw [h8]
    exact v_tabIn (tgt := 506) hC dL_law_33 (by decide) (by decide) rfl (by decide) (law_put hC hS0 hi h.wc h.ws h.wm (e_put h _ _ _).1 (ih _ _ (e_put h _ _ _).2))
  by_cases h9 : x = nI 9
  · rw [h9]
    exact v_tabIn (tgt := 549) hC dL_law_33 (by decide) (by decide) rfl (by decide) (law_copy hC hS0 hi h.wc h.ws h.wm (e_copy h _ _ _ _ _).1 (ih _ _ (e_copy h _ _ _ _ _).2))
  by_cases h10 : x = nI 10
  · rw [h10]
    exact v_tabIn (tgt := 612) hC dL_law_33 (by decide) (by decide) rfl (by decide) (law_draws hC hS0 hi h.wc h.ws h.wm (e_draws h _ _ _).1 (ih _ _ (e_draws h _ _ _).2))
  by_cases h11 : x = nI 11
  · rw [h11]
    exact v_tabIn (tgt := 655) hC dL_law_33 (by decide) (by decide) rfl (by decide) (law_draw hC hS0 hi h.wc h.ws h.wm (e_draw h _ _ _).1 (ih _ _ (e_draw h _ _ _).2))
  by_cases h12 : x = nI 12
  · rw [h12]
    exact v_tabIn (tgt := 698) hC dL_law_33 (by decide) (by decide) rfl (by decide) (law_counts hC hS0 hi h.wc h.ws h.wm (e_counts h _ _).1 (ih _ _ (e_counts h _ _).2))
  by_cases h13 : x = nI 13
  · rw [h13]
    exact v_tabIn (tgt := 731) hC dL_law_33 (by decide) (by decide) rfl (by decide) (law_rain hC hS0 hi h.wc h.ws h.wm (e_rain h _ _).1 (ih _ _ (e_rain h _ _).2))
  by_cases h14 : x = nI 14
  · rw [h14]
    exact v_tabIn (tgt := 764) hC dL_law_33 (by decide) (by decide) rfl (by decide) (law_dry hC hS0 hi h.wc h.ws h.wm (e_dry h).1 (ih _ _ (e_dry h).2))
  by_cases h15 : x = nI 15
  · rw [h15]
    exact v_tabIn (tgt := 777) hC dL_law_33 (by decide) (by decide) rfl (by decide) (law_head hC hS0 hi h.wc h.ws h.wm (e_head h _ _).1 (ih _ _ (e_head h _ _).2))
  by_cases h16 : x = nI 16
  · rw [h16]
    exact v_tabIn (tgt := 810) hC dL_law_33 (by decide) (by decide) rfl (by decide) (law_by hC hS0 hi h.wc h.ws h.wm (e_by h _ _ _).1 (ih _ _ (e_by h _ _ _).2))
  by_cases h17 : x = nI 17
  · rw [h17]
    exact v_tabIn (tgt := 853) hC dL_law_33 (by decide) (by decide) rfl (by decide) (law_rained hC hS0 hi h.wc h.ws h.wm (e_rained h _ _).1 (ih _ _ (e_rained h _ _).2))
  by_cases h18 : x = nI 18
  · rw [h18]
    exact v_tabIn (tgt := 886) hC dL_law_33 (by decide) (by decide) rfl (by decide) (law_most hC hS0 hi h.wc h.ws h.wm (e_most h _ _).1 (ih _ _ (e_most h _ _).2))
  by_cases h19 : x = nI 19
  · rw [h19]
    exact v_tabIn (tgt := 919) hC dL_law_33 (by decide) (by decide) rfl (by decide) (law_when hC hS0 hi h.wc h.ws h.wm (e_when h _ _).1 (ih _ _ (e_when h _ _).2))
  by_cases h20 : x = nI 20
  · rw [h20]
    exact v_tabIn (tgt := 952) hC dL_law_33 (by decide) (by decide) rfl (by decide) (law_near hC hS0 hi h.wc h.ws h.wm (e_near h _ _).1 (ih _ _ (e_near h _ _).2))
  by_cases h21 : x = nI 21
  · rw [h21]
    exact v_tabIn (tgt := 985) hC dL_law_33 (by decide) (by decide) rfl (by decide) (law_low hC hS0 hi h.wc h.ws h.wm (e_low h _).1 (ih _ _ (e_low h _).2))
  by_cases h22 : x = nI 22
  · rw [h22]
    exact v_tabIn (tgt := 1008) hC dL_law_33 (by decide) (by decide) rfl (by decide) (law_without hC hS0 hi h.wc h.ws h.wm (e_without h _ _ _ _).1 (ih _ _ (e_without h _ _ _ _).2))
  by_cases h23 : x = nI 23
  · rw [h23]
    exact v_tabIn (tgt := 1061) hC dL_law_33 (by decide) (by decide) rfl (by decide) (law_free hC hS0 hi h.wc h.ws h.wm (e_free h _ _).1 (ih _ _ (e_free h _ _).2))
  by_cases h24 : x = nI 24
  · rw [h24]
    exact v_tabIn (tgt := 1094) hC dL_law_33 (by decide) (by decide) rfl (by decide) (law_licence hC hS0 hi h.wc h.ws h.wm (e_licence h _ _ _).1 (ih _ _ (e_licence h _ _ _).2))
  by_cases h25 : x = nI 25
  · rw [h25]
    exact v_tabIn (tgt := 1137) hC dL_law_33 (by decide) (by decide) rfl (by decide) (law_serve hC hS0 hi h.wc h.ws h.wm (e_serve h _).1 (ih _ _ (e_serve h _).2))
  by_cases h26 : x = nI 26
  · rw [h26]
    exact v_tabIn (tgt := 1160) hC dL_law_33 (by decide) (by decide) rfl (by decide) (law_served hC hS0 hi h.wc h.ws h.wm (e_served h _ _).1 (ih _ _ (e_served h _ _).2) (e_served h _ _).1 (ih _ _ (e_served h _ _).2))
  by_cases h27 : x = nI 27
  · rw [h27]
    exact v_tabIn (tgt := 1209) hC dL_law_33 (by decide) (by decide) rfl (by decide) (law_hold hC hS0 hi h.wc h.ws h.wm (e_hold h _ _ _).1 (ih _ _ (e_hold h _ _ _).2))
  by_cases h28 : x = nI 28
  · rw [h28]
    exact v_tabIn (tgt := 1252) hC dL_law_33 (by decide) (by decide) rfl (by decide) (law_move hC hS0 hi h.wc h.ws h.wm (e_move h _ _ _).1 (ih _ _ (e_move h _ _ _).2))
  by_cases h29 : x = nI 29
  · rw [h29]
    exact v_tabIn (tgt := 1295) hC dL_law_33 (by decide) (by decide) rfl (by decide) (law_read hC hS0 hi h.wc h.ws h.wm (e_read h _ _ _).1 (ih _ _ (e_read h _ _ _).2))
  by_cases h30 : x = nI 30
  · rw [h30]
    exact v_tabIn (tgt := 1338) hC dL_law_33 (by decide) (by decide) rfl (by decide) (law_differ hC hS0 hi h.wc h.ws h.wm (e_differ h _ _).1 (ih _ _ (e_differ h _ _).2))
  by_cases h31 : x = nI 31
  · rw [h31]
    exact v_tabIn (tgt := 1371) hC dL_law_33 (by decide) (by decide) rfl (by decide) (law_fit hC hS0 hi h.wc h.ws h.wm (e_fit h _ _).1 (ih _ _ (e_fit h _ _).2))
  by_cases h32 : x = nI 32
  · rw [h32]
    exact v_tabIn (tgt := 1404) hC dL_law_33 (by decide) (by decide) rfl (by decide) (law_squares hC hS0 hi h.wc h.ws h.wm h.sq (ih _ _ h))
  by_cases h33 : x = nI 33
  · rw [h33]
    exact v_tabIn (tgt := 1418) hC dL_law_33 (by decide) (by decide) rfl (by decide) (law_keep hC hS0 hi h.wc h.ws h.wm (e_keep h).1 (ih _ _ (e_keep h).2))
  by_cases h34 : x = nI 34
  · rw [h34]
    exact v_tabIn (tgt := 1431) hC dL_law_33 (by decide) (by decide) rfl (by decide) (law_back hC hS0 hi h.wc h.ws h.wm (e_back h).1 (ih _ _ (e_back h).2))
  by_cases h35 : x = nI 35
  · rw [h35]
    exact v_tabIn (tgt := 1444) hC dL_law_33 (by decide) (by decide) rfl (by decide) (law_told hC hS0 hi h.wc h.ws h.wm (e_told h _).1 (ih _ _ (e_told h _).2))
  refine v_tabOut (tgt := 1467) hC dL_law_33 (sw_out 35 (by decide) (fun j hj e => ?_)) (by decide) (ih _ _ h)
  rcases (show j = 0 ∨ j = 1 ∨ j = 2 ∨ j = 3 ∨ j = 4 ∨ j = 5 ∨ j = 6 ∨ j = 7 ∨ j = 8 ∨ j = 9 ∨ j = 10 ∨ j = 11 ∨ j = 12 ∨ j = 13 ∨ j = 14 ∨ j = 15 ∨ j = 16 ∨ j = 17 ∨ j = 18 ∨ j = 19 ∨ j = 20 ∨ j = 21 ∨ j = 22 ∨ j = 23 ∨ j = 24 ∨ j = 25 ∨ j = 26 ∨ j = 27 ∨ j = 28 ∨ j = 29 ∨ j = 30 ∨ j = 31 ∨ j = 32 ∨ j = 33 ∨ j = 34 ∨ j = 35 by omega) with rfl | rfl | rfl | rfl | rfl | rfl | rfl | rfl | rfl | rfl | rfl | rfl | rfl | rfl | rfl | rfl | rfl | rfl | rfl | rfl | rfl | rfl | rfl | rfl | rfl | rfl | rfl | rfl | rfl | rfl | rfl | rfl | rfl | rfl | rfl | rfl
  · exact h0 e
  · exact h1 e
  · exact h2 e
  · exact h3 e
  · exact h4 e
  · exact h5 e
  · exact h6 e
  · exact h7 e
  · exact h8 e
  · exact h9 e
  · exact h10 e
  · exact h11 e
  · exact h12 e
  · exact h13 e
  · exact h14 e
  · exact h15 e
  · exact h16 e
  · exact h17 e
  · exact h18 e
  · exact h19 e
  · exact h20 e
  · exact h21 e
  · exact h22 e
  · exact h23 e
  · exact h24 e
  · exact h25 e
  · exact h26 e
  · exact h27 e
  · exact h28 e
  · exact h29 e
  · exact h30 e
  · exact h31 e
  · exact h32 e
  · exact h33 e
  · exact h34 e
  · exact h35 e
theorem law_loop {X : XT} {E : ET} (hC : Cx X E cL_law RL 4 room_1) {b n : Nat} {q : Nat → Int32} (hS0 : Sc X b n q) (hend : ∀ (i : Nat) (σ μ : St), V X E 1473 [some (.ref b), some (.ref (adr E 0)), some (.ref (adr E 54)), some (.int (nI i))] [] σ μ) : ∀ (d i : Nat) (σ μ : St), n ≤ i + 6 * d → i ≤ n → Rel σ μ → V X E 18 [some (.ref b), some (.ref (adr E 0)), some (.ref (adr E 54)), some (.int (nI i))] [] σ μ := by
  have h3 := hS0.2.2.2
  intro d
  induction d with
  | zero =>
    intro i σ μ h1 h2 h
    refine v_iload_3 hC dL_law_18 ?_
    refine v_aload_0 hC dL_law_19 ?_
    refine v_slen hC hS0 dL_law_20 ?_
    refine v_bipush (v := nI 6) hC dL_law_21 (by decide) ?_
    refine v_isub hC dL_law_23 ?_
    refine v_icgt (tgt := 1473) hC dL_law_24 (by decide) (fun _ => hend i σ μ) (fun z => absurd ?_ z)
    rw [Int32.lt_iff_toInt_lt, pk_sub_toInt (by omega) (by omega), nI_toInt (by omega)]
    omega
  | succ d ih =>
    intro i σ μ h1 h2 h
    refine v_iload_3 hC dL_law_18 ?_
    refine v_aload_0 hC dL_law_19 ?_
    refine v_slen hC hS0 dL_law_20 ?_
    refine v_bipush (v := nI 6) hC dL_law_21 (by decide) ?_
    refine v_isub hC dL_law_23 ?_
    refine v_icgt (tgt := 1473) hC dL_law_24 (by decide) (fun _ => hend i σ μ) (fun z => ?_)
    have hi : i + 6 ≤ n := by
      rw [Int32.lt_iff_toInt_lt, pk_sub_toInt (by omega) (by omega), nI_toInt (by omega)] at z
      omega
    refine v_aload_0 hC dL_law_27 ?_
    refine v_iload_3 hC dL_law_28 ?_
    refine v_sld hC hS0 (by omega) dL_law_29 ?_
    refine v_bipush (v := 63) hC dL_law_30 (by decide) ?_
    refine v_iand hC dL_law_32 ?_
    refine law_case hC hS0 hi h (fun σ2 μ2 h2 => ?_) _
    refine v_iinc_3 (v := nI (i + 6)) hC (by decide) rfl dL_law_1467 (by rw [show Int32.ofInt 6 = nI 6 by decide, nI_add]) ?_
    refine v_goto (tgt := 18) hC dL_law_1470 (by decide) ?_
    exact ih (i + 6) σ2 μ2 (by omega) hi h2
