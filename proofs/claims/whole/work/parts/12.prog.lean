theorem oc_w0 : ∀ w ∈ u_ws "MoveOrder" ps_TMo 7, w ∈ ps_wl := pw_all (by decide +kernel)
theorem oc_t0 : ∀ k, k < 7 → parseFieldDescriptor (ps_TMo k).2.2.1 = some (ps_tMo k) := by decide +kernel
theorem oc_n0 : ∀ a, a < 7 → ∀ b, b < 7 → a ≠ b → (ps_TMo a).2.1 ≠ (ps_TMo b).2.1 := by decide +kernel
theorem oc_d0 : ∀ j, j < 7 → defaultValue (ps_tMo j) = vp_V (ps_df 0) j := by decide +kernel
theorem oc_w1 : ∀ w ∈ u_ws "MoveOrder$Bay" ps_TBay 7, w ∈ ps_wl := pw_all (by decide +kernel)
theorem oc_t1 : ∀ k, k < 7 → parseFieldDescriptor (ps_TBay k).2.2.1 = some (ps_tBay k) := by decide +kernel
theorem oc_n1 : ∀ a, a < 7 → ∀ b, b < 7 → a ≠ b → (ps_TBay a).2.1 ≠ (ps_TBay b).2.1 := by decide +kernel
theorem oc_d1 : ∀ j, j < 7 → defaultValue (ps_tBay j) = vp_V (ps_df 1) j := by decide +kernel
theorem oc_w2 : ∀ w ∈ u_ws "MoveOrder$Box" ps_TBox 5, w ∈ ps_wl := pw_all (by decide +kernel)
theorem oc_t2 : ∀ k, k < 5 → parseFieldDescriptor (ps_TBox k).2.2.1 = some (ps_tBox k) := by decide +kernel
theorem oc_n2 : ∀ a, a < 5 → ∀ b, b < 5 → a ≠ b → (ps_TBox a).2.1 ≠ (ps_TBox b).2.1 := by decide +kernel
theorem oc_d2 : ∀ j, j < 5 → defaultValue (ps_tBox j) = vp_V (ps_df 2) j := by decide +kernel
theorem oc_w3 : ∀ w ∈ u_ws "MoveOrder$Search" ps_TSea 14, w ∈ ps_wl := pw_all (by decide +kernel)
theorem oc_t3 : ∀ k, k < 14 → parseFieldDescriptor (ps_TSea k).2.2.1 = some (ps_tSea k) := by decide +kernel
theorem oc_n3 : ∀ a, a < 14 → ∀ b, b < 14 → a ≠ b → (ps_TSea a).2.1 ≠ (ps_TSea b).2.1 := by decide +kernel
theorem oc_d3 : ∀ j, j < 14 → defaultValue (ps_tSea j) = vp_V (ps_df 3) j := by decide +kernel
theorem oc_w4 : ∀ w ∈ u_ws "MoveOrderModel" ps_TRef 25, w ∈ ps_wl := pw_all (by decide +kernel)
theorem oc_t4 : ∀ k, k < 25 → parseFieldDescriptor (ps_TRef k).2.2.1 = some (ps_tRef k) := by decide +kernel
theorem oc_n4 : ∀ a, a < 25 → ∀ b, b < 25 → a ≠ b → (ps_TRef a).2.1 ≠ (ps_TRef b).2.1 := by decide +kernel
theorem oc_d4 : ∀ j, j < 25 → defaultValue (ps_tRef j) = vp_V (ps_df 4) j := by decide +kernel
set_option maxRecDepth 100000 in
theorem oc_all : px_okC ps_V ps_Y := by
  refine ⟨?_, rfl, rfl, rfl, ?_, ps_wl_ok, ?_⟩
  · intro ci C T N h
    match ci, h with
    | 0, h => cases h; exact ⟨oc_w0, oc_t0, oc_n0, oc_d0⟩
    | 1, h => cases h; exact ⟨oc_w1, oc_t1, oc_n1, oc_d1⟩
    | 2, h => cases h; exact ⟨oc_w2, oc_t2, oc_n2, oc_d2⟩
    | 3, h => cases h; exact ⟨oc_w3, oc_t3, oc_n3, oc_d3⟩
    | 4, h => cases h; exact ⟨oc_w4, oc_t4, oc_n4, oc_d4⟩
    | ci + 5, h => simp [ps_cl] at h
  · intro t ht
    have ht5 : t < 5 := ht.2
    rcases (by omega : t = 3 ∨ t = 4) with rfl | rfl
    · exact ⟨_, rfl, rfl⟩
    · exact ⟨_, rfl, rfl⟩
  · intro k1 k2 h1 h2
    rcases h1 with rfl | rfl | rfl <;> rcases h2 with rfl | rfl | rfl
    · exact ⟨fun _ => ps_in 254 rfl rfl, fun h => absurd rfl h⟩
    · exact ⟨fun h => absurd h (by decide), fun _ => List.mem_of_getElem? (i := 0) rfl⟩
    · exact ⟨fun h => absurd h (by decide), fun _ => List.mem_of_getElem? (i := 1) rfl⟩
    · exact ⟨fun h => absurd h (by decide), fun _ => List.mem_of_getElem? (i := 2) rfl⟩
    · exact ⟨fun _ => ps_in 334 rfl rfl, fun h => absurd rfl h⟩
    · exact ⟨fun h => absurd h (by decide), fun _ => List.mem_of_getElem? (i := 3) rfl⟩
    · exact ⟨fun h => absurd h (by decide), fun _ => List.mem_of_getElem? (i := 4) rfl⟩
    · exact ⟨fun h => absurd h (by decide), fun _ => List.mem_of_getElem? (i := 5) rfl⟩
    · exact ⟨fun _ => ps_in 467 rfl rfl, fun h => absurd rfl h⟩
set_option maxRecDepth 100000 in
theorem oc_P : ∀ (j : Nat) (M : px_M), ps_P[j]? = some M → px_okM ps_V ps_P M := by
  have h : ∀ M ∈ ps_P, px_okM ps_V ps_P M := List.forall_mem_cons.mpr ⟨ok_Bay_init, List.forall_mem_cons.mpr ⟨ok_Sea_init, List.forall_mem_cons.mpr ⟨ok_Mo_init, List.forall_mem_cons.mpr ⟨ok_Mo_bayAt, List.forall_mem_cons.mpr ⟨ok_Mo_boxAt, List.forall_mem_cons.mpr ⟨ok_Box_isToLeave, List.forall_mem_cons.mpr ⟨ok_Box_follows, List.forall_mem_cons.mpr ⟨ok_Mo_comesBefore, List.forall_mem_cons.mpr ⟨ok_Bay_forgetPlan, List.forall_mem_cons.mpr ⟨ok_Mo_forgetPlanOf, List.forall_mem_cons.mpr ⟨ok_Mo_before, List.forall_mem_cons.mpr ⟨ok_Mo_heightOf, List.forall_mem_cons.mpr ⟨ok_Box_isIn, List.forall_mem_cons.mpr ⟨ok_Mo_boxesIn, List.forall_mem_cons.mpr ⟨ok_Box_init, List.forall_mem_cons.mpr ⟨ok_Mo_box, List.forall_mem_cons.mpr ⟨ok_Mo_boxesAt, List.forall_mem_cons.mpr ⟨ok_Bay_movesLeft, List.forall_mem_cons.mpr ⟨ok_Mo_countOfBay, List.forall_mem_cons.mpr ⟨ok_Mo_count, List.forall_mem_cons.mpr ⟨ok_Bay_hasMove, List.forall_mem_cons.mpr ⟨ok_Bay_movesOutLeft, List.forall_mem_cons.mpr ⟨ok_Mo_dual, List.forall_mem_cons.mpr ⟨ok_Mo_hasNeeds, List.forall_mem_cons.mpr ⟨ok_Box_liesInStack, List.forall_mem_cons.mpr ⟨ok_Box_liesBelow, List.forall_mem_cons.mpr ⟨ok_Mo_liesAboveLeaving, List.forall_mem_cons.mpr ⟨ok_Mo_least, List.forall_mem_cons.mpr ⟨ok_Mo_loads, List.forall_mem_cons.mpr ⟨ok_Mo_look, List.forall_mem_cons.mpr ⟨ok_Mo_move, List.forall_mem_cons.mpr ⟨ok_Sea_clear, List.forall_mem_cons.mpr ⟨ok_Sea_add, List.forall_mem_cons.mpr ⟨ok_Sea_isEnd, List.forall_mem_cons.mpr ⟨ok_Sea_reach, List.forall_mem_cons.mpr ⟨ok_Sea_placeOf, List.forall_mem_cons.mpr ⟨ok_Sea_measureStacks, List.forall_mem_cons.mpr ⟨ok_Sea_withPlace, List.forall_mem_cons.mpr ⟨ok_Sea_stepOf, List.forall_mem_cons.mpr ⟨ok_Sea_tryStacks, List.forall_mem_cons.mpr ⟨ok_Sea_mayGoOut, List.forall_mem_cons.mpr ⟨ok_Sea_tryTop, List.forall_mem_cons.mpr ⟨ok_Sea_tryMoves, List.forall_mem_cons.mpr ⟨ok_Bay_startPlan, List.forall_mem_cons.mpr ⟨ok_Bay_setMove, List.forall_mem_cons.mpr ⟨ok_Sea_tellPlan, List.forall_mem_cons.mpr ⟨ok_Sea_forgetSeen, List.forall_mem_cons.mpr ⟨ok_Sea_findPlan, List.forall_mem_cons.mpr ⟨ok_Mo_plan, List.forall_mem_cons.mpr ⟨ok_Box_changePlaces, List.forall_mem_cons.mpr ⟨ok_Mo_swap, List.forall_mem_cons.mpr ⟨ok_Mo_work, List.forall_mem_cons.mpr ⟨ok_Law_box, List.forall_mem_cons.mpr ⟨ok_Law_cell, List.forall_mem_cons.mpr ⟨ok_Law_dual, List.forall_mem_cons.mpr ⟨ok_Ref_init, List.forall_mem_cons.mpr ⟨ok_Ref_isBay, List.forall_mem_cons.mpr ⟨ok_Ref_in, List.forall_mem_cons.mpr ⟨ok_Ref_refuse, List.forall_mem_cons.mpr ⟨ok_Ref_there, List.forall_mem_cons.mpr ⟨ok_Ref_height, List.forall_mem_cons.mpr ⟨ok_Ref_voids, List.forall_mem_cons.mpr ⟨ok_Ref_box, List.forall_mem_cons.mpr ⟨ok_Ref_thrown, List.forall_mem_cons.mpr ⟨ok_Ref_isBox, List.forall_mem_cons.mpr ⟨ok_Ref_leads, List.forall_mem_cons.mpr ⟨ok_Ref_before, List.forall_mem_cons.mpr ⟨ok_Law_plan, List.forall_mem_cons.mpr ⟨ok_Ref_begins, List.forall_mem_cons.mpr ⟨ok_Ref_comes, List.forall_mem_cons.mpr ⟨ok_Ref_isAside, List.forall_mem_cons.mpr ⟨ok_Ref_isOut, List.forall_mem_cons.mpr ⟨ok_Ref_isEnd, List.forall_mem_cons.mpr ⟨ok_Ref_at, List.forall_mem_cons.mpr ⟨ok_Ref_top, List.forall_mem_cons.mpr ⟨ok_Ref_taken, List.forall_mem_cons.mpr ⟨ok_Ref_mayLeave, List.forall_mem_cons.mpr ⟨ok_Ref_moved, List.forall_mem_cons.mpr ⟨ok_Ref_search, List.forall_mem_cons.mpr ⟨ok_Ref_plan, List.forall_mem_cons.mpr ⟨ok_Law_move, List.forall_mem_cons.mpr ⟨ok_Ref_move, List.forall_mem_cons.mpr ⟨ok_Law_work, List.forall_mem_cons.mpr ⟨ok_Ref_work, List.forall_mem_cons.mpr ⟨ok_Law_least, List.forall_mem_cons.mpr ⟨ok_Ref_isAbove, List.forall_mem_cons.mpr ⟨ok_Ref_least, List.forall_mem_cons.mpr ⟨ok_Law_loads, List.forall_mem_cons.mpr ⟨ok_Ref_loads, List.forall_mem_cons.mpr ⟨ok_Ref_dual, List.forall_mem_cons.mpr ⟨ok_Law_swap, List.forall_mem_cons.mpr ⟨ok_Ref_hasNeeds, List.forall_mem_cons.mpr ⟨ok_Ref_swap, List.forall_mem_cons.mpr ⟨ok_Law_look, List.forall_mem_cons.mpr ⟨ok_Ref_look, List.forall_mem_cons.mpr ⟨ok_Ref_count, pk_nil⟩⟩⟩⟩⟩⟩⟩⟩⟩⟩⟩⟩⟩⟩⟩⟩⟩⟩⟩⟩⟩⟩⟩⟩⟩⟩⟩⟩⟩⟩⟩⟩⟩⟩⟩⟩⟩⟩⟩⟩⟩⟩⟩⟩⟩⟩⟩⟩⟩⟩⟩⟩⟩⟩⟩⟩⟩⟩⟩⟩⟩⟩⟩⟩⟩⟩⟩⟩⟩⟩⟩⟩⟩⟩⟩⟩⟩⟩⟩⟩⟩⟩⟩⟩⟩⟩⟩⟩⟩⟩⟩⟩⟩⟩⟩⟩
  exact fun j M hj => h M (List.mem_of_getElem? hj)
