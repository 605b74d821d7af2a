section
-- ===== PART A: goes FIRST, ahead of the names: the tables' words, and 'selects' of the private methods out of them =====
/-- a private method of a class that the tables say can be made, by its rows of tables_1 -/
def lw_okq (q : MethodName × Nat) : Prop := (q.1.cls ≠ "java/lang/invoke/MethodHandle" ∧ q.1.cls ≠ "java/lang/invoke/VarHandle") ∧ Cond.instantiable q.1.cls q.2 ∈ tables_1 ∧ Cond.privateMethod q.1 ∈ tables_1 ∧ Cond.instanceMethod q.1 ∈ tables_1
theorem lw_p0 : lw_okq (⟨"MoveOrder", "boxAt", "(I)LMoveOrder$Box;"⟩, 7) := ⟨⟨by decide +kernel, by decide +kernel⟩, List.mem_of_getElem? (i := 14) (by decide +kernel), List.mem_of_getElem? (i := 143) (by decide +kernel), List.mem_of_getElem? (i := 144) (by decide +kernel)⟩
theorem lw_p1 : lw_okq (⟨"MoveOrder$Box", "isToLeave", "()Z"⟩, 5) := ⟨⟨by decide +kernel, by decide +kernel⟩, List.mem_of_getElem? (i := 149) (by decide +kernel), List.mem_of_getElem? (i := 147) (by decide +kernel), List.mem_of_getElem? (i := 148) (by decide +kernel)⟩
theorem lw_p2 : lw_okq (⟨"MoveOrder$Box", "follows", "(I)Z"⟩, 5) := ⟨⟨by decide +kernel, by decide +kernel⟩, List.mem_of_getElem? (i := 149) (by decide +kernel), List.mem_of_getElem? (i := 152) (by decide +kernel), List.mem_of_getElem? (i := 153) (by decide +kernel)⟩
theorem lw_p3 : lw_okq (⟨"MoveOrder", "comesBefore", "(ILMoveOrder$Box;)Z"⟩, 7) := ⟨⟨by decide +kernel, by decide +kernel⟩, List.mem_of_getElem? (i := 14) (by decide +kernel), List.mem_of_getElem? (i := 156) (by decide +kernel), List.mem_of_getElem? (i := 157) (by decide +kernel)⟩
theorem lw_p4 : lw_okq (⟨"MoveOrder", "forgetPlanOf", "(I)V"⟩, 7) := ⟨⟨by decide +kernel, by decide +kernel⟩, List.mem_of_getElem? (i := 14) (by decide +kernel), List.mem_of_getElem? (i := 160) (by decide +kernel), List.mem_of_getElem? (i := 161) (by decide +kernel)⟩
theorem lw_p5 : lw_okq (⟨"MoveOrder", "bayAt", "(I)LMoveOrder$Bay;"⟩, 7) := ⟨⟨by decide +kernel, by decide +kernel⟩, List.mem_of_getElem? (i := 14) (by decide +kernel), List.mem_of_getElem? (i := 164) (by decide +kernel), List.mem_of_getElem? (i := 165) (by decide +kernel)⟩
theorem lw_p6 : lw_okq (⟨"MoveOrder$Bay", "forgetPlan", "()V"⟩, 7) := ⟨⟨by decide +kernel, by decide +kernel⟩, List.mem_of_getElem? (i := 31) (by decide +kernel), List.mem_of_getElem? (i := 168) (by decide +kernel), List.mem_of_getElem? (i := 169) (by decide +kernel)⟩
theorem lw_p7 : lw_okq (⟨"MoveOrder", "boxesAt", "(I)I"⟩, 7) := ⟨⟨by decide +kernel, by decide +kernel⟩, List.mem_of_getElem? (i := 14) (by decide +kernel), List.mem_of_getElem? (i := 176) (by decide +kernel), List.mem_of_getElem? (i := 177) (by decide +kernel)⟩
theorem lw_p8 : lw_okq (⟨"MoveOrder", "countOfBay", "(I)I"⟩, 7) := ⟨⟨by decide +kernel, by decide +kernel⟩, List.mem_of_getElem? (i := 14) (by decide +kernel), List.mem_of_getElem? (i := 180) (by decide +kernel), List.mem_of_getElem? (i := 181) (by decide +kernel)⟩
theorem lw_p9 : lw_okq (⟨"MoveOrder$Bay", "movesLeft", "()I"⟩, 7) := ⟨⟨by decide +kernel, by decide +kernel⟩, List.mem_of_getElem? (i := 31) (by decide +kernel), List.mem_of_getElem? (i := 184) (by decide +kernel), List.mem_of_getElem? (i := 185) (by decide +kernel)⟩
theorem lw_p10 : lw_okq (⟨"java/lang/Throwable", "fillInStackTrace", "(I)Ljava/lang/Throwable;"⟩, 6) := ⟨⟨by decide +kernel, by decide +kernel⟩, List.mem_of_getElem? (i := 238) (by decide +kernel), List.mem_of_getElem? (i := 236) (by decide +kernel), List.mem_of_getElem? (i := 237) (by decide +kernel)⟩
theorem lw_p11 : lw_okq (⟨"MoveOrder", "heightOf", "(II)I"⟩, 7) := ⟨⟨by decide +kernel, by decide +kernel⟩, List.mem_of_getElem? (i := 14) (by decide +kernel), List.mem_of_getElem? (i := 268) (by decide +kernel), List.mem_of_getElem? (i := 269) (by decide +kernel)⟩
theorem lw_p12 : lw_okq (⟨"MoveOrder", "boxesIn", "(I)I"⟩, 7) := ⟨⟨by decide +kernel, by decide +kernel⟩, List.mem_of_getElem? (i := 14) (by decide +kernel), List.mem_of_getElem? (i := 272) (by decide +kernel), List.mem_of_getElem? (i := 273) (by decide +kernel)⟩
theorem lw_p13 : lw_okq (⟨"MoveOrder$Box", "isIn", "(I)Z"⟩, 5) := ⟨⟨by decide +kernel, by decide +kernel⟩, List.mem_of_getElem? (i := 149) (by decide +kernel), List.mem_of_getElem? (i := 276) (by decide +kernel), List.mem_of_getElem? (i := 277) (by decide +kernel)⟩
theorem lw_p14 : lw_okq (⟨"MoveOrder$Search", "clear", "()V"⟩, 14) := ⟨⟨by decide +kernel, by decide +kernel⟩, List.mem_of_getElem? (i := 67) (by decide +kernel), List.mem_of_getElem? (i := 333) (by decide +kernel), List.mem_of_getElem? (i := 334) (by decide +kernel)⟩
theorem lw_p15 : lw_okq (⟨"MoveOrder$Search", "add", "(ILMoveOrder$Box;)V"⟩, 14) := ⟨⟨by decide +kernel, by decide +kernel⟩, List.mem_of_getElem? (i := 67) (by decide +kernel), List.mem_of_getElem? (i := 337) (by decide +kernel), List.mem_of_getElem? (i := 338) (by decide +kernel)⟩
def lw_privs_1 : List (MethodName × Nat) := [(⟨"MoveOrder", "boxAt", "(I)LMoveOrder$Box;"⟩, 7), (⟨"MoveOrder$Box", "isToLeave", "()Z"⟩, 5), (⟨"MoveOrder$Box", "follows", "(I)Z"⟩, 5), (⟨"MoveOrder", "comesBefore", "(ILMoveOrder$Box;)Z"⟩, 7), (⟨"MoveOrder", "forgetPlanOf", "(I)V"⟩, 7), (⟨"MoveOrder", "bayAt", "(I)LMoveOrder$Bay;"⟩, 7), (⟨"MoveOrder$Bay", "forgetPlan", "()V"⟩, 7), (⟨"MoveOrder", "boxesAt", "(I)I"⟩, 7), (⟨"MoveOrder", "countOfBay", "(I)I"⟩, 7), (⟨"MoveOrder$Bay", "movesLeft", "()I"⟩, 7), (⟨"java/lang/Throwable", "fillInStackTrace", "(I)Ljava/lang/Throwable;"⟩, 6), (⟨"MoveOrder", "heightOf", "(II)I"⟩, 7), (⟨"MoveOrder", "boxesIn", "(I)I"⟩, 7), (⟨"MoveOrder$Box", "isIn", "(I)Z"⟩, 5), (⟨"MoveOrder$Search", "clear", "()V"⟩, 14), (⟨"MoveOrder$Search", "add", "(ILMoveOrder$Box;)V"⟩, 14)]
theorem lw_r1 : ∀ q ∈ lw_privs_1, lw_okq q := List.forall_mem_cons.mpr ⟨lw_p0, List.forall_mem_cons.mpr ⟨lw_p1, List.forall_mem_cons.mpr ⟨lw_p2, List.forall_mem_cons.mpr ⟨lw_p3, List.forall_mem_cons.mpr ⟨lw_p4, List.forall_mem_cons.mpr ⟨lw_p5, List.forall_mem_cons.mpr ⟨lw_p6, List.forall_mem_cons.mpr ⟨lw_p7, List.forall_mem_cons.mpr ⟨lw_p8, List.forall_mem_cons.mpr ⟨lw_p9, List.forall_mem_cons.mpr ⟨lw_p10, List.forall_mem_cons.mpr ⟨lw_p11, List.forall_mem_cons.mpr ⟨lw_p12, List.forall_mem_cons.mpr ⟨lw_p13, List.forall_mem_cons.mpr ⟨lw_p14, List.forall_mem_cons.mpr ⟨lw_p15, fun _ h => absurd h List.not_mem_nil⟩⟩⟩⟩⟩⟩⟩⟩⟩⟩⟩⟩⟩⟩⟩⟩
theorem lw_p16 : lw_okq (⟨"MoveOrder$Search", "findPlan", "(LMoveOrder$Bay;)V"⟩, 14) := ⟨⟨by decide +kernel, by decide +kernel⟩, List.mem_of_getElem? (i := 67) (by decide +kernel), List.mem_of_getElem? (i := 341) (by decide +kernel), List.mem_of_getElem? (i := 342) (by decide +kernel)⟩
theorem lw_p17 : lw_okq (⟨"MoveOrder$Search", "reach", "(III)V"⟩, 14) := ⟨⟨by decide +kernel, by decide +kernel⟩, List.mem_of_getElem? (i := 67) (by decide +kernel), List.mem_of_getElem? (i := 345) (by decide +kernel), List.mem_of_getElem? (i := 346) (by decide +kernel)⟩
theorem lw_p18 : lw_okq (⟨"MoveOrder$Search", "isEnd", "(I)Z"⟩, 14) := ⟨⟨by decide +kernel, by decide +kernel⟩, List.mem_of_getElem? (i := 67) (by decide +kernel), List.mem_of_getElem? (i := 349) (by decide +kernel), List.mem_of_getElem? (i := 350) (by decide +kernel)⟩
theorem lw_p19 : lw_okq (⟨"MoveOrder$Search", "tryMoves", "(I)V"⟩, 14) := ⟨⟨by decide +kernel, by decide +kernel⟩, List.mem_of_getElem? (i := 67) (by decide +kernel), List.mem_of_getElem? (i := 353) (by decide +kernel), List.mem_of_getElem? (i := 354) (by decide +kernel)⟩
theorem lw_p20 : lw_okq (⟨"MoveOrder$Search", "measureStacks", "(I)V"⟩, 14) := ⟨⟨by decide +kernel, by decide +kernel⟩, List.mem_of_getElem? (i := 67) (by decide +kernel), List.mem_of_getElem? (i := 357) (by decide +kernel), List.mem_of_getElem? (i := 358) (by decide +kernel)⟩
theorem lw_p21 : lw_okq (⟨"MoveOrder$Search", "tryTop", "(III)V"⟩, 14) := ⟨⟨by decide +kernel, by decide +kernel⟩, List.mem_of_getElem? (i := 67) (by decide +kernel), List.mem_of_getElem? (i := 364) (by decide +kernel), List.mem_of_getElem? (i := 365) (by decide +kernel)⟩
theorem lw_p22 : lw_okq (⟨"MoveOrder$Search", "tryStacks", "(IIII)V"⟩, 14) := ⟨⟨by decide +kernel, by decide +kernel⟩, List.mem_of_getElem? (i := 67) (by decide +kernel), List.mem_of_getElem? (i := 368) (by decide +kernel), List.mem_of_getElem? (i := 369) (by decide +kernel)⟩
theorem lw_p23 : lw_okq (⟨"MoveOrder$Search", "mayGoOut", "(II)Z"⟩, 14) := ⟨⟨by decide +kernel, by decide +kernel⟩, List.mem_of_getElem? (i := 67) (by decide +kernel), List.mem_of_getElem? (i := 378) (by decide +kernel), List.mem_of_getElem? (i := 379) (by decide +kernel)⟩
theorem lw_p24 : lw_okq (⟨"MoveOrder$Search", "tellPlan", "(LMoveOrder$Bay;)V"⟩, 14) := ⟨⟨by decide +kernel, by decide +kernel⟩, List.mem_of_getElem? (i := 67) (by decide +kernel), List.mem_of_getElem? (i := 383) (by decide +kernel), List.mem_of_getElem? (i := 384) (by decide +kernel)⟩
theorem lw_p25 : lw_okq (⟨"MoveOrder$Bay", "startPlan", "(I)V"⟩, 7) := ⟨⟨by decide +kernel, by decide +kernel⟩, List.mem_of_getElem? (i := 31) (by decide +kernel), List.mem_of_getElem? (i := 387) (by decide +kernel), List.mem_of_getElem? (i := 388) (by decide +kernel)⟩
theorem lw_p26 : lw_okq (⟨"MoveOrder$Bay", "setMove", "(IIII)V"⟩, 7) := ⟨⟨by decide +kernel, by decide +kernel⟩, List.mem_of_getElem? (i := 31) (by decide +kernel), List.mem_of_getElem? (i := 392) (by decide +kernel), List.mem_of_getElem? (i := 393) (by decide +kernel)⟩
theorem lw_p27 : lw_okq (⟨"MoveOrder$Bay", "hasMove", "(I)Z"⟩, 7) := ⟨⟨by decide +kernel, by decide +kernel⟩, List.mem_of_getElem? (i := 31) (by decide +kernel), List.mem_of_getElem? (i := 396) (by decide +kernel), List.mem_of_getElem? (i := 397) (by decide +kernel)⟩
theorem lw_p28 : lw_okq (⟨"MoveOrder$Search", "forgetSeen", "()V"⟩, 14) := ⟨⟨by decide +kernel, by decide +kernel⟩, List.mem_of_getElem? (i := 67) (by decide +kernel), List.mem_of_getElem? (i := 400) (by decide +kernel), List.mem_of_getElem? (i := 401) (by decide +kernel)⟩
theorem lw_p29 : lw_okq (⟨"MoveOrder", "liesAboveLeaving", "(LMoveOrder$Box;)Z"⟩, 7) := ⟨⟨by decide +kernel, by decide +kernel⟩, List.mem_of_getElem? (i := 14) (by decide +kernel), List.mem_of_getElem? (i := 444) (by decide +kernel), List.mem_of_getElem? (i := 445) (by decide +kernel)⟩
theorem lw_p30 : lw_okq (⟨"MoveOrder$Box", "liesInStack", "()Z"⟩, 5) := ⟨⟨by decide +kernel, by decide +kernel⟩, List.mem_of_getElem? (i := 149) (by decide +kernel), List.mem_of_getElem? (i := 448) (by decide +kernel), List.mem_of_getElem? (i := 449) (by decide +kernel)⟩
theorem lw_p31 : lw_okq (⟨"MoveOrder$Box", "liesBelow", "(LMoveOrder$Box;)Z"⟩, 5) := ⟨⟨by decide +kernel, by decide +kernel⟩, List.mem_of_getElem? (i := 149) (by decide +kernel), List.mem_of_getElem? (i := 452) (by decide +kernel), List.mem_of_getElem? (i := 453) (by decide +kernel)⟩
def lw_privs_2 : List (MethodName × Nat) := [(⟨"MoveOrder$Search", "findPlan", "(LMoveOrder$Bay;)V"⟩, 14), (⟨"MoveOrder$Search", "reach", "(III)V"⟩, 14), (⟨"MoveOrder$Search", "isEnd", "(I)Z"⟩, 14), (⟨"MoveOrder$Search", "tryMoves", "(I)V"⟩, 14), (⟨"MoveOrder$Search", "measureStacks", "(I)V"⟩, 14), (⟨"MoveOrder$Search", "tryTop", "(III)V"⟩, 14), (⟨"MoveOrder$Search", "tryStacks", "(IIII)V"⟩, 14), (⟨"MoveOrder$Search", "mayGoOut", "(II)Z"⟩, 14), (⟨"MoveOrder$Search", "tellPlan", "(LMoveOrder$Bay;)V"⟩, 14), (⟨"MoveOrder$Bay", "startPlan", "(I)V"⟩, 7), (⟨"MoveOrder$Bay", "setMove", "(IIII)V"⟩, 7), (⟨"MoveOrder$Bay", "hasMove", "(I)Z"⟩, 7), (⟨"MoveOrder$Search", "forgetSeen", "()V"⟩, 14), (⟨"MoveOrder", "liesAboveLeaving", "(LMoveOrder$Box;)Z"⟩, 7), (⟨"MoveOrder$Box", "liesInStack", "()Z"⟩, 5), (⟨"MoveOrder$Box", "liesBelow", "(LMoveOrder$Box;)Z"⟩, 5)]
theorem lw_r2 : ∀ q ∈ lw_privs_2, lw_okq q := List.forall_mem_cons.mpr ⟨lw_p16, List.forall_mem_cons.mpr ⟨lw_p17, List.forall_mem_cons.mpr ⟨lw_p18, List.forall_mem_cons.mpr ⟨lw_p19, List.forall_mem_cons.mpr ⟨lw_p20, List.forall_mem_cons.mpr ⟨lw_p21, List.forall_mem_cons.mpr ⟨lw_p22, List.forall_mem_cons.mpr ⟨lw_p23, List.forall_mem_cons.mpr ⟨lw_p24, List.forall_mem_cons.mpr ⟨lw_p25, List.forall_mem_cons.mpr ⟨lw_p26, List.forall_mem_cons.mpr ⟨lw_p27, List.forall_mem_cons.mpr ⟨lw_p28, List.forall_mem_cons.mpr ⟨lw_p29, List.forall_mem_cons.mpr ⟨lw_p30, List.forall_mem_cons.mpr ⟨lw_p31, fun _ h => absurd h List.not_mem_nil⟩⟩⟩⟩⟩⟩⟩⟩⟩⟩⟩⟩⟩⟩⟩⟩
theorem lw_p32 : lw_okq (⟨"MoveOrder$Bay", "movesOutLeft", "()I"⟩, 7) := ⟨⟨by decide +kernel, by decide +kernel⟩, List.mem_of_getElem? (i := 31) (by decide +kernel), List.mem_of_getElem? (i := 472) (by decide +kernel), List.mem_of_getElem? (i := 473) (by decide +kernel)⟩
theorem lw_p33 : lw_okq (⟨"MoveOrder", "hasNeeds", "(ILMoveOrder$Box;)Z"⟩, 7) := ⟨⟨by decide +kernel, by decide +kernel⟩, List.mem_of_getElem? (i := 14) (by decide +kernel), List.mem_of_getElem? (i := 484) (by decide +kernel), List.mem_of_getElem? (i := 485) (by decide +kernel)⟩
theorem lw_p34 : lw_okq (⟨"MoveOrder$Box", "changePlaces", "(LMoveOrder$Box;)V"⟩, 5) := ⟨⟨by decide +kernel, by decide +kernel⟩, List.mem_of_getElem? (i := 149) (by decide +kernel), List.mem_of_getElem? (i := 488) (by decide +kernel), List.mem_of_getElem? (i := 489) (by decide +kernel)⟩
theorem lw_p35 : lw_okq (⟨"MoveOrderModel", "isBay", "(I)Z"⟩, 25) := ⟨⟨by decide +kernel, by decide +kernel⟩, List.mem_of_getElem? (i := 500) (by decide +kernel), List.mem_of_getElem? (i := 591) (by decide +kernel), List.mem_of_getElem? (i := 592) (by decide +kernel)⟩
theorem lw_p36 : lw_okq (⟨"MoveOrderModel", "refuse", "(I)I"⟩, 25) := ⟨⟨by decide +kernel, by decide +kernel⟩, List.mem_of_getElem? (i := 500) (by decide +kernel), List.mem_of_getElem? (i := 598) (by decide +kernel), List.mem_of_getElem? (i := 599) (by decide +kernel)⟩
theorem lw_p37 : lw_okq (⟨"MoveOrderModel", "there", "(I)I"⟩, 25) := ⟨⟨by decide +kernel, by decide +kernel⟩, List.mem_of_getElem? (i := 500) (by decide +kernel), List.mem_of_getElem? (i := 602) (by decide +kernel), List.mem_of_getElem? (i := 603) (by decide +kernel)⟩
theorem lw_p38 : lw_okq (⟨"MoveOrderModel", "height", "(II)I"⟩, 25) := ⟨⟨by decide +kernel, by decide +kernel⟩, List.mem_of_getElem? (i := 500) (by decide +kernel), List.mem_of_getElem? (i := 606) (by decide +kernel), List.mem_of_getElem? (i := 607) (by decide +kernel)⟩
theorem lw_p39 : lw_okq (⟨"MoveOrderModel", "voids", "(I)V"⟩, 25) := ⟨⟨by decide +kernel, by decide +kernel⟩, List.mem_of_getElem? (i := 500) (by decide +kernel), List.mem_of_getElem? (i := 610) (by decide +kernel), List.mem_of_getElem? (i := 611) (by decide +kernel)⟩
theorem lw_p40 : lw_okq (⟨"MoveOrderModel", "isBox", "(I)Z"⟩, 25) := ⟨⟨by decide +kernel, by decide +kernel⟩, List.mem_of_getElem? (i := 500) (by decide +kernel), List.mem_of_getElem? (i := 618) (by decide +kernel), List.mem_of_getElem? (i := 619) (by decide +kernel)⟩
theorem lw_p41 : lw_okq (⟨"MoveOrderModel", "leads", "(II)Z"⟩, 25) := ⟨⟨by decide +kernel, by decide +kernel⟩, List.mem_of_getElem? (i := 500) (by decide +kernel), List.mem_of_getElem? (i := 622) (by decide +kernel), List.mem_of_getElem? (i := 623) (by decide +kernel)⟩
theorem lw_p42 : lw_okq (⟨"MoveOrderModel", "search", "(I)I"⟩, 25) := ⟨⟨by decide +kernel, by decide +kernel⟩, List.mem_of_getElem? (i := 500) (by decide +kernel), List.mem_of_getElem? (i := 630) (by decide +kernel), List.mem_of_getElem? (i := 631) (by decide +kernel)⟩
theorem lw_p43 : lw_okq (⟨"MoveOrderModel", "begins", "(I)J"⟩, 25) := ⟨⟨by decide +kernel, by decide +kernel⟩, List.mem_of_getElem? (i := 500) (by decide +kernel), List.mem_of_getElem? (i := 634) (by decide +kernel), List.mem_of_getElem? (i := 635) (by decide +kernel)⟩
theorem lw_p44 : lw_okq (⟨"MoveOrderModel", "comes", "(JII)V"⟩, 25) := ⟨⟨by decide +kernel, by decide +kernel⟩, List.mem_of_getElem? (i := 500) (by decide +kernel), List.mem_of_getElem? (i := 638) (by decide +kernel), List.mem_of_getElem? (i := 639) (by decide +kernel)⟩
theorem lw_p45 : lw_okq (⟨"MoveOrderModel", "isEnd", "(J)Z"⟩, 25) := ⟨⟨by decide +kernel, by decide +kernel⟩, List.mem_of_getElem? (i := 500) (by decide +kernel), List.mem_of_getElem? (i := 644) (by decide +kernel), List.mem_of_getElem? (i := 645) (by decide +kernel)⟩
theorem lw_p46 : lw_okq (⟨"MoveOrderModel", "moved", "(JII)J"⟩, 25) := ⟨⟨by decide +kernel, by decide +kernel⟩, List.mem_of_getElem? (i := 500) (by decide +kernel), List.mem_of_getElem? (i := 654) (by decide +kernel), List.mem_of_getElem? (i := 655) (by decide +kernel)⟩
theorem lw_p47 : lw_okq (⟨"MoveOrderModel", "taken", "(JI)I"⟩, 25) := ⟨⟨by decide +kernel, by decide +kernel⟩, List.mem_of_getElem? (i := 500) (by decide +kernel), List.mem_of_getElem? (i := 658) (by decide +kernel), List.mem_of_getElem? (i := 659) (by decide +kernel)⟩
def lw_privs_3 : List (MethodName × Nat) := [(⟨"MoveOrder$Bay", "movesOutLeft", "()I"⟩, 7), (⟨"MoveOrder", "hasNeeds", "(ILMoveOrder$Box;)Z"⟩, 7), (⟨"MoveOrder$Box", "changePlaces", "(LMoveOrder$Box;)V"⟩, 5), (⟨"MoveOrderModel", "isBay", "(I)Z"⟩, 25), (⟨"MoveOrderModel", "refuse", "(I)I"⟩, 25), (⟨"MoveOrderModel", "there", "(I)I"⟩, 25), (⟨"MoveOrderModel", "height", "(II)I"⟩, 25), (⟨"MoveOrderModel", "voids", "(I)V"⟩, 25), (⟨"MoveOrderModel", "isBox", "(I)Z"⟩, 25), (⟨"MoveOrderModel", "leads", "(II)Z"⟩, 25), (⟨"MoveOrderModel", "search", "(I)I"⟩, 25), (⟨"MoveOrderModel", "begins", "(I)J"⟩, 25), (⟨"MoveOrderModel", "comes", "(JII)V"⟩, 25), (⟨"MoveOrderModel", "isEnd", "(J)Z"⟩, 25), (⟨"MoveOrderModel", "moved", "(JII)J"⟩, 25), (⟨"MoveOrderModel", "taken", "(JI)I"⟩, 25)]
theorem lw_r3 : ∀ q ∈ lw_privs_3, lw_okq q := List.forall_mem_cons.mpr ⟨lw_p32, List.forall_mem_cons.mpr ⟨lw_p33, List.forall_mem_cons.mpr ⟨lw_p34, List.forall_mem_cons.mpr ⟨lw_p35, List.forall_mem_cons.mpr ⟨lw_p36, List.forall_mem_cons.mpr ⟨lw_p37, List.forall_mem_cons.mpr ⟨lw_p38, List.forall_mem_cons.mpr ⟨lw_p39, List.forall_mem_cons.mpr ⟨lw_p40, List.forall_mem_cons.mpr ⟨lw_p41, List.forall_mem_cons.mpr ⟨lw_p42, List.forall_mem_cons.mpr ⟨lw_p43, List.forall_mem_cons.mpr ⟨lw_p44, List.forall_mem_cons.mpr ⟨lw_p45, List.forall_mem_cons.mpr ⟨lw_p46, List.forall_mem_cons.mpr ⟨lw_p47, fun _ h => absurd h List.not_mem_nil⟩⟩⟩⟩⟩⟩⟩⟩⟩⟩⟩⟩⟩⟩⟩⟩
theorem lw_p48 : lw_okq (⟨"MoveOrderModel", "top", "(JI)I"⟩, 25) := ⟨⟨by decide +kernel, by decide +kernel⟩, List.mem_of_getElem? (i := 500) (by decide +kernel), List.mem_of_getElem? (i := 662) (by decide +kernel), List.mem_of_getElem? (i := 663) (by decide +kernel)⟩
theorem lw_p49 : lw_okq (⟨"MoveOrderModel", "at", "(JII)I"⟩, 25) := ⟨⟨by decide +kernel, by decide +kernel⟩, List.mem_of_getElem? (i := 500) (by decide +kernel), List.mem_of_getElem? (i := 666) (by decide +kernel), List.mem_of_getElem? (i := 667) (by decide +kernel)⟩
theorem lw_p50 : lw_okq (⟨"MoveOrderModel", "mayLeave", "(JI)Z"⟩, 25) := ⟨⟨by decide +kernel, by decide +kernel⟩, List.mem_of_getElem? (i := 500) (by decide +kernel), List.mem_of_getElem? (i := 671) (by decide +kernel), List.mem_of_getElem? (i := 672) (by decide +kernel)⟩
theorem lw_p51 : lw_okq (⟨"MoveOrderModel", "isAbove", "(I)Z"⟩, 25) := ⟨⟨by decide +kernel, by decide +kernel⟩, List.mem_of_getElem? (i := 500) (by decide +kernel), List.mem_of_getElem? (i := 688) (by decide +kernel), List.mem_of_getElem? (i := 689) (by decide +kernel)⟩
theorem lw_p52 : lw_okq (⟨"MoveOrderModel", "hasNeeds", "(I)Z"⟩, 25) := ⟨⟨by decide +kernel, by decide +kernel⟩, List.mem_of_getElem? (i := 500) (by decide +kernel), List.mem_of_getElem? (i := 704) (by decide +kernel), List.mem_of_getElem? (i := 705) (by decide +kernel)⟩
def lw_privs_4 : List (MethodName × Nat) := [(⟨"MoveOrderModel", "top", "(JI)I"⟩, 25), (⟨"MoveOrderModel", "at", "(JII)I"⟩, 25), (⟨"MoveOrderModel", "mayLeave", "(JI)Z"⟩, 25), (⟨"MoveOrderModel", "isAbove", "(I)Z"⟩, 25), (⟨"MoveOrderModel", "hasNeeds", "(I)Z"⟩, 25)]
theorem lw_r4 : ∀ q ∈ lw_privs_4, lw_okq q := List.forall_mem_cons.mpr ⟨lw_p48, List.forall_mem_cons.mpr ⟨lw_p49, List.forall_mem_cons.mpr ⟨lw_p50, List.forall_mem_cons.mpr ⟨lw_p51, List.forall_mem_cons.mpr ⟨lw_p52, fun _ h => absurd h List.not_mem_nil⟩⟩⟩⟩⟩
def lw_privs : List (MethodName × Nat) := lw_privs_1 ++ (lw_privs_2 ++ (lw_privs_3 ++ (lw_privs_4)))
def lw_tbl : List Cond := k2_sels lw_privs ++ tables_1
theorem lw_privs_ok : ∀ q ∈ lw_privs, lw_okq q := by
  show ∀ q ∈ lw_privs_1 ++ (lw_privs_2 ++ (lw_privs_3 ++ (lw_privs_4))), lw_okq q
  exact List.forall_mem_append.mpr ⟨lw_r1, List.forall_mem_append.mpr ⟨lw_r2, List.forall_mem_append.mpr ⟨lw_r3, lw_r4⟩⟩⟩
end
section
/-! ===== BEGIN words of one list among another's, by their places ===== -/
theorem goodIn_r {big : List Cond} (ws : List Cond) (ps : List Nat) (hp : ws = ps.filterMap (fun i => big[i]?)) (h : ws.all goodWord = true) : GoodIn big ws := by
  intro w hw
  have h1 := List.all_eq_true.mp h w hw
  rw [hp] at hw
  obtain ⟨i, -, hi⟩ := List.mem_filterMap.mp hw
  have hm : w ∈ big := by first | exact List.mem_of_getElem? hi | exact List.getElem?_mem hi
  exact ⟨hm, good_of_word h1⟩
theorem goodIn_app {big a b : List Cond} (ha : GoodIn big a) (hb : GoodIn big b) : GoodIn big (a ++ b) := fun w h => (List.mem_append.mp h).elim (ha w) (hb w)
theorem goodIn_ca {big a b : List Cond} {c : Cond} (ha : GoodIn big (c :: a)) (hb : GoodIn big b) : GoodIn big (c :: (a ++ b)) := fun w h => (List.mem_cons.mp h).elim (fun e => ha w (List.mem_cons.mpr (Or.inl e))) (fun h => (List.mem_append.mp h).elim (fun h => ha w (List.mem_cons.mpr (Or.inr h))) (hb w))
theorem goodIn_sub {big ws : List Cond} (hm : ∀ w ∈ ws, w ∈ big) (h : ws.all goodWord = true) : GoodIn big ws := fun w hw => ⟨hm w hw, good_of_word (List.all_eq_true.mp h w hw)⟩
/-! ===== END ===== -/

/-! ===== BEGIN exceptions that leave a method, and their catching by the caller (launches without stack traces) ===== -/
section VXA
/-! The laws vx_back, vx_callV, vx_callS, vx_callSW, vx_throw0, vx_throwS follow proofs of the library, with one case more: JvmDerived/Free/Laws.lean (Back.of_free), Shelf42/LK1.lean (callV, callS), Shelf/KitTraced.lean (throwNew0V, throwNewS). -/
/-- where a method has thrown q: the class by its name, the cell, what was written, the world -/
def vx_T (XC : String → State → State → Prop) (st : State) (q : Addr) (t : State) (mc ms : Nat) (free : Addr → Prop) : Prop :=
  ∃ (E : String) (ce : Cell) (L : List Loc), XC E st t ∧ t.heap[q]? = some ce ∧ ce.vm = .none ∧ st.vm.findClass E = some ce.cls ∧ st.WarmedH t.vm ∧ st.sameButNew ({ t with vm := st.vm } : State) L mc ms ∧ ∀ z ∈ L, free z.base
def vx_Q (Qc : Array Value → State → Outcome → State → Prop) (XC : String → State → State → Prop) (mc ms : Nat) (free : Addr → Prop) : Array Value → State → Outcome → State → Prop := fun a st o t =>
  (Qc a st o t ∧ ∃ L, FrameEnd st o t L mc ms ∧ ∀ q ∈ L, free q.base) ∨ ∃ q, o = .threw q ∧ vx_T XC st q t mc ms free
/-- a callee that returns or throws -/
def vx_Met (l : Launch) (y : MethodName) (ws : List Cond) (rm : Room) (Pc : Array Value → State → Prop) (Qc : Array Value → State → Outcome → State → Prop) (XC : String → State → State → Prop) (mc ms : Nat) (free : Addr → Prop) : Prop :=
  MetFree l y (headSpec ws rm) Pc (fun _ _ _ _ _ => True) (vx_Q Qc XC mc ms free)
def vx_Post (XC : String → State → State → Prop) (mc ms : Nat) (free : Addr → Prop) : Pt → Array Value → Addr → Pt → Prop := fun A a q B =>
  ∃ (g : JFrame) (mk : MethodId) (t : State) (L : List Loc) (E : String) (ce : Cell), B.U.heap = t.heap ∧ B.U.vm = t.vm ∧ XC E (A.U.calling g mk a) t ∧ t.heap[q]? = some ce ∧ ce.vm = .none ∧ A.U.vm.findClass E = some ce.cls ∧ B.locs = A.locs ++ L ∧ (∀ z ∈ L, free z.base) ∧ B.cells = A.cells + mc ∧ B.slots = A.slots + ms
def vx_Back (l : Launch) (R : Room) (p : Program) (e : Env) (below : List Frame) (s : State) (sargs : Array Value) (y : MethodName) (len W9 : Nat)
    (Pre : Pt → Array Value → Prop) (Post : Pt → Array Value → Option Value → Pt → Prop) (PostX : Pt → Array Value → Addr → Pt → Prop) : Prop :=
  ∀ (m : MethodId) (meth : Method) (c : Code) (A : Pt) (g : JFrame) (ig : Instr) (mk : MethodId) (a : Array Value),
    Stand p l e R s m sargs below meth c A.U A.locs A.cells A.slots → g.method = m → g.locals.size = c.maxLocals → decode c.code g.pc = .ok (ig, len) →
    2 * g.monitorRoom + (g.stack.map fun v => v.category).sum ≤ W9 → A.U.methodNamed? y = some mk → Pre A a →
    (∃ (v : Option Value) (B : Pt), Stand p l e R s m sargs below meth c B.U B.locs B.cells B.slots ∧ Post A a v B ∧
      Steps p.tables e below (doInvoke e (A.U.setTop g) [] mk a).1 (B.U.setTop { g with pc := g.pc + len, stack := v.toList ++ g.stack })) ∨
    (∃ (q : Addr) (B : Pt), Stand p l e R s m sargs below meth c B.U B.locs B.cells B.slots ∧ PostX A a q B ∧
      Steps p.tables e below (doInvoke e (A.U.setTop g) [] mk a).1 ((B.U.setTop g).pushFrame (.throwing q)))
section Payer
variable {l : Launch} {R : Room} {p : Program} {e : Env} {below : List Frame} {s : State} {sargs : Array Value} {y : MethodName} {len W9 : Nat}
theorem vx_back {ws : List Cond} {rm : Room} {Pc : Array Value → State → Prop} {Qc : Array Value → State → Outcome → State → Prop} {XC : String → State → State → Prop} {mc ms : Nat} {free : Addr → Prop} {bytes : ByteArray} {maxL : Nat} {ret : Option FieldType}
    (hM : vx_Met l y ws rm Pc Qc XC mc ms free) (hblind : FrameBlind Pc) (hrc : rm.cells = mc) (hrs : rm.slots = ms)
    (hframes : rm.frames + 1 ≤ R.frames) (hlocals : W9 + (maxL + 11) + rm.locals ≤ R.locals)
    (hws : ∀ w ∈ ws, ∀ a' U, s.WarmedH U.vm → w.before a' U = true) (hcode : Cond.code y bytes maxL ret ∈ ws) (hinit : ∀ a' U, s.WarmedH U.vm → (Cond.initialized y.cls).before a' U = true) :
    vx_Back l R p e below s sargs y len W9 (PreOf R mc ms Pc) (PostOf Qc mc ms free) (vx_Post XC mc ms free) := by
  intro m meth c A g ig mk a X hg hsize hdg hW hn hp
  have h1 : (headSpec ws rm).pre.before a A.U = true := atoms_intro fun w hw => hws w hw _ _ X.warmed
  have h2 : (Cond.code y bytes maxL ret).before a A.U = true := hws _ hcode _ _ X.warmed
  have h3 : (Cond.initialized y.cls).before a A.U = true := hinit _ _ X.warmed
  have h4 : A.cells + (headSpec ws rm).room.cells ≤ R.cells := by rw [show (headSpec ws rm).room.cells = mc from hrc]; exact hp.1
  have h5 : A.slots + (headSpec ws rm).room.slots ≤ R.slots := by rw [show (headSpec ws rm).room.slots = ms from hrs]; exact hp.2.1
  have hPc : Pc a (A.U.calling g mk a) := hblind _ _ _ _ hp.2.2
  obtain ⟨U, Ls, c0, s0⟩ := A
  dsimp only [Pt.U, Pt.locs, Pt.cells, Pt.slots] at h1 h2 h3 h4 h5 X hn hPc ⊢
  obtain ⟨methY, cY, hmY, hcY, -, hlY, -, -, -, -⟩ := Cond.code_spec hn h2
  obtain ⟨kY, hkY, -⟩ := className_of_methodNamed hn
  have hinitY : kY.init = .initialized := Cond.initialized_spec (findClass_of_methodNamed hn) hkY h3
  have h : At U g.method c below := by rw [hg]; exact X.here
  have hlocals9 : W9 + (maxL + 11) + (headSpec ws rm).room.locals ≤ R.locals := hlocals
  have happ : (headSpec ws rm).appliesLoose y e.platform (U.calling g mk a) = true :=
    Spec.appliesLoose_calling (g := g) h hdg hn hkY hinitY
      (X.room_calling (g := g) (R' := (headSpec ws rm).room) hsize hmY hcY hframes (by rw [hlY]; omega) h4 h5) h1
  obtain ⟨mid, hmid⟩ := h.above
  have hfr : (U.setTop g).frames = (.java g :: mid) ++ below := by rw [State.frames_setTop' g h.top, hmid]; rfl
  obtain ⟨o, s₂, hsteps, -, hend, hq⟩ := Steps.callFree hM p X.admits X.cas X.clock (acts := []) hfr happ hPc trivial
  have hq' : vx_Q Qc XC mc ms free a (U.calling g mk a) o s₂ := hq
  rw [State.frames_setTop' g h.top] at hend
  obtain ⟨g₀, hg0⟩ := Option.isSome_iff_exists.mp h.top
  obtain ⟨r, hr⟩ := State.topJava?_eq_some.mp hg0
  have hr' : (({ U with heap := s₂.heap, slotsUsed := s₂.slotsUsed } : State).setVm s₂.vm).frames = .java g₀ :: r := hr
  rcases hq' with ⟨hqc, L, hfe, hL⟩ | ⟨q, rfl, E, ce, L, hx, hce, hcv, hcl, hW₂, hsm, hL⟩
  · obtain ⟨⟨v, rfl⟩, hW₂, e2, q2, q3, q4, q5, q6⟩ := id hfe
    have e3 : s₂ = ({ (U.calling g mk a).setFrames s₂.frames with heap := s₂.heap, slotsUsed := s₂.slotsUsed } : State).setVm s₂.vm := by
      have : s₂ = ({ s₂ with vm := (U.calling g mk a).vm } : State).setVm s₂.vm := rfl
      rw [e2] at this
      exact this
    obtain ⟨c₂, i₂, len₂, hc₂, hd₂, hf₂⟩ := hend
    have hW' : U.WarmedH s₂.vm := hW₂
    have hcc : c₂ = c := by
      have h1 : s₂.code? g.method = U.code? g.method := by
        rw [State.code?_eq, State.code?_eq, hW'.alike.method?]
      exact Option.some.inj (hc₂.symm.trans (h1.trans h.code))
    subst hcc
    have hlen : len₂ = len := by rw [hdg] at hd₂; cases hd₂; rfl
    subst hlen
    have hs₂ : s₂ = (({ U with heap := s₂.heap, slotsUsed := s₂.slotsUsed } : State).setVm s₂.vm).setTop { g with pc := g.pc + len₂, stack := v.toList ++ g.stack } := by
      refine e3.trans ?_
      rw [hf₂, State.calling_eq h.top, State.setFrames_setFrames, State.setTop_of_frames _ hr', hr]
      rfl
    have hsame : U.sameButNew ({ U with heap := s₂.heap, slotsUsed := s₂.slotsUsed } : State) L mc ms := by
      refine ⟨?_, q2, q3, q4, q5, q6⟩
      obtain ⟨t, ht, -⟩ := State.frames_cons hr
      show ({ U with heap := s₂.heap, slotsUsed := s₂.slotsUsed } : State) = { U.setFrames U.frames with heap := s₂.heap, slotsUsed := s₂.slotsUsed }
      rw [State.setFrames_self ht]
    subst hg
    refine Or.inl ⟨v, ⟨(({ U with heap := s₂.heap, slotsUsed := s₂.slotsUsed } : State).setVm s₂.vm), Ls ++ L, c0 + mc, s0 + ms⟩,
      ⟨X.admits, X.cas, X.clock, X.frames, X.room, X.hears, X.method, X.code, (X.here.setHeapUsed s₂.heap s₂.slotsUsed).setVm hW'.alike, X.tail, State.WarmedH.trans X.warmed hW', X.limits, X.bytes, X.same.trans (hsame.setVm s.vm)⟩,
      ⟨g, mk, s₂, L, rfl, rfl, hqc, rfl, hL, rfl, rfl⟩, ?_⟩
    show Steps p.tables e below _ ((({ U with heap := s₂.heap, slotsUsed := s₂.slotsUsed } : State).setVm s₂.vm).setTop { g with pc := g.pc + len₂, stack := v.toList ++ g.stack })
    rw [← hs₂]
    exact hsteps
  · obtain ⟨e2, q2, q3, q4, q5, q6⟩ := id hsm
    have e3 : s₂ = ({ (U.calling g mk a).setFrames s₂.frames with heap := s₂.heap, slotsUsed := s₂.slotsUsed } : State).setVm s₂.vm := by
      have : s₂ = ({ s₂ with vm := (U.calling g mk a).vm } : State).setVm s₂.vm := rfl
      rw [e2] at this
      exact this
    have hf₂ : s₂.frames = .throwing q :: .java g :: U.frames.tail := hend
    have hW' : U.WarmedH s₂.vm := hW₂
    have hs₂ : s₂ = ((({ U with heap := s₂.heap, slotsUsed := s₂.slotsUsed } : State).setVm s₂.vm).setTop g).pushFrame (.throwing q) := by
      refine e3.trans ?_
      rw [hf₂, State.calling_eq h.top, State.setFrames_setFrames, State.pushFrame, State.frames_setTop _ hr', State.setTop_of_frames _ hr', State.setFrames_setFrames, hr]
      rfl
    have hsame : U.sameButNew ({ U with heap := s₂.heap, slotsUsed := s₂.slotsUsed } : State) L mc ms := by
      refine ⟨?_, q2, q3, q4, q5, q6⟩
      obtain ⟨t, ht, -⟩ := State.frames_cons hr
      show ({ U with heap := s₂.heap, slotsUsed := s₂.slotsUsed } : State) = { U.setFrames U.frames with heap := s₂.heap, slotsUsed := s₂.slotsUsed }
      rw [State.setFrames_self ht]
    subst hg
    refine Or.inr ⟨q, ⟨(({ U with heap := s₂.heap, slotsUsed := s₂.slotsUsed } : State).setVm s₂.vm), Ls ++ L, c0 + mc, s0 + ms⟩,
      ⟨X.admits, X.cas, X.clock, X.frames, X.room, X.hears, X.method, X.code, (X.here.setHeapUsed s₂.heap s₂.slotsUsed).setVm hW'.alike, X.tail, State.WarmedH.trans X.warmed hW', X.limits, X.bytes, X.same.trans (hsame.setVm s.vm)⟩,
      ⟨g, mk, s₂, L, E, ce, rfl, rfl, hx, hce, hcv, hcl, rfl, hL, rfl, rfl⟩, ?_⟩
    show Steps p.tables e below _ (((({ U with heap := s₂.heap, slotsUsed := s₂.slotsUsed } : State).setVm s₂.vm).setTop g).pushFrame (.throwing q))
    rw [← hs₂]
    exact hsteps
end Payer
section Calls
variable {p : Program} {l : Launch} {e : Env} {R : Room} {s : State} {m : MethodId} {args : Array Value} {below : List Frame} {meth : Method} {c : Code} {T : State} {locs : List Loc} {cells slots : Nat}
theorem vx_callV (X : Stand p l e R s m args below meth c T locs cells slots) (hexec : p.tables.exec = Jvm.exec) {own C : String} {index : Nat} {y : MethodName} {bytes : ByteArray} {maxL : Nat} {ret : Option FieldType}
    (hown : s.vm.findClass own = some m.cls) (hlink : (Cond.methodLink own index y).before args s = true) (hinst : (Cond.instanceMethod y).before args s = true) (hsel : (Cond.selects C y y).before args s = true)
    (hcode : (Cond.code y bytes maxL ret).before args s = true) (hy : y.cls ≠ "java/lang/invoke/MethodHandle" ∧ y.cls ≠ "java/lang/invoke/VarHandle")
    {W9 : Nat} {Pre : Pt → Array Value → Prop} {Post : Pt → Array Value → Option Value → Pt → Prop} {PostX : Pt → Array Value → Addr → Pt → Prop} (hK : vx_Back l R p e below s args y 3 W9 Pre Post PostX)
    {b : Addr} {cellB : Cell} (hcell : T.heap[b]? = some cellB) (hobj : cellB.vm.isStatics = false) (hcls : s.vm.findClass C = some cellB.cls)
    {g : JFrame} (hg : g.method = m) (hsize : g.locals.size = c.maxLocals) {argsL rest : List Value} (hlen : ∀ sig, parseMethodDescriptor y.desc = some sig → argsL.length = sig.parameters.length)
    (hstack : g.stack = argsL.reverse ++ .ref b :: rest) (hW : 2 * g.monitorRoom + (rest.map fun v => v.category).sum ≤ W9) (hdg : decode c.code g.pc = .ok (.invokevirtual index, 3))
    (hpre : ∀ vm₁, s.WarmedH vm₁ → Pre ⟨T.setVm vm₁, locs, cells, slots⟩ (Value.ref b :: argsL).toArray) :
    (∃ (v : Option Value) (vm₁ : Vm) (B : Pt), s.WarmedH vm₁ ∧ Stand p l e R s m args below meth c B.U B.locs B.cells B.slots ∧ Post ⟨T.setVm vm₁, locs, cells, slots⟩ (Value.ref b :: argsL).toArray v B ∧
      ∀ target, Steps p.tables e below (B.U.setTop { g with pc := g.pc + 3, stack := v.toList ++ rest }) target → Steps p.tables e below (T.setTop g) target) ∨
    (∃ (q : Addr) (vm₁ : Vm) (B : Pt), s.WarmedH vm₁ ∧ Stand p l e R s m args below meth c B.U B.locs B.cells B.slots ∧ PostX ⟨T.setVm vm₁, locs, cells, slots⟩ (Value.ref b :: argsL).toArray q B ∧
      Steps p.tables e below (T.setTop g) ((B.U.setTop { g with stack := rest }).pushFrame (.throwing q))) := by
  obtain ⟨mk, methM, hnamed, hmethM, hstM, habM⟩ := Cond.instanceMethod_spec hinst
  obtain ⟨methM', cM, hmethM', -, -, -, -, -, -, hsigM⟩ := Cond.code_spec hnamed hcode
  cases hmethM.symm.trans hmethM'
  obtain ⟨c2, r2, m2, q1, q2, q3, q4, kP, hkP, hkPi⟩ := Cond.selects_spec hsel
  cases hcls.symm.trans q1
  cases (State.methodFound?_of_named hnamed hy).symm.trans q2
  cases hnamed.symm.trans q3
  have hselP : selectMethod e.platform s.vm cellB.cls mk = .method mk := by rw [Launch.admits_selectMethod X.admits]; exact q4
  obtain ⟨vm₁, X₁, hstep₁⟩ := X.invokevirtual hexec hown hlink hnamed hmethM hstM hkP hkPi hy (a := b) (cell := cellB) hcell
    (fun z h => by rw [h] at hobj; cases hobj) hselP hmethM habM hkP hkPi (g := g) hg (argsL := argsL) (rest := rest) (hlen _ hsigM) hstack hdg
  rcases hK m meth c ⟨T.setVm vm₁, locs, cells, slots⟩ { g with stack := rest } (.invokevirtual index) mk (Value.ref b :: argsL).toArray X₁ hg hsize hdg hW (X₁.named hnamed) (hpre vm₁ X₁.warmed) with ⟨v, B, X', hpost, hsteps⟩ | ⟨q, B, X', hpost, hsteps⟩
  · exact Or.inl ⟨v, vm₁, B, X₁.warmed, X', hpost, fun target h => hstep₁ _ fun acts => by rw [doInvoke_state]; exact hsteps.trans h⟩
  · exact Or.inr ⟨q, vm₁, B, X₁.warmed, X', hpost, hstep₁ _ fun acts => by rw [doInvoke_state]; exact hsteps⟩
theorem vx_callS (X : Stand p l e R s m args below meth c T locs cells slots) (hexec : p.tables.exec = Jvm.exec) {own : String} {index : Nat} {y : MethodName} {bytes : ByteArray} {maxL : Nat} {ret : Option FieldType}
    (hown : s.vm.findClass own = some m.cls) (hlink : (Cond.methodLink own index y).before args s = true) (hstat : (Cond.static y).before args s = true) (hinit : (Cond.initialized y.cls).before args s = true)
    (hcode : (Cond.code y bytes maxL ret).before args s = true) (hy : y.cls ≠ "java/lang/invoke/MethodHandle" ∧ y.cls ≠ "java/lang/invoke/VarHandle")
    {W9 : Nat} {Pre : Pt → Array Value → Prop} {Post : Pt → Array Value → Option Value → Pt → Prop} {PostX : Pt → Array Value → Addr → Pt → Prop} (hK : vx_Back l R p e below s args y 3 W9 Pre Post PostX)
    {g : JFrame} (hg : g.method = m) (hsize : g.locals.size = c.maxLocals) {argsL rest : List Value} (hlen : ∀ sig, parseMethodDescriptor y.desc = some sig → argsL.length = sig.parameters.length)
    (hstack : g.stack = argsL.reverse ++ rest) (hW : 2 * g.monitorRoom + (rest.map fun v => v.category).sum ≤ W9) (hdg : decode c.code g.pc = .ok (.invokestatic index, 3))
    (hpre : ∀ vm₁, s.WarmedH vm₁ → Pre ⟨T.setVm vm₁, locs, cells, slots⟩ argsL.toArray) :
    (∃ (v : Option Value) (vm₁ : Vm) (B : Pt), s.WarmedH vm₁ ∧ Stand p l e R s m args below meth c B.U B.locs B.cells B.slots ∧ Post ⟨T.setVm vm₁, locs, cells, slots⟩ argsL.toArray v B ∧
      ∀ target, Steps p.tables e below (B.U.setTop { g with pc := g.pc + 3, stack := v.toList ++ rest }) target → Steps p.tables e below (T.setTop g) target) ∨
    (∃ (q : Addr) (vm₁ : Vm) (B : Pt), s.WarmedH vm₁ ∧ Stand p l e R s m args below meth c B.U B.locs B.cells B.slots ∧ PostX ⟨T.setVm vm₁, locs, cells, slots⟩ argsL.toArray q B ∧
      Steps p.tables e below (T.setTop g) ((B.U.setTop { g with stack := rest }).pushFrame (.throwing q))) := by
  obtain ⟨mk, hnamed⟩ := Cond.code_named hcode
  obtain ⟨methM, cM, hmethM, -, -, -, -, -, -, hsigM⟩ := Cond.code_spec hnamed hcode
  have hstatic : methM.isStatic = true := Cond.static_spec hnamed hmethM hstat
  obtain ⟨kP, hkP, -⟩ := className_of_methodNamed hnamed
  have hinitP : kP.init = .initialized := Cond.initialized_spec (findClass_of_methodNamed hnamed) hkP hinit
  obtain ⟨vm₁, X₁, hstep₁⟩ := X.invokestatic hexec hown hlink hnamed hmethM hstatic hkP hinitP hy (g := g) hg (argsL := argsL) (rest := rest) (hlen _ hsigM) hstack hdg
  rcases hK m meth c ⟨T.setVm vm₁, locs, cells, slots⟩ { g with stack := rest } (.invokestatic index) mk argsL.toArray X₁ hg hsize hdg hW (X₁.named hnamed) (hpre vm₁ X₁.warmed) with ⟨v, B, X', hpost, hsteps⟩ | ⟨q, B, X', hpost, hsteps⟩
  · exact Or.inl ⟨v, vm₁, B, X₁.warmed, X', hpost, fun target h => hstep₁ _ fun acts => by rw [doInvoke_state]; exact hsteps.trans h⟩
  · exact Or.inr ⟨q, vm₁, B, X₁.warmed, X', hpost, hstep₁ _ fun acts => by rw [doInvoke_state]; exact hsteps⟩
end Calls
theorem vx_cls {s : State} {T : State} {vm₁ : Vm} {E : String} {k : ClassId} (hW : s.WarmedH vm₁) (h : (T.setVm vm₁).vm.findClass E = some k) : s.vm.findClass E = some k := by
  have h1 : vm₁.findClass E = some k := h
  rw [hW.alike.findClass] at h1
  exact h1
/-- the method's frame g, with q thrown over it -/
def vx_W (p : Program) (l : Launch) (e : Env) (R : Room) (s : State) (m : MethodId) (args : Array Value) (below : List Frame) (meth : Method) (c : Code) (H : Heap) (locs : List Loc) (cells slots : Nat) (Q : State → Prop) (g : JFrame) (q : Addr) : Prop :=
  ∀ T : State, T.heap = H → Stand p l e R s m args below meth c T locs cells slots → ∃ t, Steps p.tables e below ((T.setTop g).pushFrame (.throwing q)) t ∧ Q t
def vx_Run (p : Program) (l : Launch) (e : Env) (R : Room) (s : State) (m : MethodId) (args : Array Value) (below : List Frame) (meth : Method) (c : Code) (H : Heap) (locs : List Loc) (cells slots mc ms : Nat) (g : JFrame) (rest : List Value) (Qa : State → Outcome → State → Prop) (XC : String → State → State → Prop) (free : Addr → Prop) : Prop :=
  ∀ T : State, T.heap = H → Stand p l e R s m args below meth c T locs cells slots →
    (∃ (v : Option Value) (st₀ t T' : State) (L : List Loc), st₀.heap = H ∧ Stand p l e R s m args below meth c T' (locs ++ L) (cells + mc) (slots + ms) ∧ (∀ q ∈ L, free q.base) ∧ T'.heap = t.heap ∧ T'.vm = t.vm ∧ Qa st₀ (.returned v) t ∧
      Goes p e below T g T' { g with pc := g.pc + 3, stack := v.toList ++ rest }) ∨
    (∃ (q : Addr) (st₀ t T' : State) (L : List Loc) (E : String) (ce : Cell), st₀.heap = H ∧ Stand p l e R s m args below meth c T' (locs ++ L) (cells + mc) (slots + ms) ∧ (∀ z ∈ L, free z.base) ∧ T'.heap = t.heap ∧ T'.vm = t.vm ∧ XC E st₀ t ∧ t.heap[q]? = some ce ∧ ce.vm = .none ∧ s.vm.findClass E = some ce.cls ∧
      Steps p.tables e below (T.setTop g) ((T'.setTop { g with stack := rest }).pushFrame (.throwing q)))
def vx_X {S : Type} (px : S → Prop) (B : String → S → State → Prop) (A : Nat → Prop) : String → State → State → Prop := fun E st t => ∃ u : S, px u ∧ B E u t ∧ va_F A st t
section Runs
variable {p : Program} {l : Launch} {e : Env} {R : Room} {s : State} {m : MethodId} {args : Array Value} {below : List Frame} {meth : Method} {c : Code} {H : Heap} {locs : List Loc} {cells slots : Nat}
variable {y : MethodName} {bytes cc : ByteArray} {maxL nL mc ms n index : Nat} {ret : Option FieldType} {ws : List Cond} {rm : Room} {Pc : Array Value → State → Prop} {Qc : Array Value → State → Outcome → State → Prop} {XC : String → State → State → Prop} {free : Addr → Prop} {Ts : List Cond} {own C : String} {b : Addr} {As rest : List Value} {g : JFrame}
theorem vx_callBack (cb : CallB R s args own index y bytes maxL ret ws rm mc ms n) (hM : vx_Met l y ws rm Pc Qc XC mc ms free) (hbl : FrameBlind Pc) : vx_Back l R p e below s args y 3 8 (PreOf R mc ms Pc) (PostOf Qc mc ms free) (vx_Post XC mc ms free) := by
  obtain ⟨hrc, hrs, hfr, hlo, hws, hcw, -, hini, -⟩ := cb
  exact vx_back (bytes := bytes) (maxL := maxL) (ret := ret) hM hbl hrc hrs hfr hlo hws hcw (fun a' U hW => word_at hW (Or.inl (by first | rfl | simp [Cond.onTables, Cond.keeps, Cond.steady])) hini)
theorem vx_runV (S : CallFix p m c cc nL s args Ts own) (hM : vx_Met l y ws rm Pc Qc XC mc ms free) (cw : CallW R s args own C index y bytes maxL ret ws rm mc ms n) (hp : PreV s H C b Pc As)
    (hg : g.method = m) (hn : As.length = n) (hsize : g.locals.size = nL) (hstack : g.stack = As.reverse ++ .ref b :: rest) (hW : 2 * g.monitorRoom + (rest.map fun v => v.category).sum ≤ 8) (hdg : decode cc g.pc = .ok (.invokevirtual index, 3)) (hf : cells + mc ≤ R.cells ∧ slots + ms ≤ R.slots) :
    vx_Run p l e R s m args below meth c H locs cells slots mc ms g rest (Qc (Value.ref b :: As).toArray) XC free := by
  have hK : vx_Back l R p e below s args y 3 8 (PreOf R mc ms Pc) (PostOf Qc mc ms free) (vx_Post XC mc ms free) := vx_callBack cw.1 hM hp.1
  obtain ⟨⟨-, -, -, -, -, -, hcode, -, hy, hlen, hl⟩, hin, hse⟩ := cw
  obtain ⟨hx, hb, hml, ho, -⟩ := S
  obtain ⟨-, ⟨cellB, hcB, hoB, hclB⟩, hPc⟩ := hp
  intro T hT X
  rcases vx_callV X hx (C := C) (bytes := bytes) (maxL := maxL) (ret := ret) ho hl hin hse hcode hy hK (by rw [hT]; exact hcB) hoB hclB hg (hsize.trans hml.symm) (argsL := As) (rest := rest) (fun sig h => hn.trans (hlen sig h)) hstack hW (by rw [hb]; exact hdg)
    (fun vm₁ hW₁ => ⟨hf.1, hf.2, hPc (T.setVm vm₁) hT hW₁⟩) with ⟨v, vm₁, ⟨U', l2, c2, s2⟩, hW₁, X', ⟨g', mk, t, L, e1, e2, hq, h1, hL, h2, h3⟩, st⟩ | ⟨q, vm₁, ⟨U', l2, c2, s2⟩, hW₁, X', ⟨g', mk, t, L, E, ce, e1, e2, hq, hce, hcv, hcl, h1, hL, h2, h3⟩, st⟩
  · dsimp only [Pt.U, Pt.locs, Pt.cells, Pt.slots] at X' e1 e2 h1 h2 h3 st
    subst h1; subst h2; subst h3
    exact Or.inl ⟨v, (T.setVm vm₁).calling g' mk (Value.ref b :: As).toArray, t, U', L, hT, X', hL, e1, e2, hq, st⟩
  · dsimp only [Pt.U, Pt.locs, Pt.cells, Pt.slots] at X' e1 e2 h1 h2 h3 st hcl
    subst h1; subst h2; subst h3
    exact Or.inr ⟨q, (T.setVm vm₁).calling g' mk (Value.ref b :: As).toArray, t, U', L, E, ce, hT, X', hL, e1, e2, hq, hce, hcv, vx_cls hW₁ hcl, st⟩
theorem vx_runS (S : CallFix p m c cc nL s args Ts own) (hM : vx_Met l y ws rm Pc Qc XC mc ms free) (cw : CallB R s args own index y bytes maxL ret ws rm mc ms n ∧ (Cond.static y).before args s = true) (hp : PreS s H Pc As)
    (hg : g.method = m) (hn : As.length = n) (hsize : g.locals.size = nL) (hstack : g.stack = As.reverse ++ rest) (hW : 2 * g.monitorRoom + (rest.map fun v => v.category).sum ≤ 8) (hdg : decode cc g.pc = .ok (.invokestatic index, 3)) (hf : cells + mc ≤ R.cells ∧ slots + ms ≤ R.slots) :
    vx_Run p l e R s m args below meth c H locs cells slots mc ms g rest (Qc As.toArray) XC free := by
  have hK : vx_Back l R p e below s args y 3 8 (PreOf R mc ms Pc) (PostOf Qc mc ms free) (vx_Post XC mc ms free) := vx_callBack cw.1 hM hp.1
  obtain ⟨⟨-, -, -, -, -, -, hcode, hini, hy, hlen, hl⟩, hstt⟩ := cw
  obtain ⟨hx, hb, hml, ho, -⟩ := S
  intro T hT X
  rcases vx_callS X hx (bytes := bytes) (maxL := maxL) (ret := ret) ho hl hstt hini hcode hy hK hg (hsize.trans hml.symm) (argsL := As) (rest := rest) (fun sig h => hn.trans (hlen sig h)) hstack hW (by rw [hb]; exact hdg)
    (fun vm₁ hW₁ => ⟨hf.1, hf.2, hp.2 (T.setVm vm₁) hT hW₁⟩) with ⟨v, vm₁, ⟨U', l2, c2, s2⟩, hW₁, X', ⟨g', mk, t, L, e1, e2, hq, h1, hL, h2, h3⟩, st⟩ | ⟨q, vm₁, ⟨U', l2, c2, s2⟩, hW₁, X', ⟨g', mk, t, L, E, ce, e1, e2, hq, hce, hcv, hcl, h1, hL, h2, h3⟩, st⟩
  · dsimp only [Pt.U, Pt.locs, Pt.cells, Pt.slots] at X' e1 e2 h1 h2 h3 st
    subst h1; subst h2; subst h3
    exact Or.inl ⟨v, (T.setVm vm₁).calling g' mk As.toArray, t, U', L, hT, X', hL, e1, e2, hq, st⟩
  · dsimp only [Pt.U, Pt.locs, Pt.cells, Pt.slots] at X' e1 e2 h1 h2 h3 st hcl
    subst h1; subst h2; subst h3
    exact Or.inr ⟨q, (T.setVm vm₁).calling g' mk As.toArray, t, U', L, E, ce, hT, X', hL, e1, e2, hq, hce, hcv, vx_cls hW₁ hcl, st⟩
end Runs
section Rows
variable {p : Program} {l : Launch} {e : Env} {R : Room} {s : State} {m : MethodId} {args : Array Value} {below : List Frame} {meth : Method} {c : Code} {H : Heap} {locs : List Loc} {cells slots : Nat} {Q : State → Prop}
variable {mc ms : Nat} {free : Addr → Prop} {A0 A1 : Nat → Prop} {H0 : Heap} {a : Array Value} {pc : Nat} {ls : Array Slot} {st0 rest : List Value}
theorem vx_keep {st₀ t T' : State} {L : List Loc} (h0 : st₀.heap = H) (e1 : T'.heap = t.heap) (hS : va_S A0 H0 H locs) (hA : ∀ q, q < H.size → A1 q → A0 q) (hf : ∀ q, free q → A0 q) (hL : ∀ q ∈ L, free q.base) (hF : va_F A1 st₀ t) :
    H.size ≤ T'.heap.size ∧ (∀ q : Nat, q < H.size → ¬ A1 q → T'.heap[q]? = H[q]?) ∧ va_S A0 H0 T'.heap (locs ++ L) := by
  obtain ⟨hz, hk⟩ := hF
  rw [h0] at hz hk
  exact ⟨by rw [e1]; exact hz, fun q h1 h2 => by rw [e1]; exact hk q h1 h2,
    ⟨Nat.le_trans hS.1 (by rw [e1]; exact hz), fun q h1 h2 => by rw [e1, hk q (Nat.lt_of_lt_of_le h1 hS.1) (fun z => h2 (hA q (Nat.lt_of_lt_of_le h1 hS.1) z))]; exact hS.2.1 q h1 h2, fun q hq => by
      rcases List.mem_append.mp hq with h | h
      · exact hS.2.2 q h
      · exact hf _ (hL q h)⟩⟩
theorem vx_calli {S SX : Type} {post : Int32 → S → Prop} {px : SX → Prop} {B : S → State → Prop} {BX : String → SX → State → Prop} {AX : Nat → Prop} (hr : vx_Run p l e R s m args below meth c H locs cells slots mc ms (F0 m pc ls st0) rest (va_Qi post B A1 a) (vx_X px BX AX) free) (hS : va_S A0 H0 H locs) (hA : ∀ q, q < H.size → A1 q → A0 q) (hf : ∀ q, free q → A0 q) (hAX : ∀ q, q < H.size → AX q → A0 q)
    (kx : ∀ (E : String) (ce : Cell) (q9 : Addr) (u : SX) (t : State) (H1 : Heap) (locs1 : List Loc), t.heap = H1 → s.vm.Alike t.vm → px u → BX E u t → H.size ≤ H1.size → (∀ q : Nat, q < H.size → ¬ AX q → H1[q]? = H[q]?) → va_S A0 H0 H1 locs1 → H1[q9]? = some ce → ce.vm = .none → s.vm.findClass E = some ce.cls → vx_W p l e R s m args below meth c H1 locs1 (cells + mc) (slots + ms) Q (F0 m pc ls rest) q9)
    (kk : ∀ (r : Int32) (u : S) (t : State) (H1 : Heap) (locs1 : List Loc), t.heap = H1 → s.vm.Alike t.vm → post r u → B u t → H.size ≤ H1.size → (∀ q : Nat, q < H.size → ¬ A1 q → H1[q]? = H[q]?) → va_S A0 H0 H1 locs1 → W p l e R s m args below meth c H1 locs1 (cells + mc) (slots + ms) Q (F0 m (pc + 3) ls (.int r :: rest))) : W p l e R s m args below meth c H locs cells slots Q (F0 m pc ls st0) := by
  intro T hT X
  rcases hr T hT X with ⟨v, st₀, t, T', L, h0, X', hL, e1, e2, ⟨⟨r, u, hv, hp, hb⟩, hF⟩, st⟩ | ⟨q, st₀, t, T', L, E, ce, h0, X', hL, e1, e2, ⟨u, hp, hb, hF⟩, hce, hcv, hcl, st⟩
  · cases hv
    obtain ⟨k1, k2, k3⟩ := vx_keep h0 e1 hS hA hf hL hF
    obtain ⟨t2, a1, b1⟩ := kk r u t T'.heap (locs ++ L) e1.symm (by rw [← e2]; exact X'.warmed.alike) hp hb k1 k2 k3 T' rfl X'
    exact ⟨t2, st t2 a1, b1⟩
  · obtain ⟨k1, k2, k3⟩ := vx_keep h0 e1 hS hAX hf hL hF
    obtain ⟨t2, a1, b1⟩ := kx E ce q u t T'.heap (locs ++ L) e1.symm (by rw [← e2]; exact X'.warmed.alike) hp hb k1 k2 k3 (by rw [e1]; exact hce) hcv hcl T' rfl X'
    exact ⟨t2, st.trans a1, b1⟩
theorem vx_calll {S SX : Type} {post : Int64 → S → Prop} {px : SX → Prop} {B : S → State → Prop} {BX : String → SX → State → Prop} {AX : Nat → Prop} (hr : vx_Run p l e R s m args below meth c H locs cells slots mc ms (F0 m pc ls st0) rest (va_Ql post B A1 a) (vx_X px BX AX) free) (hS : va_S A0 H0 H locs) (hA : ∀ q, q < H.size → A1 q → A0 q) (hf : ∀ q, free q → A0 q) (hAX : ∀ q, q < H.size → AX q → A0 q)
    (kx : ∀ (E : String) (ce : Cell) (q9 : Addr) (u : SX) (t : State) (H1 : Heap) (locs1 : List Loc), t.heap = H1 → s.vm.Alike t.vm → px u → BX E u t → H.size ≤ H1.size → (∀ q : Nat, q < H.size → ¬ AX q → H1[q]? = H[q]?) → va_S A0 H0 H1 locs1 → H1[q9]? = some ce → ce.vm = .none → s.vm.findClass E = some ce.cls → vx_W p l e R s m args below meth c H1 locs1 (cells + mc) (slots + ms) Q (F0 m pc ls rest) q9)
    (kk : ∀ (r : Int64) (u : S) (t : State) (H1 : Heap) (locs1 : List Loc), t.heap = H1 → s.vm.Alike t.vm → post r u → B u t → H.size ≤ H1.size → (∀ q : Nat, q < H.size → ¬ A1 q → H1[q]? = H[q]?) → va_S A0 H0 H1 locs1 → W p l e R s m args below meth c H1 locs1 (cells + mc) (slots + ms) Q (F0 m (pc + 3) ls (.long r :: rest))) : W p l e R s m args below meth c H locs cells slots Q (F0 m pc ls st0) := by
  intro T hT X
  rcases hr T hT X with ⟨v, st₀, t, T', L, h0, X', hL, e1, e2, ⟨⟨r, u, hv, hp, hb⟩, hF⟩, st⟩ | ⟨q, st₀, t, T', L, E, ce, h0, X', hL, e1, e2, ⟨u, hp, hb, hF⟩, hce, hcv, hcl, st⟩
  · cases hv
    obtain ⟨k1, k2, k3⟩ := vx_keep h0 e1 hS hA hf hL hF
    obtain ⟨t2, a1, b1⟩ := kk r u t T'.heap (locs ++ L) e1.symm (by rw [← e2]; exact X'.warmed.alike) hp hb k1 k2 k3 T' rfl X'
    exact ⟨t2, st t2 a1, b1⟩
  · obtain ⟨k1, k2, k3⟩ := vx_keep h0 e1 hS hAX hf hL hF
    obtain ⟨t2, a1, b1⟩ := kx E ce q u t T'.heap (locs ++ L) e1.symm (by rw [← e2]; exact X'.warmed.alike) hp hb k1 k2 k3 (by rw [e1]; exact hce) hcv hcl T' rfl X'
    exact ⟨t2, st.trans a1, b1⟩
theorem vx_callf {S SX : Type} {post : UInt32 → S → Prop} {px : SX → Prop} {B : S → State → Prop} {BX : String → SX → State → Prop} {AX : Nat → Prop} (hr : vx_Run p l e R s m args below meth c H locs cells slots mc ms (F0 m pc ls st0) rest (va_Qf post B A1 a) (vx_X px BX AX) free) (hS : va_S A0 H0 H locs) (hA : ∀ q, q < H.size → A1 q → A0 q) (hf : ∀ q, free q → A0 q) (hAX : ∀ q, q < H.size → AX q → A0 q)
    (kx : ∀ (E : String) (ce : Cell) (q9 : Addr) (u : SX) (t : State) (H1 : Heap) (locs1 : List Loc), t.heap = H1 → s.vm.Alike t.vm → px u → BX E u t → H.size ≤ H1.size → (∀ q : Nat, q < H.size → ¬ AX q → H1[q]? = H[q]?) → va_S A0 H0 H1 locs1 → H1[q9]? = some ce → ce.vm = .none → s.vm.findClass E = some ce.cls → vx_W p l e R s m args below meth c H1 locs1 (cells + mc) (slots + ms) Q (F0 m pc ls rest) q9)
    (kk : ∀ (r : UInt32) (u : S) (t : State) (H1 : Heap) (locs1 : List Loc), t.heap = H1 → s.vm.Alike t.vm → post r u → B u t → H.size ≤ H1.size → (∀ q : Nat, q < H.size → ¬ A1 q → H1[q]? = H[q]?) → va_S A0 H0 H1 locs1 → W p l e R s m args below meth c H1 locs1 (cells + mc) (slots + ms) Q (F0 m (pc + 3) ls (.float r :: rest))) : W p l e R s m args below meth c H locs cells slots Q (F0 m pc ls st0) := by
  intro T hT X
  rcases hr T hT X with ⟨v, st₀, t, T', L, h0, X', hL, e1, e2, ⟨⟨r, u, hv, hp, hb⟩, hF⟩, st⟩ | ⟨q, st₀, t, T', L, E, ce, h0, X', hL, e1, e2, ⟨u, hp, hb, hF⟩, hce, hcv, hcl, st⟩
  · cases hv
    obtain ⟨k1, k2, k3⟩ := vx_keep h0 e1 hS hA hf hL hF
    obtain ⟨t2, a1, b1⟩ := kk r u t T'.heap (locs ++ L) e1.symm (by rw [← e2]; exact X'.warmed.alike) hp hb k1 k2 k3 T' rfl X'
    exact ⟨t2, st t2 a1, b1⟩
  · obtain ⟨k1, k2, k3⟩ := vx_keep h0 e1 hS hAX hf hL hF
    obtain ⟨t2, a1, b1⟩ := kx E ce q u t T'.heap (locs ++ L) e1.symm (by rw [← e2]; exact X'.warmed.alike) hp hb k1 k2 k3 (by rw [e1]; exact hce) hcv hcl T' rfl X'
    exact ⟨t2, st.trans a1, b1⟩
theorem vx_calld {S SX : Type} {post : UInt64 → S → Prop} {px : SX → Prop} {B : S → State → Prop} {BX : String → SX → State → Prop} {AX : Nat → Prop} (hr : vx_Run p l e R s m args below meth c H locs cells slots mc ms (F0 m pc ls st0) rest (va_Qd post B A1 a) (vx_X px BX AX) free) (hS : va_S A0 H0 H locs) (hA : ∀ q, q < H.size → A1 q → A0 q) (hf : ∀ q, free q → A0 q) (hAX : ∀ q, q < H.size → AX q → A0 q)
    (kx : ∀ (E : String) (ce : Cell) (q9 : Addr) (u : SX) (t : State) (H1 : Heap) (locs1 : List Loc), t.heap = H1 → s.vm.Alike t.vm → px u → BX E u t → H.size ≤ H1.size → (∀ q : Nat, q < H.size → ¬ AX q → H1[q]? = H[q]?) → va_S A0 H0 H1 locs1 → H1[q9]? = some ce → ce.vm = .none → s.vm.findClass E = some ce.cls → vx_W p l e R s m args below meth c H1 locs1 (cells + mc) (slots + ms) Q (F0 m pc ls rest) q9)
    (kk : ∀ (r : UInt64) (u : S) (t : State) (H1 : Heap) (locs1 : List Loc), t.heap = H1 → s.vm.Alike t.vm → post r u → B u t → H.size ≤ H1.size → (∀ q : Nat, q < H.size → ¬ A1 q → H1[q]? = H[q]?) → va_S A0 H0 H1 locs1 → W p l e R s m args below meth c H1 locs1 (cells + mc) (slots + ms) Q (F0 m (pc + 3) ls (.double r :: rest))) : W p l e R s m args below meth c H locs cells slots Q (F0 m pc ls st0) := by
  intro T hT X
  rcases hr T hT X with ⟨v, st₀, t, T', L, h0, X', hL, e1, e2, ⟨⟨r, u, hv, hp, hb⟩, hF⟩, st⟩ | ⟨q, st₀, t, T', L, E, ce, h0, X', hL, e1, e2, ⟨u, hp, hb, hF⟩, hce, hcv, hcl, st⟩
  · cases hv
    obtain ⟨k1, k2, k3⟩ := vx_keep h0 e1 hS hA hf hL hF
    obtain ⟨t2, a1, b1⟩ := kk r u t T'.heap (locs ++ L) e1.symm (by rw [← e2]; exact X'.warmed.alike) hp hb k1 k2 k3 T' rfl X'
    exact ⟨t2, st t2 a1, b1⟩
  · obtain ⟨k1, k2, k3⟩ := vx_keep h0 e1 hS hAX hf hL hF
    obtain ⟨t2, a1, b1⟩ := kx E ce q u t T'.heap (locs ++ L) e1.symm (by rw [← e2]; exact X'.warmed.alike) hp hb k1 k2 k3 (by rw [e1]; exact hce) hcv hcl T' rfl X'
    exact ⟨t2, st.trans a1, b1⟩
theorem vx_callv {S SX : Type} {post : S → Prop} {px : SX → Prop} {B : S → State → Prop} {BX : String → SX → State → Prop} {AX : Nat → Prop} (hr : vx_Run p l e R s m args below meth c H locs cells slots mc ms (F0 m pc ls st0) rest (va_Qv post B A1 a) (vx_X px BX AX) free) (hS : va_S A0 H0 H locs) (hA : ∀ q, q < H.size → A1 q → A0 q) (hf : ∀ q, free q → A0 q) (hAX : ∀ q, q < H.size → AX q → A0 q)
    (kx : ∀ (E : String) (ce : Cell) (q9 : Addr) (u : SX) (t : State) (H1 : Heap) (locs1 : List Loc), t.heap = H1 → s.vm.Alike t.vm → px u → BX E u t → H.size ≤ H1.size → (∀ q : Nat, q < H.size → ¬ AX q → H1[q]? = H[q]?) → va_S A0 H0 H1 locs1 → H1[q9]? = some ce → ce.vm = .none → s.vm.findClass E = some ce.cls → vx_W p l e R s m args below meth c H1 locs1 (cells + mc) (slots + ms) Q (F0 m pc ls rest) q9)
    (kk : ∀ (u : S) (t : State) (H1 : Heap) (locs1 : List Loc), t.heap = H1 → s.vm.Alike t.vm → post u → B u t → H.size ≤ H1.size → (∀ q : Nat, q < H.size → ¬ A1 q → H1[q]? = H[q]?) → va_S A0 H0 H1 locs1 → W p l e R s m args below meth c H1 locs1 (cells + mc) (slots + ms) Q (F0 m (pc + 3) ls (rest))) : W p l e R s m args below meth c H locs cells slots Q (F0 m pc ls st0) := by
  intro T hT X
  rcases hr T hT X with ⟨v, st₀, t, T', L, h0, X', hL, e1, e2, ⟨⟨u, hv, hp, hb⟩, hF⟩, st⟩ | ⟨q, st₀, t, T', L, E, ce, h0, X', hL, e1, e2, ⟨u, hp, hb, hF⟩, hce, hcv, hcl, st⟩
  · cases hv
    obtain ⟨k1, k2, k3⟩ := vx_keep h0 e1 hS hA hf hL hF
    obtain ⟨t2, a1, b1⟩ := kk u t T'.heap (locs ++ L) e1.symm (by rw [← e2]; exact X'.warmed.alike) hp hb k1 k2 k3 T' rfl X'
    exact ⟨t2, st t2 a1, b1⟩
  · obtain ⟨k1, k2, k3⟩ := vx_keep h0 e1 hS hAX hf hL hF
    obtain ⟨t2, a1, b1⟩ := kx E ce q u t T'.heap (locs ++ L) e1.symm (by rw [← e2]; exact X'.warmed.alike) hp hb k1 k2 k3 (by rw [e1]; exact hce) hcv hcl T' rfl X'
    exact ⟨t2, st.trans a1, b1⟩
/-- caught by the row x of this method's table; the rows ahead don't take it -/
theorem vx_catch {own name : String} {E : String} {ce : Cell} {q : Addr} (hown : s.vm.findClass own = some m.cls) (pre : List ExceptionTableEntry) (x : ExceptionTableEntry) (suf : List ExceptionTableEntry) (hsplit : c.exceptionTable.toList = pre ++ x :: suf)
    (hpass : ∀ z ∈ pre, covers z pc = false ∨ (z.catchType ≠ 0 ∧ ∃ nm : String, (Cond.classLink own z.catchType nm).before args s = true ∧ va_Nc E nm s)) (hx : covers x pc = true) (h0 : x.catchType ≠ 0)
    (hlink : (Cond.classLink own x.catchType name).before args s = true) (hcast : (Cond.castable E name).before args s = true) (hcell : H[q]? = some ce) (hv : ce.vm = .none) (hcl : s.vm.findClass E = some ce.cls)
    (kk : W p l e R s m args below meth c H locs cells slots Q (F0 m x.handlerPc ls [.ref q])) : vx_W p l e R s m args below meth c H locs cells slots Q (F0 m pc ls rest) q := by
  intro T hT X
  have hpl : e.platform.magicAccessors = ({} : Platform).magicAccessors := by rw [X.admits.platform]
  obtain ⟨c3, c4, hc3, hc4, hasg⟩ := Cond.castable_spec hcast
  cases Option.some.inj (hc3.symm.trans hcl)
  obtain ⟨c5, hc5, hcl5⟩ := Cond.classLink_spec hown hlink e.platform hpl
  cases Option.some.inj (hc4.symm.trans hc5)
  obtain ⟨vm', X', st⟩ := X.thenCaughtThrough q (g := F0 m pc ls rest) rfl (Steps.refl _) (by rw [hT]; exact hcell) (by rw [hv]; rfl) (by obtain ⟨k9, h9, -⟩ := Vm.findClass_spec hcl; exact ⟨k9, h9⟩) pre x suf hsplit
    (fun z hz => by
      rcases hpass z hz with h | ⟨hz0, nm, hl1, hn1⟩
      · exact Or.inl h
      · obtain ⟨c6, hc6, hcl6⟩ := Cond.classLink_spec hown hl1 e.platform hpl
        obtain ⟨a8, b8, h1, h2, h3⟩ := hn1
        cases Option.some.inj (h1.symm.trans hcl)
        cases Option.some.inj (h2.symm.trans hc6)
        exact Or.inr ⟨hz0, _, hcl6, h3⟩) hx (Or.inr ⟨h0, c4, hcl5, hasg⟩)
  obtain ⟨t, a1, b1⟩ := kk (T.setVm vm') hT X'
  exact ⟨t, st.trans a1, b1⟩
end Rows
section Ends
variable {p : Program} {l : Launch} {e : Env} {R : Room} {s : State} {m : MethodId} {args : Array Value} {below : List Frame} {meth : Method} {c : Code} {H : Heap} {locs : List Loc} {cells slots : Nat} {Q : State → Prop}
variable {mc ms : Nat} {free : Addr → Prop} {A0 A1 : Nat → Prop} {H0 : Heap} {a : Array Value} {ls : Array Slot} {st0 rest : List Value}
variable {Qc : Array Value → State → Outcome → State → Prop} {XC : String → State → State → Prop}
/-- what a body that may throw owes at its end -/
def vx_MQ (below : List Frame) (Qc : Array Value → State → Outcome → State → Prop) (XC : String → State → State → Prop) (a : Array Value) (s : State) (mc ms : Nat) (free : Addr → Prop) : State → Prop := fun t =>
  ∃ o, t.status = .running ∧ Ended t below o ∧ vx_Q Qc XC mc ms free a s o t
theorem vx_ret {g : JFrame} {mc ms : Nat} (k : W p l e R s m args below meth c H locs cells slots (MQ below Qc args s mc ms free) g) : W p l e R s m args below meth c H locs cells slots (vx_MQ below Qc XC args s mc ms free) g := by
  intro T hT X
  obtain ⟨t, a1, o, b1, b2, b3, b4⟩ := k T hT X
  exact ⟨t, a1, o, b1, b2, Or.inl ⟨b3, b4⟩⟩
/-- not caught here: it goes on to the caller -/
theorem vx_widen {g : JFrame} {q : Addr} {k n : Nat} (h1 : cells ≤ k) (h2 : slots ≤ n) (kk : vx_W p l e R s m args below meth c H locs k n Q g q) : vx_W p l e R s m args below meth c H locs cells slots Q g q := fun T hT X => kk T hT (stand_widen X h1 h2)
theorem vx_out {pc : Nat} {E : String} {ce : Cell} {q : Addr} {mc ms : Nat} (hout : ∀ x ∈ c.exceptionTable.toList, covers x pc = false) (hlocks : meth.locks = false) (hcell : H[q]? = some ce) (hv : ce.vm = .none) (hcl : s.vm.findClass E = some ce.cls)
    (hx : ∀ t : State, t.heap = H → s.vm.Alike t.vm → XC E s t) (hf : ∀ z ∈ locs, free z.base) (hc : cells ≤ mc) (hs : slots ≤ ms) :
    vx_W p l e R s m args below meth c H locs cells slots (vx_MQ below Qc XC args s mc ms free) (F0 m pc ls rest) q := by
  intro T hT X
  obtain ⟨st1, hrun, hend, hW, hsm⟩ := X.leaveThrown q (g := F0 m pc ls rest) rfl rfl rfl hout hlocks
  have hcell9 : (T.setFrames (.throwing q :: below)).heap[q]? = some ce := by
    show T.heap[q]? = some ce
    rw [hT]; exact hcell
  exact ⟨_, st1, .threw q, hrun, hend, Or.inr ⟨q, rfl, E, ce, locs, hx _ hT hW.alike, hcell9, hv, hcl, hW, hsm.mono hc hs, hf⟩⟩
theorem vx_frame {U : State} {k n : Nat} (h : s.sameButNew ({ U with vm := s.vm } : State) locs k n) : s.heap.size ≤ U.heap.size ∧ ∀ q : Nat, q < s.heap.size → (∀ z ∈ locs, z.base ≠ q) → U.heap[q]? = s.heap[q]? := by
  obtain ⟨-, h2, -, -, -, h6⟩ := h
  refine ⟨h2, fun q hq hz => ?_⟩
  obtain ⟨c9, e1, e2, e3, e4⟩ := h6 q _ (Array.getElem?_eq_getElem hq)
  have hs : c9.slots = (s.heap[q]).slots := Array.ext_getElem? fun i => e4 i fun hm => hz _ hm rfl
  have h9 : c9 = s.heap[q] := by
    rw [hs] at e2
    exact e2
  have e5 : U.heap[q]? = some c9 := e1
  rw [e5, h9, Array.getElem?_eq_getElem hq]
/-- the words of a throw but the four that speak of the heap -/
def vx_no (w : Cond) : Bool := decide (w ≠ .isRef (.static Bundle.tN "UNASSIGNED_STACK" Bundle.steD)) && decide (w ≠ .isRef (.static Bundle.tN "SUPPRESSED_SENTINEL" Bundle.listD)) && decide (w ≠ .laysStatic Bundle.tN "UNASSIGNED_STACK" Bundle.steD) && decide (w ≠ .laysStatic Bundle.tN "SUPPRESSED_SENTINEL" Bundle.listD)
def vx_at0 (own : String) (ic : Nat) (X : String) (names : List String) : List Cond := (Bundle.ownAtoms0 own ic X names).filter vx_no
def vx_atS (own : String) (ic : Nat) (X : String) (names : List String) : List Cond := (Bundle.ownAtoms own ic X names).filter vx_no
/-- a word that the tables alone decide, or a good one -/
def vx_ot (w : Cond) : Bool := w.onTables || goodWord w
theorem vx_ot_at {args a' : Array Value} {s U : State} {w : Cond} (hW : s.WarmedH U.vm) (hvm : s.vm = U.vm) (hg : vx_ot w = true) (h : w.before args s = true) : w.before a' U = true := by
  simp only [vx_ot, Bool.or_eq_true] at hg
  rcases hg with hg | hg
  · exact va_tabs hg hvm h
  · exact word_at hW (good_of_word hg) h
/-- a list's words: the good ones out of the method's own list, the others by premises of their own -/
theorem vx_hat {args : Array Value} {s : State} {L B : List Cond} (h1 : ∀ w ∈ L.filter goodWord, w.before args s = true) (h2 : ∀ w ∈ L.filter (fun w => !goodWord w), w ∈ B) (h3 : ∀ w ∈ B, w.before args s = true) : ∀ w ∈ L, w.before args s = true := by
  intro w hw
  by_cases g : goodWord w = true
  · exact h1 w (List.mem_filter.mpr ⟨hw, g⟩)
  · refine h3 w (h2 w (List.mem_filter.mpr ⟨hw, ?_⟩))
    show (!goodWord w) = true
    cases hgw : goodWord w
    · rfl
    · exact absurd hgw g
theorem vx_c {args : Array Value} {s : State} {w : Cond} {B : List Cond} (h : w.before args s = true) (t : ∀ w ∈ B, w.before args s = true) : ∀ w' ∈ w :: B, w'.before args s = true := fun w' h' => (List.mem_cons.mp h').elim (fun e => by rw [e]; exact h) (t w')
theorem vx_n {args : Array Value} {s : State} : ∀ w ∈ ([] : List Cond), w.before args s = true := fun _ h => nomatch h
theorem vx_own {args : Array Value} {s : State} {L : List Cond} (h1 : ∀ w ∈ L.filter vx_no, w.before args s = true)
    (hU : (Cond.isRef (.static Bundle.tN "UNASSIGNED_STACK" Bundle.steD)).before args s = true) (hN : (Cond.isRef (.static Bundle.tN "SUPPRESSED_SENTINEL" Bundle.listD)).before args s = true)
    (lU : (Cond.laysStatic Bundle.tN "UNASSIGNED_STACK" Bundle.steD).before args s = true) (lN : (Cond.laysStatic Bundle.tN "SUPPRESSED_SENTINEL" Bundle.listD).before args s = true) : ∀ w ∈ L, w.before args s = true := by
  intro w hw
  by_cases e1 : w = .isRef (.static Bundle.tN "UNASSIGNED_STACK" Bundle.steD)
  · rw [e1]; exact hU
  · by_cases e2 : w = .isRef (.static Bundle.tN "SUPPRESSED_SENTINEL" Bundle.listD)
    · rw [e2]; exact hN
    · by_cases e3 : w = .laysStatic Bundle.tN "UNASSIGNED_STACK" Bundle.steD
      · rw [e3]; exact lU
      · by_cases e4 : w = .laysStatic Bundle.tN "SUPPRESSED_SENTINEL" Bundle.listD
        · rw [e4]; exact lN
        · exact h1 w (List.mem_filter.mpr ⟨hw, by unfold vx_no; rw [decide_eq_true e1, decide_eq_true e2, decide_eq_true e3, decide_eq_true e4]; rfl⟩)
/-- where a static field lies, its class's statics cell in H -/
def vx_L (C n d : String) (A : Nat → Prop) (U : State) (H : Heap) : Prop := ∃ (c : ClassId) (k : Class) (i : Nat) (f : Field) (a : Nat) (cell : Cell), U.vm.findClass C = some c ∧ U.fieldFound? C n d = some (c, k, i, f) ∧ f.isStatic = true ∧ k.statics = some a ∧ H[a]? = some cell ∧ cell.vm.isStatics = true ∧ cell.cls = c ∧ f.slot < cell.slots.size ∧ k.staticTypes[f.slot]? = some f.type ∧ ¬ A a
theorem vx_L.moved {C n d : String} {A : Nat → Prop} {u U : State} {H : Heap} (hvm : u.vm.Alike U.vm) (h : vx_L C n d A u H) : vx_L C n d A U H := by
  obtain ⟨c, k, i, f, a, cell, h1, h2, h3, h4, h5, h6, h7, h8, h9, h10⟩ := h
  obtain ⟨k', hi', he⟩ := State.fieldFound?_setVm hvm h2
  exact ⟨c, k', i, f, a, cell, by rw [hvm.findClass]; exact h1, hi', h3, by rw [he]; exact h4, h5, h6, h7, h8, by rw [he]; exact h9, h10⟩
theorem vx_L.kept {C n d : String} {A : Nat → Prop} {U : State} {H H1 : Heap} (h : vx_L C n d A U H) (hq : ∀ a : Nat, a < H.size → ¬ A a → H1[a]? = H[a]?) : vx_L C n d A U H1 := by
  obtain ⟨c, k, i, f, a, cell, h1, h2, h3, h4, h5, h6, h7, h8, h9, h10⟩ := h
  exact ⟨c, k, i, f, a, cell, h1, h2, h3, h4, by rw [hq a (Array.getElem?_eq_some_iff.mp h5).1 h10]; exact h5, h6, h7, h8, h9, h10⟩
theorem vx_L.narrow {C n d : String} {A B : Nat → Prop} {U : State} {H : Heap} (h : vx_L C n d A U H) (hAB : ∀ q, B q → A q) : vx_L C n d B U H := by
  obtain ⟨c, k, i, f, a, cell, h1, h2, h3, h4, h5, h6, h7, h8, h9, h10⟩ := h
  exact ⟨c, k, i, f, a, cell, h1, h2, h3, h4, h5, h6, h7, h8, h9, fun z => h10 (hAB _ z)⟩
theorem vx_L.word {C n d : String} {A : Nat → Prop} {s : State} {args : Array Value} (h : vx_L C n d A s s.heap) : (Cond.laysStatic C n d).before args s = true := by
  obtain ⟨c, k, i, f, a, cell, h1, h2, h3, h4, h5, h6, h7, h8, h9, -⟩ := h
  show (Cond.laysStatic C n d).holds args s none s [] = true
  exact Cond.laysStatic_of h1 h2 h3 h4 h5 h6 h7 h8 h9
/-- .. and what it holds: null or some reference -/
def vx_Zq (C n d : String) (A : Nat → Prop) (U : State) (H : Heap) : Prop := va_Zq C n d A U H ∧ vx_L C n d A U H
theorem vx_Zq.moved {C n d : String} {A : Nat → Prop} {u U : State} {H : Heap} (hvm : u.vm.Alike U.vm) (h : vx_Zq C n d A u H) : vx_Zq C n d A U H := ⟨va_Zq.moved hvm h.1, vx_L.moved hvm h.2⟩
theorem vx_Zq.kept {C n d : String} {A : Nat → Prop} {U : State} {H H1 : Heap} (h : vx_Zq C n d A U H) (hq : ∀ a : Nat, a < H.size → ¬ A a → H1[a]? = H[a]?) : vx_Zq C n d A U H1 := ⟨va_Zq.kept h.1 hq, vx_L.kept h.2 hq⟩
theorem vx_Zq.narrow {C n d : String} {A B : Nat → Prop} {U : State} {H : Heap} (h : vx_Zq C n d A U H) (hAB : ∀ q, B q → A q) : vx_Zq C n d B U H := ⟨va_Zq.narrow h.1 hAB, vx_L.narrow h.2 hAB⟩
theorem vx_Zqof {args : Array Value} {s : State} {C n d : String} {A : Nat → Prop} (hl : (Cond.laysStatic C n d).before args s = true) (hini : (Cond.initialized C).before args s = true) (h : (Cond.isRef (.static C n d)).before args s = true) (hA : ∀ a : Nat, a < s.heap.size → ¬ A a) : vx_Zq C n d A s s.heap := by
  refine ⟨va_Zqof hl hini h hA, ?_⟩
  obtain ⟨c, k, i, f, a, cell, h1, h2, h3, h4, h5, h6, h7, h8, h9⟩ := Cond.laysStatic_spec hl
  exact ⟨c, k, i, f, a, cell, h1, h2, h3, h4, h5, h6, h7, h8, h9, hA a (Array.getElem?_eq_some_iff.mp h5).1⟩
theorem vx_isRef {C n d : String} {v : Value} {A : Nat → Prop} {s : State} {args : Array Value} (h : va_Z C n d v A s s.heap) (hv : v.isRef = true) : (Cond.isRef (.static C n d)).before args s = true := by
  obtain ⟨cf, kf, fi, f, a, cell, h1, h2, h3, h4, h5, h6, h7, -⟩ := h
  have he : (Term.static C n d).eval args s none [] s = some v := by
    simp [Term.eval, State.fieldNamed?, h1, h2, h4, h5, h6, h7]
  simp only [Cond.before, Cond.holds, Cond.value, he]
  cases v <;> simp_all [Value.isRef]
theorem vx_isRefq {C n d : String} {A : Nat → Prop} {s : State} {args : Array Value} (h : va_Zq C n d A s s.heap) : (Cond.isRef (.static C n d)).before args s = true := by
  rcases h with h | ⟨t, h⟩
  · exact vx_isRef h rfl
  · exact vx_isRef h rfl
/-- the same frame, seen from here: as if the method were called anew in this heap -/
theorem vx_rebase {T : State} (X : Stand p l e R s m args below meth c T locs cells slots) {R' : Room} (hf : R'.frames ≤ R.frames) (hl : R'.locals ≤ R.locals) (hc : cells + R'.cells ≤ R.cells) (hs : slots + R'.slots ≤ R.slots) :
    Stand p l e R' ((T.setVm s.vm).setFrames (.invoking m args :: below)) m args below meth c T [] 0 0 := by
  have htop : (T.setVm s.vm).topJava?.isSome := X.here.top
  have hF : ((T.setVm s.vm).setFrames (.invoking m args :: below)).frames = .invoking m args :: below := State.frames_setFrames _ (State.cur_lt_of_top htop)
  obtain ⟨g₀, hg0⟩ := Option.isSome_iff_exists.mp htop
  obtain ⟨r, hr⟩ := State.topJava?_eq_some.mp hg0
  have hl9 : e.platform.stackLimits (T.setVm s.vm).me = e.platform.stackLimits s.me := X.limits
  have hb9 : (T.setVm s.vm).me.stackBytes = s.me.stackBytes := X.bytes
  refine ⟨X.admits, X.cas, X.clock, hF, ?_, X.hears, X.method, X.code, X.here, X.tail, X.warmed, ?_, ?_, ?_⟩
  · have h := X.room
    have hU : ((T.setVm s.vm).setFrames (.invoking m args :: below)).localsInUse = s.localsInUse := by
      rw [State.localsInUse_invoking hF (meth := meth) (c := c) X.method X.code, State.localsInUse_invoking X.frames X.method X.code]
    simp only [State.hasRoom, Bool.and_eq_true, decide_eq_true_eq] at h ⊢
    obtain ⟨⟨⟨⟨h1, h2, h3, h4, h5, h6⟩, h7⟩, h8⟩, h9⟩ := h
    rw [X.frames, List.length_cons] at h2 h3
    have q1 := X.heapSize
    have q2 := X.used
    simp only [hF, hU, List.length_cons, State.stackLimits_setFrames, State.stackBytes_setFrames, hl9, hb9]
    refine ⟨⟨⟨⟨by omega, by omega, by omega, by omega, by omega, h6⟩, ?_⟩, ?_⟩, X.book⟩
    · show T.heap.size + R'.cells ≤ e.platform.maxCells
      omega
    · show T.slotsUsed + R'.slots ≤ e.platform.maxSlots
      omega
  · rw [State.stackLimits_setFrames]; rfl
  · rw [State.stackBytes_setFrames]; rfl
  · refine ⟨?_, Nat.le_refl _, Nat.le_refl _, ?_, ?_, fun a c9 h9 => ⟨c9, h9, rfl, rfl, fun _ _ => rfl⟩⟩
    · obtain ⟨t, ht, -⟩ := State.frames_cons hr
      show T.setVm s.vm = { ((T.setVm s.vm).setFrames (.invoking m args :: below)).setFrames (T.setVm s.vm).frames with heap := T.heap, slotsUsed := T.slotsUsed }
      rw [State.setFrames_setFrames, State.setFrames_self ht]
      rfl
    · show T.slotsUsed = T.slotsUsed + ((T.heap.toList.drop T.heap.size).map (·.slots.size)).sum
      rw [List.drop_eq_nil_of_le (Nat.le_of_eq Array.length_toList)]
      rfl
    · show ((T.heap.toList.drop T.heap.size).map (·.slots.size)).sum ≤ 0
      rw [List.drop_eq_nil_of_le (Nat.le_of_eq Array.length_toList)]
      exact Nat.le_refl _
/-- 'throw new E()': new; dup; invokespecial; athrow -/
theorem vx_throw0 {cc : ByteArray} {pc : Nat} (hexec : p.tables.exec = Jvm.exec) (hb : c.code = cc) (hl : l.stackTraces = false) {own cls : String} {names : List String} {ik ic mc ms : Nat} {A : Nat → Prop}
    (hown : s.vm.findClass own = some m.cls) (hcls : Bundle.fit cls = true) (hnames : ∀ n ∈ names, Bundle.fit n = true)
    (hk : (Cond.classLink own ik cls).before args s = true) (hini : (Cond.initialized cls).before args s = true) (hat : ∀ w ∈ vx_at0 own ic cls names, w.before args s = true)
    (hgood : ∀ w ∈ Cond.classLink own ik cls :: Cond.initialized cls :: vx_at0 own ic cls names, vx_ot w = true)
    (hU : vx_Zq Bundle.tN "UNASSIGNED_STACK" Bundle.steD A s s.heap) (hN : vx_Zq Bundle.tN "SUPPRESSED_SENTINEL" Bundle.listD A s s.heap) (hS : va_S A s.heap H locs) (hsize : ls.size = c.maxLocals)
    (d0 : decode cc pc = .ok (.new ik, 3)) (d3 : decode cc (pc + 3) = .ok (.dup, 1)) (d4 : decode cc (pc + 4) = .ok (.invokespecial ic, 3)) (d7 : decode cc (pc + 7) = .ok (.athrow, 1))
    (hout : ∀ x ∈ c.exceptionTable.toList, covers x (pc + 7) = false)
    (hRframes : names.length + 3 < R.frames) (hRlocals : (rest.map fun v => v.category).sum + (13 * (names.length + 1) + 42) ≤ R.locals) (hRcells : cells + 1 ≤ R.cells) (hRslots : slots + 6 ≤ R.slots) (hlocks : meth.locks = false)
    (hx : ∀ t : State, s.vm.Alike t.vm → H.size ≤ t.heap.size → (∀ q : Nat, q < H.size → t.heap[q]? = H[q]?) → XC cls s t)
    (hf : ∀ z ∈ locs, free z.base) (hc : cells + 1 ≤ mc) (hs : slots + 6 ≤ ms) :
    W p l e R s m args below meth c H locs cells slots (vx_MQ below Qc XC args s mc ms free) (F0 m pc ls rest) := by
  intro T hT X
  have htr : e.platform.stackTraces = false := (show e.platform.stackTraces = l.stackTraces by rw [X.admits.platform]).trans hl
  have Y := vx_rebase X (R' := { frames := R.frames, locals := R.locals, cells := 1, slots := 6 }) (Nat.le_refl _) (Nat.le_refl _) hRcells hRslots
  obtain ⟨s', hA⟩ : ∃ z, z = (T.setVm s.vm).setFrames (.invoking m args :: below) := ⟨_, rfl⟩
  rw [← hA] at Y
  have hvm : s'.vm = s.vm := by rw [hA]; rfl
  have hhp : s'.heap = H := by rw [hA]; exact hT
  have hW0 : s.WarmedH s'.vm := by rw [hvm]; exact State.WarmedH.refl s
  have hat' : ∀ w ∈ vx_at0 own ic cls names, w.before args s' = true := fun w hw => vx_ot_at hW0 hvm.symm (hgood w (List.mem_cons_of_mem _ (List.mem_cons_of_mem _ hw))) (hat w hw)
  have hk' : (Cond.classLink own ik cls).before args s' = true := vx_ot_at hW0 hvm.symm (hgood _ List.mem_cons_self) hk
  have hini' : (Cond.initialized cls).before args s' = true := vx_ot_at hW0 hvm.symm (hgood _ (List.mem_cons_of_mem _ List.mem_cons_self)) hini
  have hU' : vx_Zq Bundle.tN "UNASSIGNED_STACK" Bundle.steD A s' s'.heap := by rw [hhp]; exact vx_Zq.moved hW0.alike (hU.kept hS.2.1)
  have hN' : vx_Zq Bundle.tN "SUPPRESSED_SENTINEL" Bundle.listD A s' s'.heap := by rw [hhp]; exact vx_Zq.moved hW0.alike (hN.kept hS.2.1)
  have h : ∀ w ∈ Bundle.ownAtoms0 own ic cls names, w.before args s' = true := vx_own hat' (vx_isRefq hU'.1) (vx_isRefq hN'.1) hU'.2.word hN'.2.word
  have hown' : s'.vm.findClass own = some m.cls := by rw [hvm]; exact hown
  have hins : (Cond.instantiable cls 6).before args s' = true := h _ (by simp [Bundle.ownAtoms0])
  obtain ⟨vm₁, cX, kX, hfX, hkX, -, -, X₁, st1⟩ := Y.newCold hexec (own := own) (C := cls) (index := ik) (n := 6) hown' hk' hins hini'
    (g := F0 m pc ls rest) rfl (by rw [hb]; exact d0) (Nat.le_refl _) (Nat.le_refl _)
  generalize hT1 : (T.setVm vm₁).pushCell { cls := cX, slots := kX.instanceTypes.map defaultValue, vm := .none } = T1 at X₁ st1
  have hcat : (Value.ref T.heap.size).category = 1 := rfl
  have hcellA : T1.heap[T.heap.size]? = some (freshCell cX kX) := by rw [← hT1]; exact State.heap_pushCell_size _ _
  have d3' : decode c.code (pc + 3) = .ok (.dup, 1) := by rw [hb]; exact d3
  obtain ⟨U, hsteps, hrun, hend, hW, hsame, ce, hce, hO⟩ := X₁.ctorThrow0 hexec htr (own := own) (cls := cls) (names := names) (ic := ic) hown' hcls hnames h (fun x hx => nomatch hx) hfX hkX hcellA (by rw [hhp, hT]; exact Nat.le_refl _)
    (g := { method := m, pc := pc + 4, locals := ls, stack := .ref T.heap.size :: .ref T.heap.size :: rest, locked := none }) rfl hsize rfl rfl (rest := rest) rfl
    (by rw [hb]; exact d4) (by rw [hb]; exact d7) hout hRframes (by simp only [List.map_cons, List.sum_cons, hcat]; omega) hlocks
  obtain ⟨f1, f2⟩ := vx_frame hsame
  rw [hhp] at f1 f2
  have hWs : s.WarmedH U.vm := State.WarmedH.trans hW0 hW
  have hcl : s.vm.findClass cls = some ce.cls := by
    have h9 := hO.cls
    rw [hvm] at h9
    exact h9
  have hall : s.sameButNew ({ U with vm := s.vm } : State) locs mc ms := by
    subst hA
    obtain ⟨e1, e2⟩ := hsame
    rw [State.setFrames_setFrames] at e1
    have h2 : (T.setVm s.vm).sameButNew ({ U with vm := s.vm } : State) [] (0 + 1) (0 + 6) := ⟨e1, e2⟩
    have h3 := X.same.trans h2
    rw [List.append_nil] at h3
    exact h3.mono hc hs
  refine ⟨U, ?_, .threw T.heap.size, hrun, hend, Or.inr ⟨T.heap.size, rfl, cls, ce, locs, hx U hWs.alike f1 (fun q hq => f2 q hq (fun z hz => nomatch hz)), hce, hO.vm, hcl, hWs, hall, hf⟩⟩
  refine st1 _ ?_
  show Steps p.tables e below (T1.setTop { method := m, pc := pc + 3, locals := ls, stack := .ref T.heap.size :: rest, locked := none }) _
  jvm_step X₁.here [X₁.here.top, hexec, d3', Value.category]
  exact hsteps
/-- 'throw new E("text")': new; dup; ldc; invokespecial; athrow -/
theorem vx_throwS {cc : ByteArray} {pc : Nat} (hexec : p.tables.exec = Jvm.exec) (hb : c.code = cc) (hl : l.stackTraces = false) {own cls text : String} {names : List String} {ik is ic mc ms sa : Nat} {A : Nat → Prop}
    (hown : s.vm.findClass own = some m.cls) (hcls : Bundle.fit cls = true) (hnames : ∀ n ∈ names, Bundle.fit n = true)
    (hk : (Cond.classLink own ik cls).before args s = true) (hini : (Cond.initialized cls).before args s = true) (hstr : vk_R own is text sa s) (hat : ∀ w ∈ vx_atS own ic cls names, w.before args s = true)
    (hgood : ∀ w ∈ Cond.classLink own ik cls :: Cond.initialized cls :: vx_atS own ic cls names, vx_ot w = true)
    (hU : vx_Zq Bundle.tN "UNASSIGNED_STACK" Bundle.steD A s s.heap) (hN : vx_Zq Bundle.tN "SUPPRESSED_SENTINEL" Bundle.listD A s s.heap) (hS : va_S A s.heap H locs) (hsize : ls.size = c.maxLocals)
    (d0 : decode cc pc = .ok (.new ik, 3)) (d3 : decode cc (pc + 3) = .ok (.dup, 1)) (d4 : decode cc (pc + 4) = .ok (.ldc is, 2)) (d6 : decode cc (pc + 6) = .ok (.invokespecial ic, 3)) (d9 : decode cc (pc + 9) = .ok (.athrow, 1))
    (hout : ∀ x ∈ c.exceptionTable.toList, covers x (pc + 9) = false)
    (hRframes : names.length + 3 < R.frames) (hRlocals : (rest.map fun v => v.category).sum + (13 * (names.length + 1) + 43) ≤ R.locals) (hRcells : cells + 1 ≤ R.cells) (hRslots : slots + 6 ≤ R.slots) (hlocks : meth.locks = false)
    (hx : ∀ t : State, s.vm.Alike t.vm → H.size ≤ t.heap.size → (∀ q : Nat, q < H.size → t.heap[q]? = H[q]?) → XC cls s t)
    (hf : ∀ z ∈ locs, free z.base) (hc : cells + 1 ≤ mc) (hs : slots + 6 ≤ ms) :
    W p l e R s m args below meth c H locs cells slots (vx_MQ below Qc XC args s mc ms free) (F0 m pc ls rest) := by
  intro T hT X
  have htr : e.platform.stackTraces = false := (show e.platform.stackTraces = l.stackTraces by rw [X.admits.platform]).trans hl
  have Y := vx_rebase X (R' := { frames := R.frames, locals := R.locals, cells := 1, slots := 6 }) (Nat.le_refl _) (Nat.le_refl _) hRcells hRslots
  obtain ⟨s', hA⟩ : ∃ z, z = (T.setVm s.vm).setFrames (.invoking m args :: below) := ⟨_, rfl⟩
  rw [← hA] at Y
  have hvm : s'.vm = s.vm := by rw [hA]; rfl
  have hhp : s'.heap = H := by rw [hA]; exact hT
  have hW0 : s.WarmedH s'.vm := by rw [hvm]; exact State.WarmedH.refl s
  have hat' : ∀ w ∈ vx_atS own ic cls names, w.before args s' = true := fun w hw => vx_ot_at hW0 hvm.symm (hgood w (List.mem_cons_of_mem _ (List.mem_cons_of_mem _ hw))) (hat w hw)
  have hk' : (Cond.classLink own ik cls).before args s' = true := vx_ot_at hW0 hvm.symm (hgood _ List.mem_cons_self) hk
  have hini' : (Cond.initialized cls).before args s' = true := vx_ot_at hW0 hvm.symm (hgood _ (List.mem_cons_of_mem _ List.mem_cons_self)) hini
  have hU' : vx_Zq Bundle.tN "UNASSIGNED_STACK" Bundle.steD A s' s'.heap := by rw [hhp]; exact vx_Zq.moved hW0.alike (hU.kept hS.2.1)
  have hN' : vx_Zq Bundle.tN "SUPPRESSED_SENTINEL" Bundle.listD A s' s'.heap := by rw [hhp]; exact vx_Zq.moved hW0.alike (hN.kept hS.2.1)
  have h : ∀ w ∈ Bundle.ownAtoms own ic cls names, w.before args s' = true := vx_own hat' (vx_isRefq hU'.1) (vx_isRefq hN'.1) hU'.2.word hN'.2.word
  have hown' : s'.vm.findClass own = some m.cls := by rw [hvm]; exact hown
  have hins : (Cond.instantiable cls 6).before args s' = true := h _ (by simp [Bundle.ownAtoms])
  obtain ⟨vm₁, cX, kX, hfX, hkX, -, -, X₁, st1⟩ := Y.newCold hexec (own := own) (C := cls) (index := ik) (n := 6) hown' hk' hins hini'
    (g := F0 m pc ls rest) rfl (by rw [hb]; exact d0) (Nat.le_refl _) (Nat.le_refl _)
  generalize hT1 : (T.setVm vm₁).pushCell { cls := cX, slots := kX.instanceTypes.map defaultValue, vm := .none } = T1 at X₁ st1
  have hcat : (Value.ref T.heap.size).category = 1 := rfl
  have hcellA : T1.heap[T.heap.size]? = some (freshCell cX kX) := by rw [← hT1]; exact State.heap_pushCell_size _ _
  have d3' : decode c.code (pc + 3) = .ok (.dup, 1) := by rw [hb]; exact d3
  have d4' : decode c.code (pc + 4) = .ok (.ldc is, 2) := by rw [hb]; exact d4
  have hstr' : vk_R own is text sa s' := vk_R.warm hW0 hstr
  obtain ⟨U, hsteps, hrun, hend, hW, hsame, ce, hce, hO⟩ := X₁.ctorThrowS hexec htr (own := own) (cls := cls) (names := names) (ic := ic) hown' hcls hnames h (fun x hx => nomatch hx) hfX hkX hcellA (by rw [hhp, hT]; exact Nat.le_refl _) (msg := .ref sa) rfl
    (g := { method := m, pc := pc + 6, locals := ls, stack := .ref sa :: .ref T.heap.size :: .ref T.heap.size :: rest, locked := none }) rfl hsize rfl rfl (rest := rest) rfl
    (by rw [hb]; exact d6) (by rw [hb]; exact d9) hout hRframes (by simp only [List.map_cons, List.sum_cons, hcat]; omega) hlocks
  obtain ⟨f1, f2⟩ := vx_frame hsame
  rw [hhp] at f1 f2
  have hWs : s.WarmedH U.vm := State.WarmedH.trans hW0 hW
  have hcl : s.vm.findClass cls = some ce.cls := by
    have h9 := hO.cls
    rw [hvm] at h9
    exact h9
  have hall : s.sameButNew ({ U with vm := s.vm } : State) locs mc ms := by
    subst hA
    obtain ⟨e1, e2⟩ := hsame
    rw [State.setFrames_setFrames] at e1
    have h2 : (T.setVm s.vm).sameButNew ({ U with vm := s.vm } : State) [] (0 + 1) (0 + 6) := ⟨e1, e2⟩
    have h3 := X.same.trans h2
    rw [List.append_nil] at h3
    exact h3.mono hc hs
  refine ⟨U, ?_, .threw T.heap.size, hrun, hend, Or.inr ⟨T.heap.size, rfl, cls, ce, locs, hx U hWs.alike f1 (fun q hq => f2 q hq (fun z hz => nomatch hz)), hce, hO.vm, hcl, hWs, hall, hf⟩⟩
  refine st1 _ ?_
  show Steps p.tables e below (T1.setTop { method := m, pc := pc + 3, locals := ls, stack := .ref T.heap.size :: rest, locked := none }) _
  jvm_step X₁.here [X₁.here.top, hexec, d3', Value.category]
  exact X₁.ldcString hexec (own := own) (text := text) (index := is) (a := sa) hown' hstr'.1 hstr'.2
    (g := { method := m, pc := pc + 4, locals := ls, stack := .ref T.heap.size :: .ref T.heap.size :: rest, locked := none }) rfl d4' _ hsteps
/-- 'throw new E("text")', the text by a wide index -/
theorem vx_throwSW {cc : ByteArray} {pc : Nat} (hexec : p.tables.exec = Jvm.exec) (hb : c.code = cc) (hl : l.stackTraces = false) {own cls text : String} {names : List String} {ik is ic mc ms sa : Nat} {A : Nat → Prop}
    (hown : s.vm.findClass own = some m.cls) (hcls : Bundle.fit cls = true) (hnames : ∀ n ∈ names, Bundle.fit n = true)
    (hk : (Cond.classLink own ik cls).before args s = true) (hini : (Cond.initialized cls).before args s = true) (hstr : vk_R own is text sa s) (hat : ∀ w ∈ vx_atS own ic cls names, w.before args s = true)
    (hgood : ∀ w ∈ Cond.classLink own ik cls :: Cond.initialized cls :: vx_atS own ic cls names, vx_ot w = true)
    (hU : vx_Zq Bundle.tN "UNASSIGNED_STACK" Bundle.steD A s s.heap) (hN : vx_Zq Bundle.tN "SUPPRESSED_SENTINEL" Bundle.listD A s s.heap) (hS : va_S A s.heap H locs) (hsize : ls.size = c.maxLocals)
    (d0 : decode cc pc = .ok (.new ik, 3)) (d3 : decode cc (pc + 3) = .ok (.dup, 1)) (d4 : decode cc (pc + 4) = .ok (.ldc_w is, 3)) (d7 : decode cc (pc + 7) = .ok (.invokespecial ic, 3)) (d10 : decode cc (pc + 10) = .ok (.athrow, 1))
    (hout : ∀ x ∈ c.exceptionTable.toList, covers x (pc + 10) = false)
    (hRframes : names.length + 3 < R.frames) (hRlocals : (rest.map fun v => v.category).sum + (13 * (names.length + 1) + 43) ≤ R.locals) (hRcells : cells + 1 ≤ R.cells) (hRslots : slots + 6 ≤ R.slots) (hlocks : meth.locks = false)
    (hx : ∀ t : State, s.vm.Alike t.vm → H.size ≤ t.heap.size → (∀ q : Nat, q < H.size → t.heap[q]? = H[q]?) → XC cls s t)
    (hf : ∀ z ∈ locs, free z.base) (hc : cells + 1 ≤ mc) (hs : slots + 6 ≤ ms) :
    W p l e R s m args below meth c H locs cells slots (vx_MQ below Qc XC args s mc ms free) (F0 m pc ls rest) := by
  intro T hT X
  have htr : e.platform.stackTraces = false := (show e.platform.stackTraces = l.stackTraces by rw [X.admits.platform]).trans hl
  have Y := vx_rebase X (R' := { frames := R.frames, locals := R.locals, cells := 1, slots := 6 }) (Nat.le_refl _) (Nat.le_refl _) hRcells hRslots
  obtain ⟨s', hA⟩ : ∃ z, z = (T.setVm s.vm).setFrames (.invoking m args :: below) := ⟨_, rfl⟩
  rw [← hA] at Y
  have hvm : s'.vm = s.vm := by rw [hA]; rfl
  have hhp : s'.heap = H := by rw [hA]; exact hT
  have hW0 : s.WarmedH s'.vm := by rw [hvm]; exact State.WarmedH.refl s
  have hat' : ∀ w ∈ vx_atS own ic cls names, w.before args s' = true := fun w hw => vx_ot_at hW0 hvm.symm (hgood w (List.mem_cons_of_mem _ (List.mem_cons_of_mem _ hw))) (hat w hw)
  have hk' : (Cond.classLink own ik cls).before args s' = true := vx_ot_at hW0 hvm.symm (hgood _ List.mem_cons_self) hk
  have hini' : (Cond.initialized cls).before args s' = true := vx_ot_at hW0 hvm.symm (hgood _ (List.mem_cons_of_mem _ List.mem_cons_self)) hini
  have hU' : vx_Zq Bundle.tN "UNASSIGNED_STACK" Bundle.steD A s' s'.heap := by rw [hhp]; exact vx_Zq.moved hW0.alike (hU.kept hS.2.1)
  have hN' : vx_Zq Bundle.tN "SUPPRESSED_SENTINEL" Bundle.listD A s' s'.heap := by rw [hhp]; exact vx_Zq.moved hW0.alike (hN.kept hS.2.1)
  have h : ∀ w ∈ Bundle.ownAtoms own ic cls names, w.before args s' = true := vx_own hat' (vx_isRefq hU'.1) (vx_isRefq hN'.1) hU'.2.word hN'.2.word
  have hown' : s'.vm.findClass own = some m.cls := by rw [hvm]; exact hown
  have hins : (Cond.instantiable cls 6).before args s' = true := h _ (by simp [Bundle.ownAtoms])
  obtain ⟨vm₁, cX, kX, hfX, hkX, -, -, X₁, st1⟩ := Y.newCold hexec (own := own) (C := cls) (index := ik) (n := 6) hown' hk' hins hini'
    (g := F0 m pc ls rest) rfl (by rw [hb]; exact d0) (Nat.le_refl _) (Nat.le_refl _)
  generalize hT1 : (T.setVm vm₁).pushCell { cls := cX, slots := kX.instanceTypes.map defaultValue, vm := .none } = T1 at X₁ st1
  have hcat : (Value.ref T.heap.size).category = 1 := rfl
  have hcellA : T1.heap[T.heap.size]? = some (freshCell cX kX) := by rw [← hT1]; exact State.heap_pushCell_size _ _
  have d3' : decode c.code (pc + 3) = .ok (.dup, 1) := by rw [hb]; exact d3
  have d4' : decode c.code (pc + 4) = .ok (.ldc_w is, 3) := by rw [hb]; exact d4
  have hstr' : vk_R own is text sa s' := vk_R.warm hW0 hstr
  obtain ⟨U, hsteps, hrun, hend, hW, hsame, ce, hce, hO⟩ := X₁.ctorThrowS hexec htr (own := own) (cls := cls) (names := names) (ic := ic) hown' hcls hnames h (fun x hx => nomatch hx) hfX hkX hcellA (by rw [hhp, hT]; exact Nat.le_refl _) (msg := .ref sa) rfl
    (g := { method := m, pc := pc + 7, locals := ls, stack := .ref sa :: .ref T.heap.size :: .ref T.heap.size :: rest, locked := none }) rfl hsize rfl rfl (rest := rest) rfl
    (by rw [hb]; exact d7) (by rw [hb]; exact d10) hout hRframes (by simp only [List.map_cons, List.sum_cons, hcat]; omega) hlocks
  obtain ⟨f1, f2⟩ := vx_frame hsame
  rw [hhp] at f1 f2
  have hWs : s.WarmedH U.vm := State.WarmedH.trans hW0 hW
  have hcl : s.vm.findClass cls = some ce.cls := by
    have h9 := hO.cls
    rw [hvm] at h9
    exact h9
  have hall : s.sameButNew ({ U with vm := s.vm } : State) locs mc ms := by
    subst hA
    obtain ⟨e1, e2⟩ := hsame
    rw [State.setFrames_setFrames] at e1
    have h2 : (T.setVm s.vm).sameButNew ({ U with vm := s.vm } : State) [] (0 + 1) (0 + 6) := ⟨e1, e2⟩
    have h3 := X.same.trans h2
    rw [List.append_nil] at h3
    exact h3.mono hc hs
  refine ⟨U, ?_, .threw T.heap.size, hrun, hend, Or.inr ⟨T.heap.size, rfl, cls, ce, locs, hx U hWs.alike f1 (fun q hq => f2 q hq (fun z hz => nomatch hz)), hce, hO.vm, hcl, hWs, hall, hf⟩⟩
  refine st1 _ ?_
  show Steps p.tables e below (T1.setTop { method := m, pc := pc + 3, locals := ls, stack := .ref T.heap.size :: rest, locked := none }) _
  jvm_step X₁.here [X₁.here.top, hexec, d3', Value.category]
  exact X₁.ldcStringW hexec (own := own) (text := text) (index := is) (a := sa) hown' hstr'.1 hstr'.2
    (g := { method := m, pc := pc + 4, locals := ls, stack := .ref T.heap.size :: .ref T.heap.size :: rest, locked := none }) rfl d4' _ hsteps
end Ends
section Bodies
variable {l : Launch}
theorem vx_ofW {y : MethodName} {ws ws' : List Cond} {rm : Room} {Pc : Array Value → State → Prop} {Qc : Array Value → State → Outcome → State → Prop} {XC : String → State → State → Prop} {mc ms : Nat} {free : Addr → Prop} {cc : ByteArray} {maxL : Nat} {ret : Option FieldType}
    (hy : plainName y.cls = true) (hw : ws = Cond.code y cc maxL ret :: ws')
    (body : ∀ p e s m args below meth c s₁, BodyLoose p l y (headSpec ws rm) cc maxL ret e s m args below meth c s₁ → c.maxLocals = maxL → (∀ x ∈ c.exceptionTable.toList, False) → Pc args s →
      W p l e (headSpec ws rm).room s m args below meth c s.heap [] 0 0 (vx_MQ below Qc XC args s mc ms free) (entryFrame m args maxL)) : vx_Met l y ws rm Pc Qc XC mc ms free := by
  refine MetFree.of_bodyS (code := cc) (maxLocals := maxL) (ret := ret) hy ?_ ?_
  · intro args s m h hn
    obtain ⟨meth, c, h1, h2, h3, h4, h5, h6, -, -⟩ := Cond.code_spec hn (atoms_spec (ws := ws) h _ (by rw [hw]; exact List.mem_cons_self))
    exact ⟨meth, c, h1, h2, h3, h4, h5, h6⟩
  · intro p e s m args below meth c s₁ B hml hP _
    have hh0 : s₁.heap = s.heap := by rw [B.state]; rfl
    have ht : ∀ x ∈ c.exceptionTable.toList, False := by
      obtain ⟨meth9, c9, h1, h2, -, -, -, -, h7, -⟩ := Cond.code_spec B.named (atoms_spec (ws := ws) B.pre _ (by rw [hw]; exact List.mem_cons_self))
      cases Option.some.inj (h1.symm.trans B.method)
      cases Option.some.inj (h2.symm.trans (Stand.of_body B).code)
      intro x hx
      rw [Array.isEmpty_iff.mp h7] at hx
      cases hx
    obtain ⟨t, a1, o, b1, b2, b3⟩ := body p e s m args below meth c s₁ B hml ht hP s₁ hh0 (Stand.of_body B)
    exact ⟨t, o, a1, b1, b2, b3⟩
/-- the table of a body with handlers -/
theorem vx_table {p : Program} {x y : MethodName} {S : Spec} {cc bytes : ByteArray} {maxL maxL' : Nat} {ret ret' : Option FieldType} {e : Env} {s s₁ : State} {m : MethodId} {args : Array Value} {below : List Frame} {meth : Method} {c : Code} {hh : List (Nat × Nat × Nat × Nat)}
    (B : BodyLoose p l y S cc maxL ret e s m args below meth c s₁) (h : (Cond.codeWith y bytes maxL' ret' hh).before args s = true) : c.exceptionTable.toList = tableOf hh := by
  obtain ⟨m9, meth9, c9, hn9, h1, h2, -, -, h6, -⟩ := Cond.codeWith_spec h
  cases Option.some.inj (hn9.symm.trans B.named)
  cases Option.some.inj (h1.symm.trans B.method)
  cases Option.some.inj (h2.symm.trans (Stand.of_body B).code)
  rw [← h6, table_eq]
end Bodies
end VXA
/-! ===== END ===== -/
/-! ===== BEGIN a static call of a method with an exception table ===== -/
section VXS
variable {p : Program} {l : Launch} {e : Env} {R : Room} {s : State} {m : MethodId} {args : Array Value} {below : List Frame} {meth : Method} {c : Code} {T : State} {H : Heap} {locs : List Loc} {cells slots : Nat}
abbrev vx_CSW (R : Room) (s : State) (args : Array Value) (own : String) (index : Nat) (y : MethodName) (bytes : ByteArray) (maxL : Nat) (ret : Option FieldType) (hh : List (Nat × Nat × Nat × Nat)) (ws : List Cond) (rm : Room) (mc ms n : Nat) : Prop :=
  (rm.cells = mc ∧ rm.slots = ms ∧ rm.frames + 1 ≤ R.frames ∧ 8 + (maxL + 11) + rm.locals ≤ R.locals ∧ (∀ w ∈ ws, ∀ (a' : Array Value) (U : State), s.WarmedH U.vm → w.before a' U = true) ∧ Cond.codeWith y bytes maxL ret hh ∈ ws) ∧
  (Cond.codeWith y bytes maxL ret hh).before args s = true ∧ (Cond.initialized y.cls).before args s = true ∧ (y.cls ≠ "java/lang/invoke/MethodHandle" ∧ y.cls ≠ "java/lang/invoke/VarHandle") ∧
  (∀ sig, parseMethodDescriptor y.desc = some sig → n = sig.parameters.length) ∧ (Cond.methodLink own index y).before args s = true ∧ (Cond.static y).before args s = true
theorem vx_cwSW {own : String} {index maxL mc ms : Nat} {y : MethodName} {bytes : ByteArray} {ret : Option FieldType} {hh : List (Nat × Nat × Nat × Nat)} {Ts ws ws' : List Cond} {rm : Room} (n : Nat) (ht : ∀ w ∈ Ts, w.before args s = true) (hT : GoodIn Ts (va_wsS own index y ws)) (hw : ws = Cond.codeWith y bytes maxL ret hh :: ws') (hrc : rm.cells = mc) (hrs : rm.slots = ms)
    (hd : y.cls ≠ "java/lang/invoke/MethodHandle" ∧ y.cls ≠ "java/lang/invoke/VarHandle" ∧ (parseMethodDescriptor y.desc).map (fun d => d.parameters.length) = some n) (hR : rm.frames + 1 ≤ R.frames ∧ 8 + (maxL + 11) + rm.locals ≤ R.locals) :
    vx_CSW R s args own index y bytes maxL ret hh ws rm mc ms n := by
  have ok : ∀ w ∈ va_wsS own index y ws, w.before args s = true := fun w h => ht w (hT w h).1
  have hG : GoodIn Ts ws := fun w h => hT w (by unfold va_wsS; exact List.mem_append_right _ h)
  have hc : Cond.codeWith y bytes maxL ret hh ∈ ws := by rw [hw]; exact List.mem_cons_self
  refine ⟨⟨hrc, hrs, hR.1, hR.2, pay_in ht hG, hc⟩, ht _ (hG _ hc).1, ok _ (by simp [va_wsS]), ⟨hd.1, hd.2.1⟩, fun sig h => ?_, ok _ (by simp [va_wsS]), ok _ (by simp [va_wsS])⟩
  have h2 := hd.2.2
  rw [h] at h2
  exact (Option.some.inj h2).symm
theorem vx_callSW (X : Stand p l e R s m args below meth c T locs cells slots) (hexec : p.tables.exec = Jvm.exec) {own : String} {index : Nat} {y : MethodName} {bytes : ByteArray} {maxL : Nat} {ret : Option FieldType} {hh : List (Nat × Nat × Nat × Nat)}
    (hown : s.vm.findClass own = some m.cls) (hlink : (Cond.methodLink own index y).before args s = true) (hstat : (Cond.static y).before args s = true) (hinit : (Cond.initialized y.cls).before args s = true)
    (hcode : (Cond.codeWith y bytes maxL ret hh).before args s = true) (hy : y.cls ≠ "java/lang/invoke/MethodHandle" ∧ y.cls ≠ "java/lang/invoke/VarHandle")
    {W9 : Nat} {Pre : Pt → Array Value → Prop} {Post : Pt → Array Value → Option Value → Pt → Prop} (hK : Back l R p e below s args y 3 W9 Pre Post)
    {g : JFrame} (hg : g.method = m) (hsize : g.locals.size = c.maxLocals) {argsL rest : List Value} (hlen : ∀ sig, parseMethodDescriptor y.desc = some sig → argsL.length = sig.parameters.length)
    (hstack : g.stack = argsL.reverse ++ rest) (hW : 2 * g.monitorRoom + (rest.map fun v => v.category).sum ≤ W9) (hdg : decode c.code g.pc = .ok (.invokestatic index, 3))
    (hpre : ∀ vm₁, s.WarmedH vm₁ → Pre ⟨T.setVm vm₁, locs, cells, slots⟩ argsL.toArray) :
    ∃ (v : Option Value) (vm₁ : Vm) (B : Pt), s.WarmedH vm₁ ∧ Stand p l e R s m args below meth c B.U B.locs B.cells B.slots ∧ Post ⟨T.setVm vm₁, locs, cells, slots⟩ argsL.toArray v B ∧
      ∀ target, Steps p.tables e below (B.U.setTop { g with pc := g.pc + 3, stack := v.toList ++ rest }) target → Steps p.tables e below (T.setTop g) target := by
  obtain ⟨mk, methM, cM, hnamed, hmethM, -, -, -, -, -, -, hsigM⟩ := Cond.codeWith_spec hcode
  have hstatic : methM.isStatic = true := Cond.static_spec hnamed hmethM hstat
  obtain ⟨kP, hkP, -⟩ := className_of_methodNamed hnamed
  have hinitP : kP.init = .initialized := Cond.initialized_spec (findClass_of_methodNamed hnamed) hkP hinit
  obtain ⟨vm₁, X₁, hstep₁⟩ := X.invokestatic hexec hown hlink hnamed hmethM hstatic hkP hinitP hy (g := g) hg (argsL := argsL) (rest := rest) (hlen _ hsigM) hstack hdg
  obtain ⟨v, B, X', hpost, hsteps⟩ := hK m meth c ⟨T.setVm vm₁, locs, cells, slots⟩ { g with stack := rest } (.invokestatic index) mk argsL.toArray X₁ hg hsize hdg hW (X₁.named hnamed) (hpre vm₁ X₁.warmed)
  exact ⟨v, vm₁, B, X₁.warmed, X', hpost, fun target h => hstep₁ _ fun acts => by rw [doInvoke_state]; exact hsteps.trans h⟩
theorem vx_runSW {y : MethodName} {bytes cc : ByteArray} {maxL nL mc ms n index : Nat} {ret : Option FieldType} {hh : List (Nat × Nat × Nat × Nat)} {ws : List Cond} {rm : Room} {Pc : Array Value → State → Prop} {Qc : Array Value → State → Outcome → State → Prop} {free : Addr → Prop} {Ts : List Cond} {own : String} {As rest : List Value} {g : JFrame}
    (S : CallFix p m c cc nL s args Ts own) (hM : Met l y ws rm Pc Qc mc ms free) (cw : vx_CSW R s args own index y bytes maxL ret hh ws rm mc ms n) (hp : PreS s H Pc As)
    (hg : g.method = m) (hn : As.length = n) (hsize : g.locals.size = nL) (hstack : g.stack = As.reverse ++ rest) (hW : 2 * g.monitorRoom + (rest.map fun v => v.category).sum ≤ 8) (hdg : decode cc g.pc = .ok (.invokestatic index, 3)) (hf : cells + mc ≤ R.cells ∧ slots + ms ≤ R.slots) :
    va_Run p l e R s m args below meth c H locs cells slots mc ms g rest (Qc As.toArray) (free) := by
  obtain ⟨⟨hrc, hrs, hfr, hlo, hws, hcw⟩, hcode, hini, hy, hlen, hl, hstt⟩ := cw
  have hK : Back l R p e below s args y 3 8 (PreOf R mc ms Pc) (PostOf Qc mc ms free) := va_backW (hh := hh) (bytes := bytes) (maxL := maxL) (ret := ret) hM hp.1 hrc hrs hfr hlo hws hcw (fun a' U hW => word_at hW (Or.inl (by first | rfl | simp [Cond.onTables, Cond.keeps, Cond.steady])) hini)
  obtain ⟨hx, hb, hml, ho, -⟩ := S
  intro T hT X
  obtain ⟨v, vm₁, ⟨U', l2, c2, s2⟩, hW₁, X', ⟨g', mk, t, L, e1, e2, hq, h1, hL, h2, h3⟩, st⟩ := vx_callSW X hx (hh := hh) (bytes := bytes) (maxL := maxL) (ret := ret) ho hl hstt hini hcode hy hK hg (hsize.trans hml.symm) (argsL := As) (rest := rest) (fun sig h => hn.trans (hlen sig h)) hstack hW (by rw [hb]; exact hdg)
    (fun vm₁ hW₁ => ⟨hf.1, hf.2, hp.2 (T.setVm vm₁) hT hW₁⟩)
  dsimp only [Pt.U, Pt.locs, Pt.cells, Pt.slots] at X' e1 e2 h1 h2 h3 st
  subst h1; subst h2; subst h3
  exact ⟨v, (T.setVm vm₁).calling g' mk As.toArray, t, U', L, hT, X', hL, e1, e2, hq, st⟩
/-- not caught here, past rows that name other classes: it goes on to the caller -/
theorem vx_outP {p : Program} {l : Launch} {e : Env} {R : Room} {s : State} {m : MethodId} {args : Array Value} {below : List Frame} {meth : Method} {c : Code} {H : Heap} {locs : List Loc} {cells slots : Nat} {free : Addr → Prop} {ls : Array Slot} {rest : List Value} {Qc : Array Value → State → Outcome → State → Prop} {XC : String → State → State → Prop}
    {pc : Nat} {own E : String} {ce : Cell} {q : Addr} {mc ms : Nat} (hown : s.vm.findClass own = some m.cls) (hlocks : meth.locks = false)
    (hpass : ∀ z ∈ c.exceptionTable.toList, covers z pc = false ∨ (z.catchType ≠ 0 ∧ ∃ nm : String, (Cond.classLink own z.catchType nm).before args s = true ∧ va_Nc E nm s)) (hcell : H[q]? = some ce) (hv : ce.vm = .none) (hcl : s.vm.findClass E = some ce.cls)
    (hx : ∀ t : State, t.heap = H → s.vm.Alike t.vm → XC E s t) (hf : ∀ z ∈ locs, free z.base) (hc : cells ≤ mc) (hs : slots ≤ ms) :
    vx_W p l e R s m args below meth c H locs cells slots (vx_MQ below Qc XC args s mc ms free) (F0 m pc ls rest) q := by
  intro T hT X
  have hpl : e.platform.magicAccessors = ({} : Platform).magicAccessors := by rw [X.admits.platform]
  obtain ⟨vm', hW', X', st⟩ := X.outThrough hlocks q (g := F0 m pc ls rest) rfl rfl rfl (cell := ce) (by rw [hT]; exact hcell) (by rw [hv]; rfl)
    (by obtain ⟨k9, h9, -⟩ := Vm.findClass_spec hcl; exact ⟨k9, h9⟩) (fun z hz => by
      rcases hpass z hz with h | ⟨hz0, nm, hl1, hn1⟩
      · exact Or.inl h
      · obtain ⟨c6, hc6, hcl6⟩ := Cond.classLink_spec hown hl1 e.platform hpl
        obtain ⟨a8, b8, h1, h2, h3⟩ := hn1
        cases Option.some.inj (h1.symm.trans hcl)
        cases Option.some.inj (h2.symm.trans hc6)
        exact Or.inr ⟨hz0, _, hcl6, h3⟩)
  obtain ⟨g₀, hfr⟩ := X'.frames_eq
  have hcell9 : ((T.setVm vm').setFrames (.throwing q :: below)).heap[q]? = some ce := by
    show T.heap[q]? = some ce
    rw [hT]; exact hcell
  have hend : Ended ((T.setVm vm').setFrames (.throwing q :: below)) below (.threw q) := State.frames_setFrames _ (State.cur_lt_of_frames hfr)
  refine ⟨(T.setVm vm').setFrames (.throwing q :: below), ?_, .threw q, X'.here.running, hend, Or.inr ⟨q, rfl, E, ce, locs, hx _ hT (X'.ends _).1.alike, hcell9, hv, hcl, (X'.ends _).1, (X'.ends _).2.mono hc hs, hf⟩⟩
  rw [X.pushThrowing_eq]
  exact st
/-- a thing of a world lies in the heap -/
theorem vx_lt {D : va_G} {cl : List vw_C} {ws : va_W} {H1 : Heap} (h : va_P D cl ws H1) {k : Nat} {q : Nat × va_E} (hk : ws[k]? = some q) : q.1 < H1.size := (h k q hk).lt
end VXS
/-! ===== END ===== -/
/-! ===== BEGIN methods with a table of their own: called by a name, returning or throwing ===== -/
section VXH
/-! vx_backW, vx_callVX, vx_callSX, vx_callVW, vx_runVW, vx_runVX, vx_runSX, vx_ofWH follow the same proofs as their sisters above (Free/Laws.lean, Shelf42/LK1.lean); vx_outP calls Shelf42/NT130.lean (outThrough). -/
section
variable {l : Launch} {R : Room} {p : Program} {e : Env} {below : List Frame} {s : State} {sargs : Array Value} {y : MethodName} {len W9 : Nat}
theorem vx_backW {ws : List Cond} {rm : Room} {Pc : Array Value → State → Prop} {Qc : Array Value → State → Outcome → State → Prop} {XC : String → State → State → Prop} {mc ms : Nat} {free : Addr → Prop} {bytes : ByteArray} {maxL : Nat} {ret : Option FieldType} {hh : List (Nat × Nat × Nat × Nat)}
    (hM : vx_Met l y ws rm Pc Qc XC mc ms free) (hblind : FrameBlind Pc) (hrc : rm.cells = mc) (hrs : rm.slots = ms)
    (hframes : rm.frames + 1 ≤ R.frames) (hlocals : W9 + (maxL + 11) + rm.locals ≤ R.locals)
    (hws : ∀ w ∈ ws, ∀ a' U, s.WarmedH U.vm → w.before a' U = true) (hcode : Cond.codeWith y bytes maxL ret hh ∈ ws) (hinit : ∀ a' U, s.WarmedH U.vm → (Cond.initialized y.cls).before a' U = true) :
    vx_Back l R p e below s sargs y len W9 (PreOf R mc ms Pc) (PostOf Qc mc ms free) (vx_Post XC mc ms free) := by
  intro m meth c A g ig mk a X hg hsize hdg hW hn hp
  have h1 : (headSpec ws rm).pre.before a A.U = true := atoms_intro fun w hw => hws w hw _ _ X.warmed
  have h2 : (Cond.codeWith y bytes maxL ret hh).before a A.U = true := hws _ hcode _ _ X.warmed
  have h3 : (Cond.initialized y.cls).before a A.U = true := hinit _ _ X.warmed
  have h4 : A.cells + (headSpec ws rm).room.cells ≤ R.cells := by rw [show (headSpec ws rm).room.cells = mc from hrc]; exact hp.1
  have h5 : A.slots + (headSpec ws rm).room.slots ≤ R.slots := by rw [show (headSpec ws rm).room.slots = ms from hrs]; exact hp.2.1
  have hPc : Pc a (A.U.calling g mk a) := hblind _ _ _ _ hp.2.2
  obtain ⟨U, Ls, c0, s0⟩ := A
  dsimp only [Pt.U, Pt.locs, Pt.cells, Pt.slots] at h1 h2 h3 h4 h5 X hn hPc ⊢
  obtain ⟨m9, methY, cY, hn9, hmY, hcY, -, hlY, -⟩ := Cond.codeWith_spec h2
  cases Option.some.inj (hn9.symm.trans hn)
  obtain ⟨kY, hkY, -⟩ := className_of_methodNamed hn
  have hinitY : kY.init = .initialized := Cond.initialized_spec (findClass_of_methodNamed hn) hkY h3
  have h : At U g.method c below := by rw [hg]; exact X.here
  have hlocals9 : W9 + (maxL + 11) + (headSpec ws rm).room.locals ≤ R.locals := hlocals
  have happ : (headSpec ws rm).appliesLoose y e.platform (U.calling g mk a) = true :=
    Spec.appliesLoose_calling (g := g) h hdg hn hkY hinitY
      (X.room_calling (g := g) (R' := (headSpec ws rm).room) hsize hmY hcY hframes (by rw [hlY]; omega) h4 h5) h1
  obtain ⟨mid, hmid⟩ := h.above
  have hfr : (U.setTop g).frames = (.java g :: mid) ++ below := by rw [State.frames_setTop' g h.top, hmid]; rfl
  obtain ⟨o, s₂, hsteps, -, hend, hq⟩ := Steps.callFree hM p X.admits X.cas X.clock (acts := []) hfr happ hPc trivial
  have hq' : vx_Q Qc XC mc ms free a (U.calling g mk a) o s₂ := hq
  rw [State.frames_setTop' g h.top] at hend
  obtain ⟨g₀, hg0⟩ := Option.isSome_iff_exists.mp h.top
  obtain ⟨r, hr⟩ := State.topJava?_eq_some.mp hg0
  have hr' : (({ U with heap := s₂.heap, slotsUsed := s₂.slotsUsed } : State).setVm s₂.vm).frames = .java g₀ :: r := hr
  rcases hq' with ⟨hqc, L, hfe, hL⟩ | ⟨q, rfl, E, ce, L, hx, hce, hcv, hcl, hW₂, hsm, hL⟩
  · obtain ⟨⟨v, rfl⟩, hW₂, e2, q2, q3, q4, q5, q6⟩ := id hfe
    have e3 : s₂ = ({ (U.calling g mk a).setFrames s₂.frames with heap := s₂.heap, slotsUsed := s₂.slotsUsed } : State).setVm s₂.vm := by
      have : s₂ = ({ s₂ with vm := (U.calling g mk a).vm } : State).setVm s₂.vm := rfl
      rw [e2] at this
      exact this
    obtain ⟨c₂, i₂, len₂, hc₂, hd₂, hf₂⟩ := hend
    have hW' : U.WarmedH s₂.vm := hW₂
    have hcc : c₂ = c := by
      have h1 : s₂.code? g.method = U.code? g.method := by
        rw [State.code?_eq, State.code?_eq, hW'.alike.method?]
      exact Option.some.inj (hc₂.symm.trans (h1.trans h.code))
    subst hcc
    have hlen : len₂ = len := by rw [hdg] at hd₂; cases hd₂; rfl
    subst hlen
    have hs₂ : s₂ = (({ U with heap := s₂.heap, slotsUsed := s₂.slotsUsed } : State).setVm s₂.vm).setTop { g with pc := g.pc + len₂, stack := v.toList ++ g.stack } := by
      refine e3.trans ?_
      rw [hf₂, State.calling_eq h.top, State.setFrames_setFrames, State.setTop_of_frames _ hr', hr]
      rfl
    have hsame : U.sameButNew ({ U with heap := s₂.heap, slotsUsed := s₂.slotsUsed } : State) L mc ms := by
      refine ⟨?_, q2, q3, q4, q5, q6⟩
      obtain ⟨t, ht, -⟩ := State.frames_cons hr
      show ({ U with heap := s₂.heap, slotsUsed := s₂.slotsUsed } : State) = { U.setFrames U.frames with heap := s₂.heap, slotsUsed := s₂.slotsUsed }
      rw [State.setFrames_self ht]
    subst hg
    refine Or.inl ⟨v, ⟨(({ U with heap := s₂.heap, slotsUsed := s₂.slotsUsed } : State).setVm s₂.vm), Ls ++ L, c0 + mc, s0 + ms⟩,
      ⟨X.admits, X.cas, X.clock, X.frames, X.room, X.hears, X.method, X.code, (X.here.setHeapUsed s₂.heap s₂.slotsUsed).setVm hW'.alike, X.tail, State.WarmedH.trans X.warmed hW', X.limits, X.bytes, X.same.trans (hsame.setVm s.vm)⟩,
      ⟨g, mk, s₂, L, rfl, rfl, hqc, rfl, hL, rfl, rfl⟩, ?_⟩
    show Steps p.tables e below _ ((({ U with heap := s₂.heap, slotsUsed := s₂.slotsUsed } : State).setVm s₂.vm).setTop { g with pc := g.pc + len₂, stack := v.toList ++ g.stack })
    rw [← hs₂]
    exact hsteps
  · obtain ⟨e2, q2, q3, q4, q5, q6⟩ := id hsm
    have e3 : s₂ = ({ (U.calling g mk a).setFrames s₂.frames with heap := s₂.heap, slotsUsed := s₂.slotsUsed } : State).setVm s₂.vm := by
      have : s₂ = ({ s₂ with vm := (U.calling g mk a).vm } : State).setVm s₂.vm := rfl
      rw [e2] at this
      exact this
    have hf₂ : s₂.frames = .throwing q :: .java g :: U.frames.tail := hend
    have hW' : U.WarmedH s₂.vm := hW₂
    have hs₂ : s₂ = ((({ U with heap := s₂.heap, slotsUsed := s₂.slotsUsed } : State).setVm s₂.vm).setTop g).pushFrame (.throwing q) := by
      refine e3.trans ?_
      rw [hf₂, State.calling_eq h.top, State.setFrames_setFrames, State.pushFrame, State.frames_setTop _ hr', State.setTop_of_frames _ hr', State.setFrames_setFrames, hr]
      rfl
    have hsame : U.sameButNew ({ U with heap := s₂.heap, slotsUsed := s₂.slotsUsed } : State) L mc ms := by
      refine ⟨?_, q2, q3, q4, q5, q6⟩
      obtain ⟨t, ht, -⟩ := State.frames_cons hr
      show ({ U with heap := s₂.heap, slotsUsed := s₂.slotsUsed } : State) = { U.setFrames U.frames with heap := s₂.heap, slotsUsed := s₂.slotsUsed }
      rw [State.setFrames_self ht]
    subst hg
    refine Or.inr ⟨q, ⟨(({ U with heap := s₂.heap, slotsUsed := s₂.slotsUsed } : State).setVm s₂.vm), Ls ++ L, c0 + mc, s0 + ms⟩,
      ⟨X.admits, X.cas, X.clock, X.frames, X.room, X.hears, X.method, X.code, (X.here.setHeapUsed s₂.heap s₂.slotsUsed).setVm hW'.alike, X.tail, State.WarmedH.trans X.warmed hW', X.limits, X.bytes, X.same.trans (hsame.setVm s.vm)⟩,
      ⟨g, mk, s₂, L, E, ce, rfl, rfl, hx, hce, hcv, hcl, rfl, hL, rfl, rfl⟩, ?_⟩
    show Steps p.tables e below _ (((({ U with heap := s₂.heap, slotsUsed := s₂.slotsUsed } : State).setVm s₂.vm).setTop g).pushFrame (.throwing q))
    rw [← hs₂]
    exact hsteps
end
variable {p : Program} {l : Launch} {e : Env} {R : Room} {s : State} {m : MethodId} {args : Array Value} {below : List Frame} {meth : Method} {c : Code} {T : State} {H : Heap} {locs : List Loc} {cells slots : Nat}
theorem vx_callVX (X : Stand p l e R s m args below meth c T locs cells slots) (hexec : p.tables.exec = Jvm.exec) {own C : String} {index : Nat} {y : MethodName} {bytes : ByteArray} {maxL : Nat} {ret : Option FieldType} {hh : List (Nat × Nat × Nat × Nat)}
    (hown : s.vm.findClass own = some m.cls) (hlink : (Cond.methodLink own index y).before args s = true) (hinst : (Cond.instanceMethod y).before args s = true) (hsel : (Cond.selects C y y).before args s = true)
    (hcode : (Cond.codeWith y bytes maxL ret hh).before args s = true) (hy : y.cls ≠ "java/lang/invoke/MethodHandle" ∧ y.cls ≠ "java/lang/invoke/VarHandle")
    {W9 : Nat} {Pre : Pt → Array Value → Prop} {Post : Pt → Array Value → Option Value → Pt → Prop} {PostX : Pt → Array Value → Addr → Pt → Prop} (hK : vx_Back l R p e below s args y 3 W9 Pre Post PostX)
    {b : Addr} {cellB : Cell} (hcell : T.heap[b]? = some cellB) (hobj : cellB.vm.isStatics = false) (hcls : s.vm.findClass C = some cellB.cls)
    {g : JFrame} (hg : g.method = m) (hsize : g.locals.size = c.maxLocals) {argsL rest : List Value} (hlen : ∀ sig, parseMethodDescriptor y.desc = some sig → argsL.length = sig.parameters.length)
    (hstack : g.stack = argsL.reverse ++ .ref b :: rest) (hW : 2 * g.monitorRoom + (rest.map fun v => v.category).sum ≤ W9) (hdg : decode c.code g.pc = .ok (.invokevirtual index, 3))
    (hpre : ∀ vm₁, s.WarmedH vm₁ → Pre ⟨T.setVm vm₁, locs, cells, slots⟩ (Value.ref b :: argsL).toArray) :
    (∃ (v : Option Value) (vm₁ : Vm) (B : Pt), s.WarmedH vm₁ ∧ Stand p l e R s m args below meth c B.U B.locs B.cells B.slots ∧ Post ⟨T.setVm vm₁, locs, cells, slots⟩ (Value.ref b :: argsL).toArray v B ∧
      ∀ target, Steps p.tables e below (B.U.setTop { g with pc := g.pc + 3, stack := v.toList ++ rest }) target → Steps p.tables e below (T.setTop g) target) ∨
    (∃ (q : Addr) (vm₁ : Vm) (B : Pt), s.WarmedH vm₁ ∧ Stand p l e R s m args below meth c B.U B.locs B.cells B.slots ∧ PostX ⟨T.setVm vm₁, locs, cells, slots⟩ (Value.ref b :: argsL).toArray q B ∧
      Steps p.tables e below (T.setTop g) ((B.U.setTop { g with stack := rest }).pushFrame (.throwing q))) := by
  obtain ⟨mk, methM, hnamed, hmethM, hstM, habM⟩ := Cond.instanceMethod_spec hinst
  obtain ⟨m8, methM', cM, hn8, hmethM', -, -, -, -, -, -, hsigM⟩ := Cond.codeWith_spec hcode
  cases Option.some.inj (hn8.symm.trans hnamed)
  cases hmethM.symm.trans hmethM'
  obtain ⟨c2, r2, m2, q1, q2, q3, q4, kP, hkP, hkPi⟩ := Cond.selects_spec hsel
  cases hcls.symm.trans q1
  cases (State.methodFound?_of_named hnamed hy).symm.trans q2
  cases hnamed.symm.trans q3
  have hselP : selectMethod e.platform s.vm cellB.cls mk = .method mk := by rw [Launch.admits_selectMethod X.admits]; exact q4
  obtain ⟨vm₁, X₁, hstep₁⟩ := X.invokevirtual hexec hown hlink hnamed hmethM hstM hkP hkPi hy (a := b) (cell := cellB) hcell
    (fun z h => by rw [h] at hobj; cases hobj) hselP hmethM habM hkP hkPi (g := g) hg (argsL := argsL) (rest := rest) (hlen _ hsigM) hstack hdg
  rcases hK m meth c ⟨T.setVm vm₁, locs, cells, slots⟩ { g with stack := rest } (.invokevirtual index) mk (Value.ref b :: argsL).toArray X₁ hg hsize hdg hW (X₁.named hnamed) (hpre vm₁ X₁.warmed) with ⟨v, B, X', hpost, hsteps⟩ | ⟨q, B, X', hpost, hsteps⟩
  · exact Or.inl ⟨v, vm₁, B, X₁.warmed, X', hpost, fun target h => hstep₁ _ fun acts => by rw [doInvoke_state]; exact hsteps.trans h⟩
  · exact Or.inr ⟨q, vm₁, B, X₁.warmed, X', hpost, hstep₁ _ fun acts => by rw [doInvoke_state]; exact hsteps⟩
theorem vx_callSX (X : Stand p l e R s m args below meth c T locs cells slots) (hexec : p.tables.exec = Jvm.exec) {own : String} {index : Nat} {y : MethodName} {bytes : ByteArray} {maxL : Nat} {ret : Option FieldType} {hh : List (Nat × Nat × Nat × Nat)}
    (hown : s.vm.findClass own = some m.cls) (hlink : (Cond.methodLink own index y).before args s = true) (hstat : (Cond.static y).before args s = true) (hinit : (Cond.initialized y.cls).before args s = true)
    (hcode : (Cond.codeWith y bytes maxL ret hh).before args s = true) (hy : y.cls ≠ "java/lang/invoke/MethodHandle" ∧ y.cls ≠ "java/lang/invoke/VarHandle")
    {W9 : Nat} {Pre : Pt → Array Value → Prop} {Post : Pt → Array Value → Option Value → Pt → Prop} {PostX : Pt → Array Value → Addr → Pt → Prop} (hK : vx_Back l R p e below s args y 3 W9 Pre Post PostX)
    {g : JFrame} (hg : g.method = m) (hsize : g.locals.size = c.maxLocals) {argsL rest : List Value} (hlen : ∀ sig, parseMethodDescriptor y.desc = some sig → argsL.length = sig.parameters.length)
    (hstack : g.stack = argsL.reverse ++ rest) (hW : 2 * g.monitorRoom + (rest.map fun v => v.category).sum ≤ W9) (hdg : decode c.code g.pc = .ok (.invokestatic index, 3))
    (hpre : ∀ vm₁, s.WarmedH vm₁ → Pre ⟨T.setVm vm₁, locs, cells, slots⟩ argsL.toArray) :
    (∃ (v : Option Value) (vm₁ : Vm) (B : Pt), s.WarmedH vm₁ ∧ Stand p l e R s m args below meth c B.U B.locs B.cells B.slots ∧ Post ⟨T.setVm vm₁, locs, cells, slots⟩ argsL.toArray v B ∧
      ∀ target, Steps p.tables e below (B.U.setTop { g with pc := g.pc + 3, stack := v.toList ++ rest }) target → Steps p.tables e below (T.setTop g) target) ∨
    (∃ (q : Addr) (vm₁ : Vm) (B : Pt), s.WarmedH vm₁ ∧ Stand p l e R s m args below meth c B.U B.locs B.cells B.slots ∧ PostX ⟨T.setVm vm₁, locs, cells, slots⟩ argsL.toArray q B ∧
      Steps p.tables e below (T.setTop g) ((B.U.setTop { g with stack := rest }).pushFrame (.throwing q))) := by
  obtain ⟨mk, methM, cM, hnamed, hmethM, -, -, -, -, -, -, hsigM⟩ := Cond.codeWith_spec hcode
  have hstatic : methM.isStatic = true := Cond.static_spec hnamed hmethM hstat
  obtain ⟨kP, hkP, -⟩ := className_of_methodNamed hnamed
  have hinitP : kP.init = .initialized := Cond.initialized_spec (findClass_of_methodNamed hnamed) hkP hinit
  obtain ⟨vm₁, X₁, hstep₁⟩ := X.invokestatic hexec hown hlink hnamed hmethM hstatic hkP hinitP hy (g := g) hg (argsL := argsL) (rest := rest) (hlen _ hsigM) hstack hdg
  rcases hK m meth c ⟨T.setVm vm₁, locs, cells, slots⟩ { g with stack := rest } (.invokestatic index) mk argsL.toArray X₁ hg hsize hdg hW (X₁.named hnamed) (hpre vm₁ X₁.warmed) with ⟨v, B, X', hpost, hsteps⟩ | ⟨q, B, X', hpost, hsteps⟩
  · exact Or.inl ⟨v, vm₁, B, X₁.warmed, X', hpost, fun target h => hstep₁ _ fun acts => by rw [doInvoke_state]; exact hsteps.trans h⟩
  · exact Or.inr ⟨q, vm₁, B, X₁.warmed, X', hpost, hstep₁ _ fun acts => by rw [doInvoke_state]; exact hsteps⟩
theorem vx_callVW (X : Stand p l e R s m args below meth c T locs cells slots) (hexec : p.tables.exec = Jvm.exec) {own C : String} {index : Nat} {y : MethodName} {bytes : ByteArray} {maxL : Nat} {ret : Option FieldType} {hh : List (Nat × Nat × Nat × Nat)}
    (hown : s.vm.findClass own = some m.cls) (hlink : (Cond.methodLink own index y).before args s = true) (hinst : (Cond.instanceMethod y).before args s = true) (hsel : (Cond.selects C y y).before args s = true)
    (hcode : (Cond.codeWith y bytes maxL ret hh).before args s = true) (hy : y.cls ≠ "java/lang/invoke/MethodHandle" ∧ y.cls ≠ "java/lang/invoke/VarHandle")
    {W9 : Nat} {Pre : Pt → Array Value → Prop} {Post : Pt → Array Value → Option Value → Pt → Prop} (hK : Back l R p e below s args y 3 W9 Pre Post)
    {b : Addr} {cellB : Cell} (hcell : T.heap[b]? = some cellB) (hobj : cellB.vm.isStatics = false) (hcls : s.vm.findClass C = some cellB.cls)
    {g : JFrame} (hg : g.method = m) (hsize : g.locals.size = c.maxLocals) {argsL rest : List Value} (hlen : ∀ sig, parseMethodDescriptor y.desc = some sig → argsL.length = sig.parameters.length)
    (hstack : g.stack = argsL.reverse ++ .ref b :: rest) (hW : 2 * g.monitorRoom + (rest.map fun v => v.category).sum ≤ W9) (hdg : decode c.code g.pc = .ok (.invokevirtual index, 3))
    (hpre : ∀ vm₁, s.WarmedH vm₁ → Pre ⟨T.setVm vm₁, locs, cells, slots⟩ (Value.ref b :: argsL).toArray) :
    ∃ (v : Option Value) (vm₁ : Vm) (B : Pt), s.WarmedH vm₁ ∧ Stand p l e R s m args below meth c B.U B.locs B.cells B.slots ∧ Post ⟨T.setVm vm₁, locs, cells, slots⟩ (Value.ref b :: argsL).toArray v B ∧
      ∀ target, Steps p.tables e below (B.U.setTop { g with pc := g.pc + 3, stack := v.toList ++ rest }) target → Steps p.tables e below (T.setTop g) target := by
  obtain ⟨mk, methM, hnamed, hmethM, hstM, habM⟩ := Cond.instanceMethod_spec hinst
  obtain ⟨m8, methM', cM, hn8, hmethM', -, -, -, -, -, -, hsigM⟩ := Cond.codeWith_spec hcode
  cases Option.some.inj (hn8.symm.trans hnamed)
  cases hmethM.symm.trans hmethM'
  obtain ⟨c2, r2, m2, q1, q2, q3, q4, kP, hkP, hkPi⟩ := Cond.selects_spec hsel
  cases hcls.symm.trans q1
  cases (State.methodFound?_of_named hnamed hy).symm.trans q2
  cases hnamed.symm.trans q3
  have hselP : selectMethod e.platform s.vm cellB.cls mk = .method mk := by rw [Launch.admits_selectMethod X.admits]; exact q4
  obtain ⟨vm₁, X₁, hstep₁⟩ := X.invokevirtual hexec hown hlink hnamed hmethM hstM hkP hkPi hy (a := b) (cell := cellB) hcell
    (fun z h => by rw [h] at hobj; cases hobj) hselP hmethM habM hkP hkPi (g := g) hg (argsL := argsL) (rest := rest) (hlen _ hsigM) hstack hdg
  obtain ⟨v, B, X', hpost, hsteps⟩ := hK m meth c ⟨T.setVm vm₁, locs, cells, slots⟩ { g with stack := rest } (.invokevirtual index) mk (Value.ref b :: argsL).toArray X₁ hg hsize hdg hW (X₁.named hnamed) (hpre vm₁ X₁.warmed)
  exact ⟨v, vm₁, B, X₁.warmed, X', hpost, fun target h => hstep₁ _ fun acts => by rw [doInvoke_state]; exact hsteps.trans h⟩
abbrev vx_CVW (R : Room) (s : State) (args : Array Value) (own C : String) (index : Nat) (y : MethodName) (bytes : ByteArray) (maxL : Nat) (ret : Option FieldType) (hh : List (Nat × Nat × Nat × Nat)) (ws : List Cond) (rm : Room) (mc ms n : Nat) : Prop :=
  (rm.cells = mc ∧ rm.slots = ms ∧ rm.frames + 1 ≤ R.frames ∧ 8 + (maxL + 11) + rm.locals ≤ R.locals ∧ (∀ w ∈ ws, ∀ (a' : Array Value) (U : State), s.WarmedH U.vm → w.before a' U = true) ∧ Cond.codeWith y bytes maxL ret hh ∈ ws) ∧
  (Cond.codeWith y bytes maxL ret hh).before args s = true ∧ (Cond.initialized y.cls).before args s = true ∧ (y.cls ≠ "java/lang/invoke/MethodHandle" ∧ y.cls ≠ "java/lang/invoke/VarHandle") ∧
  (∀ sig, parseMethodDescriptor y.desc = some sig → n = sig.parameters.length) ∧ (Cond.methodLink own index y).before args s = true ∧ (Cond.instanceMethod y).before args s = true ∧ (Cond.selects C y y).before args s = true
theorem vx_cwVW {own C : String} {index maxL mc ms : Nat} {y : MethodName} {bytes : ByteArray} {ret : Option FieldType} {hh : List (Nat × Nat × Nat × Nat)} {Ts ws ws' : List Cond} {rm : Room} (n : Nat) (ht : ∀ w ∈ Ts, w.before args s = true) (hT : GoodIn Ts (wsV own index C y ws)) (hw : ws = Cond.codeWith y bytes maxL ret hh :: ws') (hrc : rm.cells = mc) (hrs : rm.slots = ms)
    (hd : y.cls = C ∧ y.cls ≠ "java/lang/invoke/MethodHandle" ∧ y.cls ≠ "java/lang/invoke/VarHandle" ∧ (parseMethodDescriptor y.desc).map (fun d => d.parameters.length) = some n) (hR : rm.frames + 1 ≤ R.frames ∧ 8 + (maxL + 11) + rm.locals ≤ R.locals) :
    vx_CVW R s args own C index y bytes maxL ret hh ws rm mc ms n := by
  obtain ⟨hC, hd⟩ := hd
  subst hC
  have ok : ∀ w ∈ wsV own index y.cls y ws, w.before args s = true := fun w h => ht w (hT w h).1
  have hG : GoodIn Ts ws := fun w h => hT w (by unfold wsV; exact List.mem_append_right _ h)
  have hc : Cond.codeWith y bytes maxL ret hh ∈ ws := by rw [hw]; exact List.mem_cons_self
  refine ⟨⟨hrc, hrs, hR.1, hR.2, pay_in ht hG, hc⟩, ht _ (hG _ hc).1, ok _ (by simp [wsV]), ⟨hd.1, hd.2.1⟩, fun sig h => ?_, ok _ (by simp [wsV]), ok _ (by simp [wsV]), ok _ (by simp [wsV])⟩
  have h2 := hd.2.2
  rw [h] at h2
  exact (Option.some.inj h2).symm
theorem vx_runVW {y : MethodName} {bytes cc : ByteArray} {maxL nL mc ms n index : Nat} {ret : Option FieldType} {hh : List (Nat × Nat × Nat × Nat)} {ws : List Cond} {rm : Room} {Pc : Array Value → State → Prop} {Qc : Array Value → State → Outcome → State → Prop} {free : Addr → Prop} {Ts : List Cond} {own C : String} {b : Addr} {As rest : List Value} {g : JFrame}
    (S : CallFix p m c cc nL s args Ts own) (hM : Met l y ws rm Pc Qc mc ms free) (cw : vx_CVW R s args own C index y bytes maxL ret hh ws rm mc ms n) (hp : PreV s H C b Pc As)
    (hg : g.method = m) (hn : As.length = n) (hsize : g.locals.size = nL) (hstack : g.stack = As.reverse ++ .ref b :: rest) (hW : 2 * g.monitorRoom + (rest.map fun v => v.category).sum ≤ 8) (hdg : decode cc g.pc = .ok (.invokevirtual index, 3)) (hf : cells + mc ≤ R.cells ∧ slots + ms ≤ R.slots) :
    va_Run p l e R s m args below meth c H locs cells slots mc ms g rest (Qc (Value.ref b :: As).toArray) free := by
  obtain ⟨⟨hrc, hrs, hfr, hlo, hws, hcw⟩, hcode, hini, hy, hlen, hl, hin, hse⟩ := cw
  have hK : Back l R p e below s args y 3 8 (PreOf R mc ms Pc) (PostOf Qc mc ms free) := va_backW (hh := hh) (bytes := bytes) (maxL := maxL) (ret := ret) hM hp.1 hrc hrs hfr hlo hws hcw (fun a' U hW => word_at hW (Or.inl (by first | rfl | simp [Cond.onTables, Cond.keeps, Cond.steady])) hini)
  obtain ⟨hx, hb, hml, ho, -⟩ := S
  obtain ⟨-, ⟨cellB, hcB, hoB, hclB⟩, hPc⟩ := hp
  intro T hT X
  obtain ⟨v, vm₁, ⟨U', l2, c2, s2⟩, hW₁, X', ⟨g', mk, t, L, e1, e2, hq, h1, hL, h2, h3⟩, st⟩ := vx_callVW X hx (C := C) (hh := hh) (bytes := bytes) (maxL := maxL) (ret := ret) ho hl hin hse hcode hy hK (by rw [hT]; exact hcB) hoB hclB hg (hsize.trans hml.symm) (argsL := As) (rest := rest) (fun sig h => hn.trans (hlen sig h)) hstack hW (by rw [hb]; exact hdg)
    (fun vm₁ hW₁ => ⟨hf.1, hf.2, hPc (T.setVm vm₁) hT hW₁⟩)
  dsimp only [Pt.U, Pt.locs, Pt.cells, Pt.slots] at X' e1 e2 h1 h2 h3 st
  subst h1; subst h2; subst h3
  exact ⟨v, (T.setVm vm₁).calling g' mk (Value.ref b :: As).toArray, t, U', L, hT, X', hL, e1, e2, hq, st⟩
section
variable {y : MethodName} {bytes cc : ByteArray} {maxL nL mc ms n index : Nat} {ret : Option FieldType} {ws : List Cond} {rm : Room} {Pc : Array Value → State → Prop} {Qc : Array Value → State → Outcome → State → Prop} {XC : String → State → State → Prop} {free : Addr → Prop} {Ts : List Cond} {own C : String} {b : Addr} {As rest : List Value} {g : JFrame}
theorem vx_runVX {hh : List (Nat × Nat × Nat × Nat)} (S : CallFix p m c cc nL s args Ts own) (hM : vx_Met l y ws rm Pc Qc XC mc ms free) (cw : vx_CVW R s args own C index y bytes maxL ret hh ws rm mc ms n) (hp : PreV s H C b Pc As)
    (hg : g.method = m) (hn : As.length = n) (hsize : g.locals.size = nL) (hstack : g.stack = As.reverse ++ .ref b :: rest) (hW : 2 * g.monitorRoom + (rest.map fun v => v.category).sum ≤ 8) (hdg : decode cc g.pc = .ok (.invokevirtual index, 3)) (hf : cells + mc ≤ R.cells ∧ slots + ms ≤ R.slots) :
    vx_Run p l e R s m args below meth c H locs cells slots mc ms g rest (Qc (Value.ref b :: As).toArray) XC free := by
  obtain ⟨⟨hrc, hrs, hfr, hlo, hws, hcw⟩, hcode, hini, hy, hlen, hl, hin, hse⟩ := cw
  have hK : vx_Back l R p e below s args y 3 8 (PreOf R mc ms Pc) (PostOf Qc mc ms free) (vx_Post XC mc ms free) := vx_backW (hh := hh) (bytes := bytes) (maxL := maxL) (ret := ret) hM hp.1 hrc hrs hfr hlo hws hcw (fun a' U hW => word_at hW (Or.inl (by first | rfl | simp [Cond.onTables, Cond.keeps, Cond.steady])) hini)
  obtain ⟨hx, hb, hml, ho, -⟩ := S
  obtain ⟨-, ⟨cellB, hcB, hoB, hclB⟩, hPc⟩ := hp
  intro T hT X
  rcases vx_callVX X hx (C := C) (hh := hh) (bytes := bytes) (maxL := maxL) (ret := ret) ho hl hin hse hcode hy hK (by rw [hT]; exact hcB) hoB hclB hg (hsize.trans hml.symm) (argsL := As) (rest := rest) (fun sig h => hn.trans (hlen sig h)) hstack hW (by rw [hb]; exact hdg)
    (fun vm₁ hW₁ => ⟨hf.1, hf.2, hPc (T.setVm vm₁) hT hW₁⟩) with ⟨v, vm₁, ⟨U', l2, c2, s2⟩, hW₁, X', ⟨g', mk, t, L, e1, e2, hq, h1, hL, h2, h3⟩, st⟩ | ⟨q, vm₁, ⟨U', l2, c2, s2⟩, hW₁, X', ⟨g', mk, t, L, E, ce, e1, e2, hq, hce, hcv, hcl, h1, hL, h2, h3⟩, st⟩
  · dsimp only [Pt.U, Pt.locs, Pt.cells, Pt.slots] at X' e1 e2 h1 h2 h3 st
    subst h1; subst h2; subst h3
    exact Or.inl ⟨v, (T.setVm vm₁).calling g' mk (Value.ref b :: As).toArray, t, U', L, hT, X', hL, e1, e2, hq, st⟩
  · dsimp only [Pt.U, Pt.locs, Pt.cells, Pt.slots] at X' e1 e2 h1 h2 h3 st hcl
    subst h1; subst h2; subst h3
    exact Or.inr ⟨q, (T.setVm vm₁).calling g' mk (Value.ref b :: As).toArray, t, U', L, E, ce, hT, X', hL, e1, e2, hq, hce, hcv, vx_cls hW₁ hcl, st⟩
theorem vx_runSX {hh : List (Nat × Nat × Nat × Nat)} (S : CallFix p m c cc nL s args Ts own) (hM : vx_Met l y ws rm Pc Qc XC mc ms free) (cw : vx_CSW R s args own index y bytes maxL ret hh ws rm mc ms n) (hp : PreS s H Pc As)
    (hg : g.method = m) (hn : As.length = n) (hsize : g.locals.size = nL) (hstack : g.stack = As.reverse ++ rest) (hW : 2 * g.monitorRoom + (rest.map fun v => v.category).sum ≤ 8) (hdg : decode cc g.pc = .ok (.invokestatic index, 3)) (hf : cells + mc ≤ R.cells ∧ slots + ms ≤ R.slots) :
    vx_Run p l e R s m args below meth c H locs cells slots mc ms g rest (Qc As.toArray) XC free := by
  obtain ⟨⟨hrc, hrs, hfr, hlo, hws, hcw⟩, hcode, hini, hy, hlen, hl, hstt⟩ := cw
  have hK : vx_Back l R p e below s args y 3 8 (PreOf R mc ms Pc) (PostOf Qc mc ms free) (vx_Post XC mc ms free) := vx_backW (hh := hh) (bytes := bytes) (maxL := maxL) (ret := ret) hM hp.1 hrc hrs hfr hlo hws hcw (fun a' U hW => word_at hW (Or.inl (by first | rfl | simp [Cond.onTables, Cond.keeps, Cond.steady])) hini)
  obtain ⟨hx, hb, hml, ho, -⟩ := S
  intro T hT X
  rcases vx_callSX X hx (hh := hh) (bytes := bytes) (maxL := maxL) (ret := ret) ho hl hstt hini hcode hy hK hg (hsize.trans hml.symm) (argsL := As) (rest := rest) (fun sig h => hn.trans (hlen sig h)) hstack hW (by rw [hb]; exact hdg)
    (fun vm₁ hW₁ => ⟨hf.1, hf.2, hp.2 (T.setVm vm₁) hT hW₁⟩) with ⟨v, vm₁, ⟨U', l2, c2, s2⟩, hW₁, X', ⟨g', mk, t, L, e1, e2, hq, h1, hL, h2, h3⟩, st⟩ | ⟨q, vm₁, ⟨U', l2, c2, s2⟩, hW₁, X', ⟨g', mk, t, L, E, ce, e1, e2, hq, hce, hcv, hcl, h1, hL, h2, h3⟩, st⟩
  · dsimp only [Pt.U, Pt.locs, Pt.cells, Pt.slots] at X' e1 e2 h1 h2 h3 st
    subst h1; subst h2; subst h3
    exact Or.inl ⟨v, (T.setVm vm₁).calling g' mk As.toArray, t, U', L, hT, X', hL, e1, e2, hq, st⟩
  · dsimp only [Pt.U, Pt.locs, Pt.cells, Pt.slots] at X' e1 e2 h1 h2 h3 st hcl
    subst h1; subst h2; subst h3
    exact Or.inr ⟨q, (T.setVm vm₁).calling g' mk As.toArray, t, U', L, E, ce, hT, X', hL, e1, e2, hq, hce, hcv, vx_cls hW₁ hcl, st⟩
end
end VXH
theorem vx_ofWH {l : Launch} {y : MethodName} {ws ws' : List Cond} {rm : Room} {Pc : Array Value → State → Prop} {Qc : Array Value → State → Outcome → State → Prop} {XC : String → State → State → Prop} {mc ms : Nat} {free : Addr → Prop} {cc : ByteArray} {maxL : Nat} {ret : Option FieldType} {hh : List (Nat × Nat × Nat × Nat)}
    (hy : plainName y.cls = true) (hw : ws = Cond.codeWith y cc maxL ret hh :: ws')
    (body : ∀ p e s m args below meth c s₁, BodyLoose p l y (headSpec ws rm) cc maxL ret e s m args below meth c s₁ → c.maxLocals = maxL → Pc args s →
      W p l e (headSpec ws rm).room s m args below meth c s.heap [] 0 0 (vx_MQ below Qc XC args s mc ms free) (entryFrame m args maxL)) : vx_Met l y ws rm Pc Qc XC mc ms free := by
  refine MetFree.of_bodyS (code := cc) (maxLocals := maxL) (ret := ret) hy ?_ ?_
  · intro args s m h hn
    obtain ⟨m9, meth, c, hn9, h1, h2, h3, h4, -, h5, h6, -⟩ := Cond.codeWith_spec (atoms_spec (ws := ws) h _ (by rw [hw]; exact List.mem_cons_self))
    cases hn.symm.trans hn9
    exact ⟨meth, c, h1, h2, h3, h4, h5, h6⟩
  · intro p e s m args below meth c s₁ B hml hP _
    have hh0 : s₁.heap = s.heap := by rw [B.state]; rfl
    obtain ⟨t, a1, o, b1, b2, b3⟩ := body p e s m args below meth c s₁ B hml hP s₁ hh0 (Stand.of_body B)
    exact ⟨t, o, a1, b1, b2, b3⟩
/-! ===== END ===== -/
end
section
/-! A pure picture of the machine: cells, frames, and what an instruction asks of the states behind it. -/
/-- a cell: ints (kind of array first: 0 int, 2 boolean), longs, references (kind first), an object (class number, fields) -/
abbrev px_E : Type := (Nat × Nat × (Nat → Int32)) ⊕ (Nat × (Nat → Int64)) ⊕ (Nat × Nat × (Nat → Option Nat)) ⊕ (Nat × List Value)
abbrev px_i (n : Nat) (f : Nat → Int32) : px_E := .inl (0, n, f)
abbrev px_z (n : Nat) (f : Nat → Int32) : px_E := .inl (2, n, f)
abbrev px_j (n : Nat) (f : Nat → Int64) : px_E := .inr (.inl (n, f))
abbrev px_r (t n : Nat) (f : Nat → Option Nat) : px_E := .inr (.inr (.inl (t, n, f)))
abbrev px_o (ci : Nat) (fs : List Value) : px_E := .inr (.inr (.inr (ci, fs)))
abbrev px_P : Type := Nat → Option px_E
def px_up (C : px_P) (a : Nat) (e : px_E) : px_P := fun q => if q = a then some e else C q
theorem px_up_s (C : px_P) (a : Nat) (e : px_E) : px_up C a e a = some e := if_pos rfl
theorem px_up_n (C : px_P) {a q : Nat} (e : px_E) (h : q ≠ a) : px_up C a e q = C q := if_neg h
/-- pc, locals, stack, picture, cells made, slots made -/
abbrev px_S : Type := Nat × List (Nat × Value) × List Value × px_P × Nat × Nat
/-- name, class, bytes, locals, answer, instructions, pool, whether it reads the script, handlers, frames, words -/
abbrev px_M : Type := MethodName × String × ByteArray × Nat × Option FieldType × List (Nat × Instr × Nat) × List (Nat × Nat × Nat × Int) × Bool × List (Nat × Nat × Nat × Nat) × Nat × Nat
abbrev px_co (M : px_M) : List (Nat × Instr × Nat) := M.2.2.2.2.2.1
abbrev px_po (M : px_M) : List (Nat × Nat × Nat × Int) := M.2.2.2.2.2.2.1
abbrev px_fl (M : px_M) : Bool := M.2.2.2.2.2.2.2.1
abbrev px_hh (M : px_M) : List (Nat × Nat × Nat × Nat) := M.2.2.2.2.2.2.2.2.1
abbrev px_fr (M : px_M) : Nat := M.2.2.2.2.2.2.2.2.2.1
abbrev px_lo (M : px_M) : Nat := M.2.2.2.2.2.2.2.2.2.2
/-- the classes' own words: field types, defaults, class of an array's elements, number of kinds of arrays -/
abbrev px_L : Type := (Nat → Nat → FieldType) × (Nat → List Value) × (Nat → Nat) × Nat
def px_lk : List (Nat × Value) → Nat → Option Value
  | [], _ => none
  | (j, v) :: r, i => bif Nat.beq j i then some v else px_lk r i
def px_s1 (L : List (Nat × Value)) (i : Nat) (v : Value) : List (Nat × Value) := (i, v) :: L.filter (fun q => !(q.1 == i) && !(q.1 + 1 == i && q.2.category == 2))
def px_s2 (L : List (Nat × Value)) (i : Nat) (v : Value) : List (Nat × Value) := (i, v) :: L.filter (fun q => !(q.1 == i) && (!(q.1 == i + 1) && !(q.1 + 1 == i && q.2.category == 2)))
def px_ft : List (Nat × Instr × Nat) → Nat → Option Instr
  | [], _ => none
  | (j, v, _) :: r, i => bif Nat.beq j i then some v else px_ft r i
def px_pl : List (Nat × Nat × Nat × Int) → Nat → Option (Nat × Nat × Int)
  | [], _ => none
  | (j, v) :: r, i => bif Nat.beq j i then some v else px_pl r i
def px_ic (v : Int) : Int32 := match v with
  | .ofNat n => nI n
  | .negSucc n => - nI (n + 1)
def px_jc (v : Int) : Int64 := match v with
  | .ofNat n => lN n
  | .negSucc n => - lN (n + 1)
def px_tg (pc : Nat) (off : Int) : Nat := ((pc : Int) + off).toNat
def px_len (C : px_P) (nt a : Nat) : Option Nat := match C a with
  | some (.inl (0, n, _)) => some n
  | some (.inr (.inl (n, _))) => some n
  | some (.inr (.inr (.inl (t, n, _)))) => bif Nat.ble 3 t && Nat.blt t nt then some n else none
  | _ => none
def px_c0 (c : ClassFile.Cond) (x : Int32) (A B : Prop) : Prop := match c with
  | .eq => (x = 0 → A) ∧ (¬ x = 0 → B)
  | .ne => (¬ x = 0 → A) ∧ (x = 0 → B)
  | .lt => (x < 0 → A) ∧ (¬ x < 0 → B)
  | .ge => (0 ≤ x → A) ∧ (¬ 0 ≤ x → B)
  | .gt => (0 < x → A) ∧ (¬ 0 < x → B)
  | .le => (x ≤ 0 → A) ∧ (¬ x ≤ 0 → B)
def px_c2 (c : ClassFile.Cond) (x y : Int32) (A B : Prop) : Prop := match c with
  | .eq => (x = y → A) ∧ (¬ x = y → B)
  | .ne => (¬ x = y → A) ∧ (x = y → B)
  | .lt => (x < y → A) ∧ (¬ x < y → B)
  | .ge => (y ≤ x → A) ∧ (¬ y ≤ x → B)
  | .gt => (y < x → A) ∧ (¬ y < x → B)
  | .le => (x ≤ y → A) ∧ (¬ x ≤ y → B)
/-- a switch over a run of numbers, from 'lo' on -/
def px_sw (pc : Nat) (x : Int32) (G : Nat → Prop) (d : Int) : Nat → List Int → Prop
  | _, [] => G (px_tg pc d)
  | lo, o :: r => (x = nI lo → G (px_tg pc o)) ∧ (¬ x = nI lo → px_sw pc x G d (lo + 1) r)
def px_cat (st : List Value) : Nat := (st.map fun v => v.category).sum
abbrev px_Cal : Type := Nat → List Value → px_P → Nat → Nat → (Option Value → px_P → Prop) → (Nat → px_P → Prop) → Prop
def px_sc (sc : Option (Nat × Nat × (Nat → Int32))) (A : Prop) (f : Nat → Nat → (Nat → Int32) → Prop) : Prop := match sc with | none => A | some (b, M, xs) => f b M xs
/-- the pool's class at ix is that of the thrown kind kd -/
def px_isk (pool : List (Nat × Nat × Nat × Int)) (ix kd : Nat) : Bool := match px_pl pool ix with
  | some (k + 30, _, _) => Nat.beq k kd
  | _ => false
/-- the handler of what is thrown at pc -/
def px_hd (pool : List (Nat × Nat × Nat × Int)) (pc kd : Nat) (f : Nat → Prop) : List (Nat × Nat × Nat × Nat) → Prop
  | [] => False
  | (a, b, h, ix) :: r => bif Nat.ble a pc && Nat.blt pc b && px_isk pool ix kd then f h else px_hd pool pc kd f r
-- what stands in a local, on the stack, in the pool
def px_ai (o : Option Value) (f : Int32 → Prop) : Prop := match o with | some (.int x) => f x | _ => False
def px_aj (o : Option Value) (f : Int64 → Prop) : Prop := match o with | some (.long x) => f x | _ => False
def px_aa (o : Option Value) (f : Value → Prop) : Prop := match o with | some (.ref x) => f (.ref x) | some .null => f .null | _ => False
def px_si (st : List Value) (f : Int32 → List Value → Prop) : Prop := match st with | .int x :: r => f x r | _ => False
def px_sj (st : List Value) (f : Int64 → List Value → Prop) : Prop := match st with | .long x :: r => f x r | _ => False
def px_sr (st : List Value) (f : Nat → List Value → Prop) : Prop := match st with | .ref a :: r => f a r | _ => False
def px_sa (st : List Value) (f : Value → List Value → Prop) : Prop := match st with | .ref a :: r => f (.ref a) r | .null :: r => f .null r | _ => False
def px_sn (st : List Value) (f g : List Value → Prop) : Prop := match st with | .null :: r => f r | .ref _ :: r => g r | _ => False
def px_sv (st : List Value) (f : Value → List Value → Prop) : Prop := match st with | .int x :: r => f (.int x) r | .ref a :: r => f (.ref a) r | _ => False
def px_sii (st : List Value) (f : Int32 → Int32 → List Value → Prop) : Prop := match st with | .int y :: .int x :: r => f x y r | _ => False
def px_sjj (st : List Value) (f : Int64 → Int64 → List Value → Prop) : Prop := match st with | .long y :: .long x :: r => f x y r | _ => False
def px_sij (st : List Value) (f : Int64 → Int32 → List Value → Prop) : Prop := match st with | .int y :: .long x :: r => f x y r | _ => False
def px_sir (st : List Value) (f : Int32 → Nat → List Value → Prop) : Prop := match st with | .int x :: .ref a :: r => f x a r | _ => False
def px_siv (st : List Value) (f : Int32 → Value → List Value → Prop) : Prop := match st with | .int y :: .int x :: r => f y (.int x) r | .int y :: .ref x :: r => f y (.ref x) r | _ => False
def px_siir (st : List Value) (f : Int32 → Int32 → Nat → List Value → Prop) : Prop := match st with | .int v :: .int x :: .ref a :: r => f v x a r | _ => False
def px_sjir (st : List Value) (f : Int64 → Int32 → Nat → List Value → Prop) : Prop := match st with | .long v :: .int x :: .ref a :: r => f v x a r | _ => False
def px_srir (st : List Value) (f : Nat → Int32 → Nat → List Value → Prop) : Prop := match st with | .ref v :: .int x :: .ref a :: r => f v x a r | _ => False
def px_svr (st : List Value) (f : Value → Nat → List Value → Prop) : Prop := match st with | v :: .ref a :: r => f v a r | _ => False
def px_s1v (st : List Value) (f : Int32 → Prop) : Prop := match st with | [.int v] => f v | _ => False
def px_s1l (st : List Value) (f : Int64 → Prop) : Prop := match st with | [.long v] => f v | _ => False
def px_s1a (st : List Value) (f : Value → Prop) : Prop := match st with | [.ref a] => f (.ref a) | [.null] => f .null | _ => False
def px_s0 (st : List Value) (f : Prop) : Prop := match st with | [] => f | _ => False
def px_rt (ret : Option FieldType) (v : Int32) (f : Prop) : Prop := match ret with | some .int => f | some .boolean => (v = 0 ∨ v = 1) ∧ f | _ => False
def px_ra (ret : Option FieldType) (f : Prop) : Prop := match ret with | some (.object _) => f | some (.array _) => f | _ => False
def px_rl (ret : Option FieldType) (f : Prop) : Prop := match ret with | some .long => f | _ => False
def px_rv (ret : Option FieldType) (f : Prop) : Prop := match ret with | none => f | _ => False
def px_pf (o : Option (Nat × Nat × Int)) (f : Nat → Nat → Prop) : Prop := match o with | some (0, ci, kf) => f ci kf.toNat | _ => False
def px_pn (o : Option (Nat × Nat × Int)) (f g : Nat → Nat → Prop) : Prop := match o with | some (2, ci, N) => f ci N.toNat | some (8, kd, N) => g kd N.toNat | _ => False
def px_pa (o : Option (Nat × Nat × Int)) (f : Nat → Prop) : Prop := match o with | some (3, t, _) => f t | _ => False
def px_pc (o : Option (Nat × Nat × Int)) (f : Int → Prop) : Prop := match o with | some (4, _, v) => f v | _ => False
def px_pj (o : Option (Nat × Nat × Int)) (f : Int → Prop) : Prop := match o with | some (9, _, v) => f v | _ => False
def px_ps (o : Option (Nat × Nat × Int)) (A : Prop) (f : Nat → Nat → Prop) : Prop := match o with | some (6, _, _) => A | some (1, j, np) => f j np.toNat | _ => False
def px_pv (o : Option (Nat × Nat × Int)) (f g : Nat → Nat → Nat → Prop) : Prop := match o with | some (_ + 30, _, _) => False | some (t + 20, j, np) => g t j np.toNat | some (t + 10, j, np) => f t j np.toNat | _ => False
def px_pt (o : Option (Nat × Nat × Int)) (A B : Prop) (f : Nat → Nat → Prop) : Prop := match o with | some (7, 0, _) => A | some (7, 1, _) => B | some (5, j, np) => f j np.toNat | _ => False
def px_at (t : ArrayType) (A B Z : Prop) : Prop := match t with | .int => A | .long => B | .boolean => Z | _ => False
/-- a call: what its callee must do, and how it goes on -/
def px_cl (cal : px_Cal) (mc ms k n j : Nat) (av rest : List Value) (C : px_P) (X : List Value → px_P → Nat → Nat → Prop) : Prop :=
  ∃ mc' ms' Po', k + mc' ≤ mc ∧ n + ms' ≤ ms ∧ px_cat rest ≤ 8 ∧ cal j av C mc' ms' Po' (fun _ _ => False) ∧ ∀ v C', Po' v C' → X (v.toList ++ rest) C' (k + mc') (n + ms')
/-- a call whose callee may throw -/
def px_ct (cal : px_Cal) (mc ms k n j : Nat) (av rest : List Value) (C : px_P) (pool : List (Nat × Nat × Nat × Int)) (hh : List (Nat × Nat × Nat × Nat)) (pc : Nat) (X : List Value → px_P → Nat → Nat → Prop) (Z : Nat → List Value → px_P → Nat → Nat → Prop) : Prop :=
  ∃ mc' ms' Po' Pt', k + mc' ≤ mc ∧ n + ms' ≤ ms ∧ px_cat rest ≤ 8 ∧ cal j av C mc' ms' Po' Pt' ∧ (∀ v C', Po' v C' → X (v.toList ++ rest) C' (k + mc') (n + ms')) ∧ ∀ kd C' q, Pt' kd C' → px_hd pool pc kd (fun h => Z h [.ref q] C' (k + mc') (n + ms')) hh
/-- what one instruction asks, so that the states behind it lie in X -/
def px_I (cal : px_Cal) (Y : px_L) (B mc ms : Nat) (sc : Option (Nat × Nat × (Nat → Int32))) (ret : Option FieldType) (pool : List (Nat × Nat × Nat × Int)) (hh : List (Nat × Nat × Nat × Nat)) (Po : Option Value → px_P → Prop) (Pt : Nat → px_P → Prop) (X : px_S → Prop)
    (i : Instr) (pc : Nat) (L : List (Nat × Value)) (st : List Value) (C : px_P) (k n : Nat) : Prop :=
  match i with
  | .aconst_null => X (pc + 1, L, .null :: st, C, k, n)
  | .iconst v => X (pc + 1, L, .int (px_ic v) :: st, C, k, n)
  | .bipush v => X (pc + 2, L, .int (px_ic v) :: st, C, k, n)
  | .sipush v => X (pc + 3, L, .int (px_ic v) :: st, C, k, n)
  | .lconst v => X (pc + 1, L, .long (lN v.val) :: st, C, k, n)
  | .ldc2_w idx => px_pj (px_pl pool idx) fun v => X (pc + 3, L, .long (px_jc v) :: st, C, k, n)
  | .ldc idx => px_pc (px_pl pool idx) fun v => X (pc + 2, L, .int (px_ic v) :: st, C, k, n)
  | .iload a => px_ai (px_lk L a) fun x => X (pc + 2, L, .int x :: st, C, k, n)
  | .iload_n a => px_ai (px_lk L a.val) fun x => X (pc + 1, L, .int x :: st, C, k, n)
  | .lload a => px_aj (px_lk L a) fun x => X (pc + 2, L, .long x :: st, C, k, n)
  | .lload_n a => px_aj (px_lk L a.val) fun x => X (pc + 1, L, .long x :: st, C, k, n)
  | .aload a => px_aa (px_lk L a) fun x => X (pc + 2, L, x :: st, C, k, n)
  | .aload_n a => px_aa (px_lk L a.val) fun x => X (pc + 1, L, x :: st, C, k, n)
  | .istore a => px_si st fun x r => X (pc + 2, px_s1 L a (.int x), r, C, k, n)
  | .istore_n a => px_si st fun x r => X (pc + 1, px_s1 L a.val (.int x), r, C, k, n)
  | .lstore a => px_sj st fun x r => X (pc + 2, px_s2 L a (.long x), r, C, k, n)
  | .lstore_n a => px_sj st fun x r => X (pc + 1, px_s2 L a.val (.long x), r, C, k, n)
  | .astore a => px_sa st fun x r => X (pc + 2, px_s1 L a x, r, C, k, n)
  | .astore_n a => px_sa st fun x r => X (pc + 1, px_s1 L a.val x, r, C, k, n)
  | .iinc a v => px_ai (px_lk L a) fun x => X (pc + 3, px_s1 L a (.int (x + px_ic v)), st, C, k, n)
  | .iadd => px_sii st fun x y r => X (pc + 1, L, .int (x + y) :: r, C, k, n)
  | .isub => px_sii st fun x y r => X (pc + 1, L, .int (x - y) :: r, C, k, n)
  | .imul => px_sii st fun x y r => X (pc + 1, L, .int (x * y) :: r, C, k, n)
  | .iand => px_sii st fun x y r => X (pc + 1, L, .int (x &&& y) :: r, C, k, n)
  | .ior => px_sii st fun x y r => X (pc + 1, L, .int (x ||| y) :: r, C, k, n)
  | .ixor => px_sii st fun x y r => X (pc + 1, L, .int (x ^^^ y) :: r, C, k, n)
  | .ishl => px_sii st fun x y r => X (pc + 1, L, .int (x <<< (y &&& 31)) :: r, C, k, n)
  | .ishr => px_sii st fun x y r => X (pc + 1, L, .int (x >>> (y &&& 31)) :: r, C, k, n)
  | .iushr => px_sii st fun x y r => X (pc + 1, L, .int ((x.toUInt32 >>> (y.toUInt32 &&& Int32.toUInt32 31)).toInt32) :: r, C, k, n)
  | .idiv => px_sii st fun x y r => ¬ y = 0 ∧ X (pc + 1, L, .int (x / y) :: r, C, k, n)
  | .irem => px_sii st fun x y r => ¬ y = 0 ∧ X (pc + 1, L, .int (x - x / y * y) :: r, C, k, n)
  | .ineg => px_si st fun x r => X (pc + 1, L, .int (-x) :: r, C, k, n)
  | .ladd => px_sjj st fun x y r => X (pc + 1, L, .long (x + y) :: r, C, k, n)
  | .lsub => px_sjj st fun x y r => X (pc + 1, L, .long (x - y) :: r, C, k, n)
  | .lmul => px_sjj st fun x y r => X (pc + 1, L, .long (x * y) :: r, C, k, n)
  | .land => px_sjj st fun x y r => X (pc + 1, L, .long (x &&& y) :: r, C, k, n)
  | .lor => px_sjj st fun x y r => X (pc + 1, L, .long (x ||| y) :: r, C, k, n)
  | .lxor => px_sjj st fun x y r => X (pc + 1, L, .long (x ^^^ y) :: r, C, k, n)
  | .lshl => px_sij st fun x y r => X (pc + 1, L, .long (x <<< (y.toInt64 &&& 63)) :: r, C, k, n)
  | .lshr => px_sij st fun x y r => X (pc + 1, L, .long (x >>> (y.toInt64 &&& 63)) :: r, C, k, n)
  | .lushr => px_sij st fun x y r => X (pc + 1, L, .long ((x.toUInt64 >>> (y.toInt64.toUInt64 &&& Int64.toUInt64 63)).toInt64) :: r, C, k, n)
  | .i2l => px_si st fun x r => X (pc + 1, L, .long x.toInt64 :: r, C, k, n)
  | .l2i => px_sj st fun x r => X (pc + 1, L, .int x.toInt32 :: r, C, k, n)
  | .lcmp => px_sjj st fun x y r => X (pc + 1, L, .int (lg_cmp x y) :: r, C, k, n)
  | .dup => px_sv st fun x r => X (pc + 1, L, x :: x :: r, C, k, n)
  | .dup2 => px_siv st fun y x r => X (pc + 1, L, .int y :: x :: .int y :: x :: r, C, k, n)
  | .dup_x1 => px_siv st fun y x r => X (pc + 1, L, .int y :: x :: .int y :: r, C, k, n)
  | .pop => px_sv st fun _ r => X (pc + 1, L, r, C, k, n)
  | .ifCond c off => px_si st fun x r => px_c0 c x (X (px_tg pc off, L, r, C, k, n)) (X (pc + 3, L, r, C, k, n))
  | .if_icmp c off => px_sii st fun x y r => px_c2 c x y (X (px_tg pc off, L, r, C, k, n)) (X (pc + 3, L, r, C, k, n))
  | .ifnull off => px_sn st (fun r => X (px_tg pc off, L, r, C, k, n)) (fun r => X (pc + 3, L, r, C, k, n))
  | .ifnonnull off => px_sn st (fun r => X (pc + 3, L, r, C, k, n)) (fun r => X (px_tg pc off, L, r, C, k, n))
  | .goto off => X (px_tg pc off, L, st, C, k, n)
  | .tableswitch d lo _ offs => px_si st fun x r => px_sw pc x (fun t => X (t, L, r, C, k, n)) d lo.toNat offs.toList
  | .getfield idx => px_pf (px_pl pool idx) fun ci kf => px_sr st fun a r => ∃ fs v, C a = some (px_o ci fs) ∧ fs[kf]? = some v ∧ X (pc + 3, L, v :: r, C, k, n)
  | .putfield idx => px_pf (px_pl pool idx) fun ci kf => px_svr st fun v a r => ∃ fs, C a = some (px_o ci fs) ∧ kf < fs.length ∧ narrow (Y.1 ci kf) v = v ∧ fits (Y.1 ci kf) v = true ∧ X (pc + 3, L, r, px_up C a (px_o ci (fs.set kf v)), k, n)
  | .iaload => px_sir st fun x a r => px_sc sc (∃ m f, C a = some (px_i m f) ∧ vp_in x m ∧ X (pc + 1, L, .int (f x.toNatClampNeg) :: r, C, k, n)) (fun b M xs => a = b ∧ vp_in x M ∧ X (pc + 1, L, .int (xs x.toNatClampNeg) :: r, C, k, n))
  | .iastore => px_siir st fun v x a r => ∃ m f, C a = some (px_i m f) ∧ vp_in x m ∧ X (pc + 1, L, r, px_up C a (px_i m (upd f x.toNatClampNeg v)), k, n)
  | .baload => px_sir st fun x a r => ∃ m f, C a = some (px_z m f) ∧ vp_in x m ∧ X (pc + 1, L, .int (f x.toNatClampNeg) :: r, C, k, n)
  | .bastore => px_siir st fun v x a r => ∃ m f, C a = some (px_z m f) ∧ vp_in x m ∧ X (pc + 1, L, r, px_up C a (px_z m (upd f x.toNatClampNeg (vp_nar .boolean v))), k, n)
  | .laload => px_sir st fun x a r => ∃ m f, C a = some (px_j m f) ∧ vp_in x m ∧ X (pc + 1, L, .long (f x.toNatClampNeg) :: r, C, k, n)
  | .lastore => px_sjir st fun v x a r => ∃ m f, C a = some (px_j m f) ∧ vp_in x m ∧ X (pc + 1, L, r, px_up C a (px_j m (vp_updL f x.toNatClampNeg v)), k, n)
  | .aaload => px_sir st fun x a r => ∃ t m f, C a = some (px_r t m f) ∧ (3 ≤ t ∧ t < Y.2.2.2) ∧ vp_in x m ∧ X (pc + 1, L, va_rf (f x.toNatClampNeg) :: r, C, k, n)
  | .aastore => px_srir st fun v x a r => ∃ t m f vs, C a = some (px_r t m f) ∧ (3 ≤ t ∧ t < Y.2.2.2) ∧ vp_in x m ∧ C v = some (px_o (Y.2.2.1 t) vs) ∧ X (pc + 1, L, r, px_up C a (px_r t m (va_up f x.toNatClampNeg (some v))), k, n)
  | .arraylength => px_sr st fun a r => px_sc sc (∃ m, px_len C Y.2.2.2 a = some m ∧ X (pc + 1, L, .int (nI m) :: r, C, k, n)) (fun b M _ => a = b ∧ X (pc + 1, L, .int (nI M) :: r, C, k, n))
  | .new idx => px_pn (px_pl pool idx) (fun ci N => k + 1 ≤ mc ∧ n + N ≤ ms ∧ ∀ q, C q = none → B ≤ q → X (pc + 3, L, .ref q :: st, px_up C q (px_o ci (Y.2.1 ci)), k + 1, n + N)) (fun kd _ => k + 1 ≤ mc ∧ n + 6 ≤ ms ∧ st = [] ∧ Pt kd C)
  | .newarray ty => px_si st fun x r => ¬ x < 0 ∧ x.toNatClampNeg ≤ 65536 ∧ k + 1 ≤ mc ∧ n + x.toNatClampNeg ≤ ms ∧ px_at ty (∀ q, C q = none → B ≤ q → X (pc + 2, L, .ref q :: r, px_up C q (px_i x.toNatClampNeg (fun _ => 0)), k + 1, n + x.toNatClampNeg)) (∀ q, C q = none → B ≤ q → X (pc + 2, L, .ref q :: r, px_up C q (px_j x.toNatClampNeg (fun _ => 0)), k + 1, n + x.toNatClampNeg)) (∀ q, C q = none → B ≤ q → X (pc + 2, L, .ref q :: r, px_up C q (px_z x.toNatClampNeg (fun _ => 0)), k + 1, n + x.toNatClampNeg))
  | .anewarray idx => px_pa (px_pl pool (idx + 65536)) fun t => px_si st fun x r => ¬ x < 0 ∧ x.toNatClampNeg ≤ 65536 ∧ k + 1 ≤ mc ∧ n + x.toNatClampNeg ≤ ms ∧ ∀ q, C q = none → B ≤ q → X (pc + 3, L, .ref q :: r, px_up C q (px_r t x.toNatClampNeg (fun _ => none)), k + 1, n + x.toNatClampNeg)
  | .invokespecial idx => px_ps (px_pl pool idx) (px_sr st fun _ r => px_cat r ≤ 8 ∧ X (pc + 3, L, r, C, k, n)) (fun j np => px_sr (st.drop np) fun b r => px_cl cal mc ms k n j (.ref b :: (st.take np).reverse) r C fun st' C' k' n' => X (pc + 3, L, st', C', k', n'))
  | .invokevirtual idx => px_pv (px_pl pool idx) (fun ci j np => px_sr (st.drop np) fun b r => ∃ fs, C b = some (px_o ci fs) ∧ px_cl cal mc ms k n j (.ref b :: (st.take np).reverse) r C fun st' C' k' n' => X (pc + 3, L, st', C', k', n')) (fun ci j np => px_sr (st.drop np) fun b r => ∃ fs, C b = some (px_o ci fs) ∧ px_ct cal mc ms k n j (.ref b :: (st.take np).reverse) r C pool hh pc (fun st' C' k' n' => X (pc + 3, L, st', C', k', n')) (fun h st' C' k' n' => X (h, L, st', C', k', n')))
  | .invokestatic idx => px_pt (px_pl pool idx) (px_sii st fun x y r => px_cat r ≤ 8 ∧ X (pc + 3, L, .int (if x < y then y else x) :: r, C, k, n)) (px_sii st fun x y r => px_cat r ≤ 8 ∧ X (pc + 3, L, .int (if y < x then y else x) :: r, C, k, n)) (fun j np => np ≤ st.length ∧ px_cl cal mc ms k n j (st.take np).reverse (st.drop np) C fun st' C' k' n' => X (pc + 3, L, st', C', k', n'))
  | .ireturn => px_s1v st fun v => px_rt ret v (Po (some (.int v)) C)
  | .lreturn => px_s1l st fun v => px_rl ret (Po (some (.long v)) C)
  | .areturn => px_s1a st fun v => px_ra ret (Po (some v) C)
  | .return_ => px_s0 st (px_rv ret (Po none C))
  | _ => False
end
section
/-! The machine does what the pure picture says. -/
def px_T (cal : px_Cal) (Y : px_L) (B mc ms : Nat) (sc : Option (Nat × Nat × (Nat → Int32))) (M : px_M) (Po : Option Value → px_P → Prop) (Pt : Nat → px_P → Prop) (X : px_S → Prop) (s : px_S) : Prop :=
  match px_ft (px_co M) s.1 with
  | some i => px_I cal Y B mc ms sc M.2.2.2.2.1 (px_po M) (px_hh M) Po Pt X i s.1 s.2.1 s.2.2.1 s.2.2.2.1 s.2.2.2.2.1 s.2.2.2.2.2
  | none => False
/-- fewer locals, in any order -/
def px_sub (L : List (Nat × Value)) : List (Nat × Value) → Prop
  | [] => True
  | q :: r => px_lk L q.1 = some q.2 ∧ px_sub L r
def px_wk (X : px_S → Prop) : Prop := ∀ (pc : Nat) (L L' : List (Nat × Value)) (st : List Value) (C : px_P) (k n : Nat), px_sub L L' → X (pc, L', st, C, k, n) → X (pc, L, st, C, k, n)
/-- a method's body, run from its entry, comes to its end with Po (returned) or Pt (thrown): d calls deep, at most mc cells of ms slots new -/
def px_W (Y : px_L) (P : List px_M) (B : Nat) (sc : Option (Nat × Nat × (Nat → Int32))) : Nat → px_Cal
  | 0 => fun _ _ _ _ _ _ _ => False
  | d + 1 => fun j av C mc ms Po Pt => ∃ M, P[j]? = some M ∧ (lg_sl av).length ≤ M.2.2.2.1 ∧ ∀ X : px_S → Prop, px_wk X →
      (∀ s, px_T (px_W Y P B sc d) Y B mc ms (bif px_fl M then sc else none) M Po Pt X s → X s) → X (0, lv_args 0 av, [], C, 0, 0)
theorem px_lk_mem {L : List (Nat × Value)} {i : Nat} {v : Value} (h : px_lk L i = some v) : (i, v) ∈ L := by
  induction L with
  | nil => cases h
  | cons q r ih =>
    obtain ⟨j, w⟩ := q
    have h2 : cond (Nat.beq j i) (some w) (px_lk r i) = some v := h
    cases hb : Nat.beq j i with
    | true =>
      rw [hb] at h2
      have e1 : w = v := Option.some.inj h2
      have e2 : j = i := Nat.eq_of_beq_eq_true hb
      rw [e1, e2]
      exact List.mem_cons_self
    | false =>
      rw [hb] at h2
      exact List.mem_cons_of_mem _ (ih h2)
theorem px_lk_at {ls : Array Slot} {nL : Nat} {L : List (Nat × Value)} {i : Nat} {v : Value} (h : lv_has ls nL L) (hv : px_lk L i = some v) : ls[i]? = some (.val v) := h.2.2 _ (px_lk_mem hv)
theorem px_sub_mem {L : List (Nat × Value)} : ∀ {L' : List (Nat × Value)}, px_sub L L' → ∀ q ∈ L', px_lk L q.1 = some q.2
  | [], _, q, hq => nomatch hq
  | x :: r, h, q, hq => by
    have h2 : px_lk L x.1 = some x.2 ∧ px_sub L r := h
    rcases List.mem_cons.mp hq with rfl | hq
    · exact h2.1
    · exact px_sub_mem h2.2 q hq
theorem px_sub_has {ls : Array Slot} {nL : Nat} {L L' : List (Nat × Value)} (h : lv_has ls nL L) (hs : px_sub L L') : lv_has ls nL L' := ⟨h.1, h.2.1, fun q hq => px_lk_at h (px_sub_mem hs q hq)⟩
theorem px_ft_mem {l : List (Nat × Instr × Nat)} {pc : Nat} {i : Instr} (h : px_ft l pc = some i) : ∃ len, (pc, i, len) ∈ l := by
  induction l with
  | nil => cases h
  | cons q r ih =>
    obtain ⟨j, w, n⟩ := q
    have h2 : cond (Nat.beq j pc) (some w) (px_ft r pc) = some i := h
    cases hb : Nat.beq j pc with
    | true =>
      rw [hb] at h2
      have e1 : w = i := Option.some.inj h2
      have e2 : j = pc := Nat.eq_of_beq_eq_true hb
      rw [e1, e2]
      exact ⟨n, List.mem_cons_self⟩
    | false =>
      rw [hb] at h2
      obtain ⟨n2, h3⟩ := ih h2
      exact ⟨n2, List.mem_cons_of_mem _ h3⟩
theorem px_pl_mem {l : List (Nat × Nat × Nat × Int)} {i : Nat} {v : Nat × Nat × Int} (h : px_pl l i = some v) : (i, v) ∈ l := by
  induction l with
  | nil => cases h
  | cons q r ih =>
    obtain ⟨j, w⟩ := q
    have h2 : cond (Nat.beq j i) (some w) (px_pl r i) = some v := h
    cases hb : Nat.beq j i with
    | true =>
      rw [hb] at h2
      have e1 : w = v := Option.some.inj h2
      have e2 : j = i := Nat.eq_of_beq_eq_true hb
      rw [e1, e2]
      exact List.mem_cons_self
    | false =>
      rw [hb] at h2
      exact List.mem_cons_of_mem _ (ih h2)
-- pictures and heaps
def px_to (T : Nat → ClassId) (e : px_E) : va_E := match e with
  | .inl (t, n, f) => .inl (T t, n, .inl f)
  | .inr (.inl (n, f)) => .inl (T 1, n, .inr (.inl f))
  | .inr (.inr (.inl (t, n, f))) => .inl (T t, n, .inr (.inr (.inr (.inr f))))
  | .inr (.inr (.inr o)) => .inr o
abbrev px_G : Type := Nat × Heap × va_G × (Nat → ClassId)
def px_H (cl : List vw_C) (G : px_G) (C F : px_P) (H : Heap) : Prop :=
  G.1 ≤ H.size ∧ (∀ q : Nat, q < G.1 → H[q]? = G.2.1[q]?) ∧ (∀ a e, C a = some e → G.1 ≤ a ∧ va_at G.2.2.1 cl (a, px_to G.2.2.2 e) H) ∧ (∀ a e, F a = some e → G.1 ≤ a ∧ C a = none ∧ va_at G.2.2.1 cl (a, px_to G.2.2.2 e) H)
theorem px_H.put {cl : List vw_C} {G : px_G} {C F : px_P} {H H' : Heap} {a : Nat} {e0 e1 : px_E} (h : px_H cl G C F H) (hc : C a = some e0) (hz : H'.size = H.size) (ho : ∀ q : Nat, q ≠ a → H'[q]? = H[q]?)
    (ha : va_at G.2.2.1 cl (a, px_to G.2.2.2 e1) H') : px_H cl G (px_up C a e1) F H' := by
  obtain ⟨h1, h2, h3, h4⟩ := h
  have hB := (h3 a e0 hc).1
  refine ⟨by rw [hz]; exact h1, fun q hq => ?_, fun b e hb => ?_, fun b e hb => ?_⟩
  · rw [ho q (fun x => by omega)]
    exact h2 q hq
  · by_cases hba : b = a
    · subst hba
      rw [px_up_s] at hb
      cases hb
      exact ⟨hB, ha⟩
    · rw [px_up_n _ _ hba] at hb
      exact ⟨(h3 b e hb).1, (h3 b e hb).2.kept (ho b hba)⟩
  · have hba : b ≠ a := fun x => by
      have := (h4 b e hb).2.1
      rw [x, hc] at this
      cases this
    exact ⟨(h4 b e hb).1, by rw [px_up_n _ _ hba]; exact (h4 b e hb).2.1, (h4 b e hb).2.2.kept (ho b hba)⟩
theorem px_H.free {cl : List vw_C} {G : px_G} {C F : px_P} {H : Heap} (h : px_H cl G C F H) : C H.size = none := by
  cases hc : C H.size with
  | none => rfl
  | some e => exact absurd (h.2.2.1 _ e hc).2.lt (Nat.lt_irrefl _)
theorem px_H.new {cl : List vw_C} {G : px_G} {C F : px_P} {H H' : Heap} {e1 : px_E} (h : px_H cl G C F H) (hz : H'.size = H.size + 1) (ho : ∀ q : Nat, q < H.size → H'[q]? = H[q]?)
    (ha : va_at G.2.2.1 cl (H.size, px_to G.2.2.2 e1) H') : px_H cl G (px_up C H.size e1) F H' := by
  have hn := h.free
  obtain ⟨h1, h2, h3, h4⟩ := h
  refine ⟨by omega, fun q hq => ?_, fun b e hb => ?_, fun b e hb => ?_⟩
  · rw [ho q (by omega)]
    exact h2 q hq
  · by_cases hba : b = H.size
    · subst hba
      rw [px_up_s] at hb
      cases hb
      exact ⟨h1, ha⟩
    · rw [px_up_n _ _ hba] at hb
      exact ⟨(h3 b e hb).1, (h3 b e hb).2.kept (ho b (h3 b e hb).2.lt)⟩
  · have hlt : b < H.size := (h4 b e hb).2.2.lt
    have hba : b ≠ H.size := Nat.ne_of_lt hlt
    exact ⟨(h4 b e hb).1, by rw [px_up_n _ _ hba]; exact (h4 b e hb).2.1, (h4 b e hb).2.2.kept (ho b hlt)⟩
theorem px_H.one {cl : List vw_C} {G : px_G} {C F : px_P} {H : Heap} {a : Nat} {e : px_E} (h : px_H cl G C F H) (hc : C a = some e) : va_P G.2.2.1 cl [(a, px_to G.2.2.2 e)] H := fun k q hk => by
  cases k with
  | zero =>
    cases hk
    exact (h.2.2.1 a e hc).2
  | succ k => simp at hk
def px_tys (tyl : List FieldType) (T : Nat → ClassId) : List (ClassId × FieldType) := (List.range tyl.length).map fun i => (T i, tyl.getD i .int)
theorem px_tys_at {tyl : List FieldType} {T : Nat → ClassId} {t : Nat} {ty : FieldType} (h : tyl[t]? = some ty) : (px_tys tyl T)[t]? = some (T t, ty) := by
  have hl : t < tyl.length := (List.getElem?_eq_some_iff.mp h).1
  simp [px_tys, hl]
  have := (List.getElem?_eq_some_iff.mp h).2
  simp [this]
/-- what is known of the tables: classes, kinds of arrays, words, texts, classes that are none of others -/
abbrev px_V : Type := List vw_C × List FieldType × List Cond × List (String × Nat × String) × List (String × String)
def px_K (V : px_V) (sc : Option (Nat × Nat × (Nat → Int32))) (G : px_G) (U : State) : Prop :=
  va_K G.2.2.1 V.1 (px_tys V.2.1 G.2.2.2) U ∧ (∀ w ∈ V.2.2.1, va_Nw w U) ∧ (∀ (t : Nat) (C : String), V.2.1[t]? = some (FieldType.object C) → va_AO C U) ∧ ((Cond.arrayClass .int).before #[] U = true ∧ (Cond.arrayClass .long).before #[] U = true ∧ (Cond.arrayClass .boolean).before #[] U = true) ∧
  (∀ b N xs, sc = some (b, N, xs) → b < G.1 ∧ va_X b N xs U G.2.1) ∧ (∀ r ∈ V.2.2.2.1, ∃ sa, vk_R r.1 r.2.1 r.2.2 sa U) ∧ (∀ r ∈ V.2.2.2.2, va_Nc r.1 r.2 U) ∧
  vx_Zq Bundle.tN "UNASSIGNED_STACK" Bundle.steD (fun q => G.1 ≤ q) U G.2.1 ∧ vx_Zq Bundle.tN "SUPPRESSED_SENTINEL" Bundle.listD (fun q => G.1 ≤ q) U G.2.1
def px_wb (w : Cond) : Bool := (w.onTables && w.keeps) || (match w with | .fieldLinkNest .. => true | .methodLinkNest .. => true | .declares _ => true | .castable .. => true | _ => false)
theorem px_w_moved {w : Cond} (hw : px_wb w = true) {s U : State} (hW : s.WarmedH U.vm) (h : va_Nw w s) : va_Nw w U := by
  unfold px_wb at hw
  rw [Bool.or_eq_true] at hw
  rcases hw with hw | hw
  · exact word_at hW (Or.inl hw) h
  · cases w <;> first | (exact va_Nw.warmF hW h) | (exact va_Nw.warmM hW h) | (exact va_Nw.warmD hW h) | (exact va_Nw.warmC hW h) | (cases hw)
theorem px_K.moved {V : px_V} {sc : Option (Nat × Nat × (Nat → Int32))} {G : px_G} {s U : State} (hwl : V.2.2.1.all px_wb = true) (hW : s.WarmedH U.vm) (h : px_K V sc G s) : px_K V sc G U := by
  obtain ⟨h1, h2, h3, ⟨h4, h5, h6⟩, h7, h8, h9, h10, h11⟩ := h
  exact ⟨va_K.moved hW.alike h1, fun w hw => px_w_moved (List.all_eq_true.mp hwl w hw) hW (h2 w hw), fun t C ht => (h3 t C ht).moved hW.alike, ⟨word_at hW (Or.inr ⟨_, rfl⟩) h4, word_at hW (Or.inr ⟨_, rfl⟩) h5, word_at hW (Or.inr ⟨_, rfl⟩) h6⟩,
    fun b N xs hb => ⟨(h7 b N xs hb).1, (h7 b N xs hb).2.moved hW.alike⟩, fun r hr => (h8 r hr).imp (fun sa h => vk_R.warm hW h), fun r hr => (h9 r hr).moved hW.alike, h10.moved hW.alike, h11.moved hW.alike⟩
theorem px_ai_v {o : Option Value} {f : Int32 → Prop} (h : px_ai o f) : ∃ x, o = some (.int x) ∧ f x := by
  unfold px_ai at h
  split at h
  · exact ⟨_, rfl, h⟩
  · exact h.elim
theorem px_aj_v {o : Option Value} {f : Int64 → Prop} (h : px_aj o f) : ∃ x, o = some (.long x) ∧ f x := by
  unfold px_aj at h
  split at h
  · exact ⟨_, rfl, h⟩
  · exact h.elim
theorem px_si_v {st : List Value} {f : Int32 → List Value → Prop} (h : px_si st f) : ∃ x r, st = .int x :: r ∧ f x r := by
  unfold px_si at h
  split at h
  · exact ⟨_, _, rfl, h⟩
  · exact h.elim
theorem px_sj_v {st : List Value} {f : Int64 → List Value → Prop} (h : px_sj st f) : ∃ x r, st = .long x :: r ∧ f x r := by
  unfold px_sj at h
  split at h
  · exact ⟨_, _, rfl, h⟩
  · exact h.elim
theorem px_sr_v {st : List Value} {f : Nat → List Value → Prop} (h : px_sr st f) : ∃ a r, st = .ref a :: r ∧ f a r := by
  unfold px_sr at h
  split at h
  · exact ⟨_, _, rfl, h⟩
  · exact h.elim
theorem px_sii_v {st : List Value} {f : Int32 → Int32 → List Value → Prop} (h : px_sii st f) : ∃ x y r, st = .int y :: .int x :: r ∧ f x y r := by
  unfold px_sii at h
  split at h
  · exact ⟨_, _, _, rfl, h⟩
  · exact h.elim
theorem px_sjj_v {st : List Value} {f : Int64 → Int64 → List Value → Prop} (h : px_sjj st f) : ∃ x y r, st = .long y :: .long x :: r ∧ f x y r := by
  unfold px_sjj at h
  split at h
  · exact ⟨_, _, _, rfl, h⟩
  · exact h.elim
theorem px_sij_v {st : List Value} {f : Int64 → Int32 → List Value → Prop} (h : px_sij st f) : ∃ x y r, st = .int y :: .long x :: r ∧ f x y r := by
  unfold px_sij at h
  split at h
  · exact ⟨_, _, _, rfl, h⟩
  · exact h.elim
theorem px_sir_v {st : List Value} {f : Int32 → Nat → List Value → Prop} (h : px_sir st f) : ∃ x a r, st = .int x :: .ref a :: r ∧ f x a r := by
  unfold px_sir at h
  split at h
  · exact ⟨_, _, _, rfl, h⟩
  · exact h.elim
theorem px_siir_v {st : List Value} {f : Int32 → Int32 → Nat → List Value → Prop} (h : px_siir st f) : ∃ v x a r, st = .int v :: .int x :: .ref a :: r ∧ f v x a r := by
  unfold px_siir at h
  split at h
  · exact ⟨_, _, _, _, rfl, h⟩
  · exact h.elim
theorem px_sjir_v {st : List Value} {f : Int64 → Int32 → Nat → List Value → Prop} (h : px_sjir st f) : ∃ v x a r, st = .long v :: .int x :: .ref a :: r ∧ f v x a r := by
  unfold px_sjir at h
  split at h
  · exact ⟨_, _, _, _, rfl, h⟩
  · exact h.elim
theorem px_srir_v {st : List Value} {f : Nat → Int32 → Nat → List Value → Prop} (h : px_srir st f) : ∃ v x a r, st = .ref v :: .int x :: .ref a :: r ∧ f v x a r := by
  unfold px_srir at h
  split at h
  · exact ⟨_, _, _, _, rfl, h⟩
  · exact h.elim
theorem px_svr_v {st : List Value} {f : Value → Nat → List Value → Prop} (h : px_svr st f) : ∃ v a r, st = v :: .ref a :: r ∧ f v a r := by
  unfold px_svr at h
  split at h
  · exact ⟨_, _, _, rfl, h⟩
  · exact h.elim
theorem px_s1v_v {st : List Value} {f : Int32 → Prop} (h : px_s1v st f) : ∃ v, st = [.int v] ∧ f v := by
  unfold px_s1v at h
  split at h
  · exact ⟨_, rfl, h⟩
  · exact h.elim
theorem px_s0_v {st : List Value} {f : Prop} (h : px_s0 st f) : st = [] ∧ f := by
  unfold px_s0 at h
  split at h
  · exact ⟨rfl, h⟩
  · exact h.elim
theorem px_pf_v {o : Option (Nat × Nat × Int)} {f : Nat → Nat → Prop} (h : px_pf o f) : ∃ ci kf, o = some (0, ci, kf) ∧ f ci kf.toNat := by
  unfold px_pf at h
  split at h
  · exact ⟨_, _, rfl, h⟩
  · exact h.elim
theorem px_pa_v {o : Option (Nat × Nat × Int)} {f : Nat → Prop} (h : px_pa o f) : ∃ t z, o = some (3, t, z) ∧ f t := by
  unfold px_pa at h
  split at h
  · exact ⟨_, _, rfl, h⟩
  · exact h.elim
theorem px_pc_v {o : Option (Nat × Nat × Int)} {f : Int → Prop} (h : px_pc o f) : ∃ z v, o = some (4, z, v) ∧ f v := by
  unfold px_pc at h
  split at h
  · exact ⟨_, _, rfl, h⟩
  · exact h.elim
theorem px_pj_v {o : Option (Nat × Nat × Int)} {f : Int → Prop} (h : px_pj o f) : ∃ z v, o = some (9, z, v) ∧ f v := by
  unfold px_pj at h
  split at h
  · exact ⟨_, _, rfl, h⟩
  · exact h.elim
theorem px_s1l_v {st : List Value} {f : Int64 → Prop} (h : px_s1l st f) : ∃ v, st = [.long v] ∧ f v := by
  unfold px_s1l at h
  split at h
  · exact ⟨_, rfl, h⟩
  · exact h.elim
theorem px_aa_v {o : Option Value} {f : Value → Prop} (h : px_aa o f) : (∃ a, o = some (.ref a) ∧ f (.ref a)) ∨ (o = some .null ∧ f .null) := by
  unfold px_aa at h
  split at h
  · exact Or.inl ⟨_, rfl, h⟩
  · exact Or.inr ⟨rfl, h⟩
  · exact h.elim
theorem px_sa_v {st : List Value} {f : Value → List Value → Prop} (h : px_sa st f) : (∃ a r, st = .ref a :: r ∧ f (.ref a) r) ∨ (∃ r, st = .null :: r ∧ f .null r) := by
  unfold px_sa at h
  split at h
  · exact Or.inl ⟨_, _, rfl, h⟩
  · exact Or.inr ⟨_, rfl, h⟩
  · exact h.elim
theorem px_sv_v {st : List Value} {f : Value → List Value → Prop} (h : px_sv st f) : (∃ x r, st = .int x :: r ∧ f (.int x) r) ∨ (∃ a r, st = .ref a :: r ∧ f (.ref a) r) := by
  unfold px_sv at h
  split at h
  · exact Or.inl ⟨_, _, rfl, h⟩
  · exact Or.inr ⟨_, _, rfl, h⟩
  · exact h.elim
theorem px_siv_v {st : List Value} {f : Int32 → Value → List Value → Prop} (h : px_siv st f) : (∃ y x r, st = .int y :: .int x :: r ∧ f y (.int x) r) ∨ (∃ y a r, st = .int y :: .ref a :: r ∧ f y (.ref a) r) := by
  unfold px_siv at h
  split at h
  · exact Or.inl ⟨_, _, _, rfl, h⟩
  · exact Or.inr ⟨_, _, _, rfl, h⟩
  · exact h.elim
theorem px_s1a_v {st : List Value} {f : Value → Prop} (h : px_s1a st f) : (∃ a, st = [.ref a] ∧ f (.ref a)) ∨ (st = [.null] ∧ f .null) := by
  unfold px_s1a at h
  split at h
  · exact Or.inl ⟨_, rfl, h⟩
  · exact Or.inr ⟨rfl, h⟩
  · exact h.elim
theorem px_sn_v {st : List Value} {f g : List Value → Prop} (h : px_sn st f g) : (∃ r, st = .null :: r ∧ f r) ∨ (∃ a r, st = .ref a :: r ∧ g r) := by
  unfold px_sn at h
  split at h
  · exact Or.inl ⟨_, rfl, h⟩
  · exact Or.inr ⟨_, _, rfl, h⟩
  · exact h.elim
theorem px_pv_v {o : Option (Nat × Nat × Int)} {f g : Nat → Nat → Nat → Prop} (h : px_pv o f g) : (∃ t j np, o = some (t + 20, j, np) ∧ t < 10 ∧ g t j np.toNat) ∨ (∃ t j np, o = some (t + 10, j, np) ∧ t < 10 ∧ f t j np.toNat) := by
  unfold px_pv at h
  split at h
  · exact h.elim
  · rename_i t j np hn
    exact Or.inl ⟨t, j, np, rfl, Nat.lt_of_not_le fun q => hn (t - 10) (by omega), h⟩
  · rename_i t j np hn1 hn2
    exact Or.inr ⟨t, j, np, rfl, Nat.lt_of_not_le fun q => hn2 (t - 10) (by omega), h⟩
  · exact h.elim
theorem px_pn_v {o : Option (Nat × Nat × Int)} {f g : Nat → Nat → Prop} (h : px_pn o f g) : (∃ ci N, o = some (2, ci, N) ∧ f ci N.toNat) ∨ (∃ kd N, o = some (8, kd, N) ∧ g kd N.toNat) := by
  unfold px_pn at h
  split at h
  · exact Or.inl ⟨_, _, rfl, h⟩
  · exact Or.inr ⟨_, _, rfl, h⟩
  · exact h.elim
theorem px_ps_v {o : Option (Nat × Nat × Int)} {A : Prop} {f : Nat → Nat → Prop} (h : px_ps o A f) : (∃ z w, o = some (6, z, w) ∧ A) ∨ (∃ j np, o = some (1, j, np) ∧ f j np.toNat) := by
  unfold px_ps at h
  split at h
  · exact Or.inl ⟨_, _, rfl, h⟩
  · exact Or.inr ⟨_, _, rfl, h⟩
  · exact h.elim
theorem px_pt_v {o : Option (Nat × Nat × Int)} {A B : Prop} {f : Nat → Nat → Prop} (h : px_pt o A B f) : (∃ w, o = some (7, 0, w) ∧ A) ∨ (∃ w, o = some (7, 1, w) ∧ B) ∨ (∃ j np, o = some (5, j, np) ∧ f j np.toNat) := by
  unfold px_pt at h
  split at h
  · exact Or.inl ⟨_, rfl, h⟩
  · exact Or.inr (Or.inl ⟨_, rfl, h⟩)
  · exact Or.inr (Or.inr ⟨_, _, rfl, h⟩)
  · exact h.elim
end
section
theorem px_lq {B a i : Nat} {locs : List Loc} (h : ∀ q ∈ locs, B ≤ q.base) (ha : B ≤ a) : ∀ q ∈ locs ++ [(⟨a, i⟩ : Loc)], B ≤ q.base := by
  intro q hq
  rcases List.mem_append.mp hq with h1 | h1
  · exact h q h1
  · rw [List.mem_singleton] at h1
    subst h1
    exact ha
section PXR
variable {p : Program} {l : Launch} {e : Env} {R : Room} {s : State} {m : MethodId} {args : Array Value} {below : List Frame} {meth : Method} {c : Code} {H : Heap} {locs : List Loc} {cells slots : Nat} {Q : State → Prop}
variable {cc : ByteArray} {pc : Nat} {ls : Array Slot} {rest : List Value} {cl : List vw_C} {tyl : List FieldType} {G : px_G} {C F : px_P} {a : Nat}
theorem px_mono {Q' : State → Prop} {g : JFrame} (h : ∀ t, Q t → Q' t) (k : W p l e R s m args below meth c H locs cells slots Q g) : W p l e R s m args below meth c H locs cells slots Q' g := fun T hT X => by
  obtain ⟨t, a, b⟩ := k T hT X
  exact ⟨t, a, h t b⟩
theorem px_iast (hexec : p.tables.exec = Jvm.exec) (hb : c.code = cc) (hK : va_K G.2.2.1 cl (px_tys tyl G.2.2.2) s) (hH : px_H cl G C F H) (hlo : ∀ q ∈ locs, G.1 ≤ q.base) (ht : tyl[0]? = some .int) {n : Nat} {f : Nat → Int32} (ha : C a = some (px_i n f)) {i x : Int32} (hin : vp_in i n) (hdg : decode cc pc = .ok (.iastore, 1))
    (kk : ∀ (H1 : Heap) (locs1 : List Loc), px_H cl G (px_up C a (px_i n (upd f i.toNatClampNeg x))) F H1 → (∀ q ∈ locs1, G.1 ≤ q.base) → W p l e R s m args below meth c H1 locs1 cells slots Q (F0 m (pc + 1) ls rest)) : W p l e R s m args below meth c H locs cells slots Q (F0 m pc ls (.int x :: .int i :: .ref a :: rest)) := by
  have hc : H[a]? = some (arrV (G.2.2.2 0) n (fun j => .int (f j))) := (hH.2.2.1 a _ ha).2
  refine W.iast hexec hb hc ((hK.2 0 _ (px_tys_at ht)).1 n (fun j => .int (f j))) (fun q => by cases q) (by rw [arrV_size]; exact hin) rfl rfl hdg fun H1 e1 z oq => ?_
  refine kk H1 _ (hH.put ha z oq ?_) (px_lq hlo (hH.2.2.1 a _ ha).1)
  show H1[a]? = some (arrV (G.2.2.2 0) n (fun j => .int (upd f i.toNatClampNeg x j)))
  rw [e1, arrV_store]
  congr 2
  funext q
  by_cases hq : q = i.toNatClampNeg
  · subst hq
    simp [updV, upd]
  · simp [updV, upd, hq]
theorem px_zast (hexec : p.tables.exec = Jvm.exec) (hb : c.code = cc) (hK : va_K G.2.2.1 cl (px_tys tyl G.2.2.2) s) (hH : px_H cl G C F H) (hlo : ∀ q ∈ locs, G.1 ≤ q.base) (ht : tyl[2]? = some .boolean) {n : Nat} {f : Nat → Int32} (ha : C a = some (px_z n f)) {i x : Int32} (hin : vp_in i n) (hdg : decode cc pc = .ok (.bastore, 1))
    (kk : ∀ (H1 : Heap) (locs1 : List Loc), px_H cl G (px_up C a (px_z n (upd f i.toNatClampNeg (vp_nar .boolean x)))) F H1 → (∀ q ∈ locs1, G.1 ≤ q.base) → W p l e R s m args below meth c H1 locs1 cells slots Q (F0 m (pc + 1) ls rest)) : W p l e R s m args below meth c H locs cells slots Q (F0 m pc ls (.int x :: .int i :: .ref a :: rest)) := by
  have hc : H[a]? = some (arrV (G.2.2.2 2) n (fun j => .int (f j))) := (hH.2.2.1 a _ ha).2
  refine W.zast hexec hb hc ((hK.2 2 _ (px_tys_at ht)).1 n (fun j => .int (f j))) (fun q => by cases q) (by rw [arrV_size]; exact hin) rfl rfl hdg fun H1 e1 z oq => ?_
  refine kk H1 _ (hH.put ha z oq ?_) (px_lq hlo (hH.2.2.1 a _ ha).1)
  show H1[a]? = some (arrV (G.2.2.2 2) n (fun j => .int (upd f i.toNatClampNeg (vp_nar .boolean x) j)))
  rw [e1, arrV_store]
  congr 2
  funext q
  by_cases hq : q = i.toNatClampNeg
  · subst hq
    simp [updV, upd, vp_nar]
    try rfl
  · simp [updV, upd, hq]
theorem px_last (hexec : p.tables.exec = Jvm.exec) (hb : c.code = cc) (hK : va_K G.2.2.1 cl (px_tys tyl G.2.2.2) s) (hH : px_H cl G C F H) (hlo : ∀ q ∈ locs, G.1 ≤ q.base) (ht : tyl[1]? = some .long) {n : Nat} {f : Nat → Int64} (ha : C a = some (px_j n f)) {i : Int32} {x : Int64} (hin : vp_in i n) (hdg : decode cc pc = .ok (.lastore, 1))
    (kk : ∀ (H1 : Heap) (locs1 : List Loc), px_H cl G (px_up C a (px_j n (vp_updL f i.toNatClampNeg x))) F H1 → (∀ q ∈ locs1, G.1 ≤ q.base) → W p l e R s m args below meth c H1 locs1 cells slots Q (F0 m (pc + 1) ls rest)) : W p l e R s m args below meth c H locs cells slots Q (F0 m pc ls (.long x :: .int i :: .ref a :: rest)) := by
  have hc : H[a]? = some (arrV (G.2.2.2 1) n (fun j => .long (f j))) := (hH.2.2.1 a _ ha).2
  refine W.last hexec hb hc ((hK.2 1 _ (px_tys_at ht)).1 n (fun j => .long (f j))) (fun q => by cases q) (by rw [arrV_size]; exact hin) rfl rfl hdg fun H1 e1 z oq => ?_
  refine kk H1 _ (hH.put ha z oq ?_) (px_lq hlo (hH.2.2.1 a _ ha).1)
  show H1[a]? = some (arrV (G.2.2.2 1) n (fun j => .long (vp_updL f i.toNatClampNeg x j)))
  rw [e1, arrV_store]
  congr 2
  funext q
  by_cases hq : q = i.toNatClampNeg
  · subst hq
    simp [updV, vp_updL]
  · simp [updV, vp_updL, hq]
theorem px_aast (hexec : p.tables.exec = Jvm.exec) (hb : c.code = cc) (hK : va_K G.2.2.1 cl (px_tys tyl G.2.2.2) s) (hH : px_H cl G C F H) (hlo : ∀ q ∈ locs, G.1 ≤ q.base) {t n ci v : Nat} {r : vw_C} {vs : List Value} {f : Nat → Option Nat} (ha : C a = some (px_r t n f)) (ht : tyl[t]? = some (.object r.1)) (hv : C v = some (px_o ci vs)) (hc : cl[ci]? = some r) {i : Int32} (hin : vp_in i n) (hdg : decode cc pc = .ok (.aastore, 1))
    (kk : ∀ (H1 : Heap) (locs1 : List Loc), px_H cl G (px_up C a (px_r t n (va_up f i.toNatClampNeg (some v)))) F H1 → (∀ q ∈ locs1, G.1 ≤ q.base) → W p l e R s m args below meth c H1 locs1 cells slots Q (F0 m (pc + 1) ls rest)) : W p l e R s m args below meth c H locs cells slots Q (F0 m pc ls (.ref v :: .int i :: .ref a :: rest)) := by
  have hlt : i.toNatClampNeg < n := Nat.not_le.mp fun q => hin (Or.inr q)
  have h0 : ¬ i < 0 := fun q => hin (Or.inl q)
  obtain ⟨r', hr', cellV, g1, g2, g3, -⟩ := (hH.2.2.1 v _ hv).2
  have hcls := (hK.1 ci r hc).2
  obtain ⟨kA, comp, k1, k2, k3, -⟩ := (hK.2 t _ (px_tys_at ht)).2
  have hcomp : comp = G.2.2.1.1 ci := Option.some.inj (k3.symm.trans hcls.1)
  subst hcomp
  obtain ⟨kC, hkC, -⟩ := hcls.2
  have hca : H[a]? = some (arrV (G.2.2.2 t) n (fun j => va_rf (f j))) := (hH.2.2.1 a _ ha).2
  refine W.aast hexec hb hca (fun q h => by cases h) (fun h => by cases h) k1 k2 rfl hkC ⟨h0, by rw [arrV_size]; exact hlt⟩ g1 (fun q h => by rw [g3] at h; cases h) (by rw [g2]; exact hkC) (by rw [g2]; exact va_assign hcls) rfl rfl hdg fun H1 e1 z oq => ?_
  refine kk H1 _ (hH.put ha z oq ?_) (px_lq hlo (hH.2.2.1 a _ ha).1)
  show H1[a]? = some (arrV (G.2.2.2 t) n (fun j => va_rf (va_up f i.toNatClampNeg (some v) j)))
  rw [e1, arrV_store]
  congr 2
  funext q
  by_cases hq : q = i.toNatClampNeg
  · subst hq
    simp [updV, va_up, va_rf]
  · simp [updV, va_up, hq]
theorem px_put (hexec : p.tables.exec = Jvm.exec) (hb : c.code = cc) {own C0 : String} {T : u_T} {N ci index : Nat} {Ts : List Cond} (hts : ∀ w ∈ Ts, w.before args s = true) (hin : ∀ w ∈ u_ws C0 T N, w ∈ Ts) (ty0 : Nat → FieldType) (hty : ∀ k, k < N → parseFieldDescriptor (T k).2.2.1 = some (ty0 k)) (hnm : ∀ a, a < N → ∀ b, b < N → a ≠ b → (T a).2.1 ≠ (T b).2.1) (hown : s.vm.findClass own = some m.cls)
    (hK : va_K G.2.2.1 cl (px_tys tyl G.2.2.2) s) (hH : px_H cl G C F H) (hlo : ∀ q ∈ locs, G.1 ≤ q.base) {fs : List Value} (he : C a = some (px_o ci fs)) (hc : cl[ci]? = some (C0, T, N)) (k : Nat) (hk : k < N)
    (hlink : (Cond.fieldLink own index C0 (T k).2.1 (T k).2.2.1).before args s = true ∨ ∃ host, (Cond.fieldLinkNest own index C0 (T k).2.1 (T k).2.2.1 host).before args s = true) (hsame : (T k).1 = C0)
    (hfin : (T k).2.2.2 = false ∨ ((T k).2.2.2 = true ∧ meth.name = "<init>" ∧ C0 = own ∧ (Cond.fieldLink own index C0 (T k).2.1 (T k).2.2.1).before args s = true)) {v : Value} (hn : narrow (ty0 k) v = v) (hfit : fits (ty0 k) v = true) (hl : k < fs.length) (hdg : decode cc pc = .ok (.putfield index, 3))
    (kk : ∀ (H1 : Heap) (locs1 : List Loc), px_H cl G (px_up C a (px_o ci (fs.set k v))) F H1 → (∀ q ∈ locs1, G.1 ≤ q.base) → W p l e R s m args below meth c H1 locs1 cells slots Q (F0 m (pc + 3) ls rest)) : W p l e R s m args below meth c H locs cells slots Q (F0 m pc ls (v :: .ref a :: rest)) := by
  have hap := va_apart (own := own) hts hin ty0 hty hnm hK hc
  obtain ⟨r, h1, cell, q1, q2, q3, q4⟩ := (hH.2.2.1 a _ he).2
  have hr : r = (C0, T, N) := Option.some.inj (h1.symm.trans hc)
  subst hr
  obtain ⟨hS, hfc, kC, hkC, hkind⟩ := hK.1 ci _ hc
  obtain ⟨cf, kf, fi, f, hi, hsl⟩ := hS k hk
  have hi2 : s.fieldFound? C0 (T k).2.1 (T k).2.2.1 = some (cf, kf, fi, f) := by rw [hsame] at hi; exact hi
  have hlay := hts _ (hin _ (u_in_lay hk))
  have hst := (u_facts hfc hkC (u_lays hts hin hk) hi).1
  have hd := hty k hk
  have fin : ∀ H' : Heap, H'[a]? = some (cell.setSlot f.slot v) → H'.size = H.size → (∀ q : Nat, q ≠ a → H'[q]? = H[q]?) → W p l e R s m args below meth c H' (locs ++ [⟨a, f.slot⟩]) cells slots Q (F0 m (pc + 3) ls rest) := by
    intro H' e1 e2 e3
    rw [hsl] at e1 ⊢
    exact kk H' _ (hH.put he e2 e3 ⟨_, hc, t_OB.to (V := updV (vp_V fs) k v) ⟨_, e1, q2, q3, t_set q4 hap hk v⟩ (fun j _ => vp_updV_set hl v j)⟩) (px_lq hlo (hH.2.2.1 a _ he).1)
  rcases hfin with hfin | ⟨hfin, hin2, hdecl, hl2⟩
  · unfold u_lay at hlay
    rw [if_neg (by rw [hfin]; decide)] at hlay
    have h6 := u_store hfc hkC hkind hlay hi hd hn hfit
    rcases hlink with hlink | ⟨host, hlink⟩
    · exact W.putK hexec hb (f := f) ⟨hown, hlink, ⟨_, _, _, hi2⟩, hst⟩ (by rw [q2]; exact h6) q1 q3 (by rw [hsl]; exact k2_hasslot (q4 k hk)) rfl rfl hdg fin
    · exact va_WputK hexec hb (f := f) hown hlink hi2 hst (by rw [q2]; exact h6) q1 q3 (by rw [hsl]; exact k2_hasslot (q4 k hk)) rfl rfl hdg fin
  · unfold u_lay at hlay
    rw [if_pos hfin] at hlay
    have hcf : m.cls = cf := by
      obtain ⟨_, _, c', _, _, _, -, -, hf', -, -, -, hown2, -⟩ := Cond.laysFinal_spec hlay
      have e1 : c' = cf := by have := hi.symm.trans hf'; simp at this; exact this.1.symm
      rw [hsame, hdecl] at hown2
      rw [← e1]; exact Option.some.inj (hown.symm.trans hown2)
    have h6 := u_fits hfc hkC hkind (Or.inr hlay) hi hd hn hfit
    exact W.putFinK hexec hb hown hl2 hi2 hst hcf hin2 (by rw [q2]; exact h6) q1 q3 (by rw [hsl]; exact k2_hasslot (q4 k hk)) rfl rfl hdg fin
theorem px_get (hexec : p.tables.exec = Jvm.exec) (hb : c.code = cc) {own C0 : String} {T : u_T} {N ci index : Nat} {Ts : List Cond} (hts : ∀ w ∈ Ts, w.before args s = true) (hin : ∀ w ∈ u_ws C0 T N, w ∈ Ts) (hown : s.vm.findClass own = some m.cls)
    (hK : va_K G.2.2.1 cl (px_tys tyl G.2.2.2) s) (hH : px_H cl G C F H) {fs : List Value} (he : C a = some (px_o ci fs)) (hc : cl[ci]? = some (C0, T, N)) (k : Nat) (hk : k < N)
    (hlink : (Cond.fieldLink own index C0 (T k).2.1 (T k).2.2.1).before args s = true ∨ ∃ host, (Cond.fieldLinkNest own index C0 (T k).2.1 (T k).2.2.1 host).before args s = true) (hsame : (T k).1 = C0) {v : Value} (hv : fs[k]? = some v) (hdg : decode cc pc = .ok (.getfield index, 3))
    (kk : W p l e R s m args below meth c H locs cells slots Q (F0 m (pc + 3) ls (v :: rest))) : W p l e R s m args below meth c H locs cells slots Q (F0 m pc ls (.ref a :: rest)) := by
  have hP : va_P G.2.2.1 cl [(a, .inr (ci, fs))] H := hH.one he
  rcases hlink with hlink | ⟨host, hlink⟩
  · exact va_get hexec hb hts hin hown hK hP 0 rfl hc k hk hlink (fun x h => by rw [hsame] at h; exact h) hv hdg kk
  · exact va_getN hexec hb hts hin hown hK hP 0 rfl hc k hk hlink (fun x h => by rw [hsame] at h; exact h) hv hdg kk
end PXR
def px_chk (nL pc : Nat) (i : Instr) (len : Nat) : Bool := match i with
  | .tableswitch d lo hi offs => decide (0 ≤ (pc : Int) + d) && decide (0 ≤ lo) && decide (hi + 1 = lo + offs.size) && decide (hi < 1000) && offs.toList.all (fun o => decide (0 ≤ (pc : Int) + o))
  | .ifCond _ off => Nat.beq len 3 && decide (0 ≤ (pc : Int) + off)
  | .if_icmp _ off => Nat.beq len 3 && decide (0 ≤ (pc : Int) + off)
  | .ifnull off => Nat.beq len 3 && decide (0 ≤ (pc : Int) + off)
  | .ifnonnull off => Nat.beq len 3 && decide (0 ≤ (pc : Int) + off)
  | .goto off => Nat.beq len 3 && decide (0 ≤ (pc : Int) + off)
  | .iconst v => Nat.beq len 1 && decide (Int32.ofInt v = px_ic v)
  | .bipush v => Nat.beq len 2 && decide ((Int8.ofInt v).toInt32 = px_ic v)
  | .sipush v => Nat.beq len 3 && decide ((Int16.ofInt v).toInt32 = px_ic v)
  | .iinc a v => Nat.beq len 3 && decide (a < nL ∧ Int32.ofInt v = px_ic v)
  | .istore a => Nat.beq len 2 && decide (a < nL)
  | .astore a => Nat.beq len 2 && decide (a < nL)
  | .istore_n a => Nat.beq len 1 && decide (a.val < nL)
  | .astore_n a => Nat.beq len 1 && decide (a.val < nL)
  | .lstore a => Nat.beq len 2 && decide (a + 1 < nL)
  | .lstore_n a => Nat.beq len 1 && decide (a.val + 1 < nL)
  | .iload _ => Nat.beq len 2
  | .aload _ => Nat.beq len 2
  | .lload _ => Nat.beq len 2
  | .ldc _ => Nat.beq len 2
  | .newarray _ => Nat.beq len 2
  | .ldc2_w _ => Nat.beq len 3
  | .getfield _ => Nat.beq len 3
  | .putfield _ => Nat.beq len 3
  | .new _ => Nat.beq len 3
  | .anewarray _ => Nat.beq len 3
  | .invokespecial _ => Nat.beq len 3
  | .invokevirtual _ => Nat.beq len 3
  | .invokestatic _ => Nat.beq len 3
  | _ => Nat.beq len 1
theorem px_b1 {x n : Nat} (h : Nat.beq x n = true) : x = n := Nat.eq_of_beq_eq_true h
theorem px_b2 {x n : Nat} {q : Prop} [Decidable q] (h : (Nat.beq x n && decide q) = true) : x = n ∧ q := by
  rw [Bool.and_eq_true] at h
  exact ⟨px_b1 h.1, of_decide_eq_true h.2⟩
/-- the word of a method's code -/
def px_cw (M : px_M) : Cond := match px_hh M with
  | [] => Cond.code M.1 M.2.2.1 M.2.2.2.1 M.2.2.2.2.1
  | q :: r => Cond.codeWith M.1 M.2.2.1 M.2.2.2.1 M.2.2.2.2.1 (q :: r)
/-- the class of a thrown thing, by its kind -/
def px_ex (kd : Nat) : String := match kd with
  | 1 => "java/lang/IllegalArgumentException"
  | 2 => "java/lang/IllegalStateException"
  | _ => "java/lang/IndexOutOfBoundsException"
/-- a method of the list, as the caller's pool names it -/
def px_lnk (wl : List Cond) (own : String) (idx : Nat) (M : px_M) (np fr lo : Nat) : Prop :=
  (Cond.methodLink own idx M.1 ∈ wl ∨ ∃ hs, Cond.methodLinkNest own idx M.1 hs ∈ wl) ∧ Cond.initialized M.1.cls ∈ wl ∧ (M.1.cls ≠ "java/lang/invoke/MethodHandle" ∧ M.1.cls ≠ "java/lang/invoke/VarHandle" ∧ (parseMethodDescriptor M.1.desc).map (fun d => d.parameters.length) = some np) ∧ px_fr M + 1 ≤ fr ∧ 8 + (M.2.2.2.1 + 11) + px_lo M ≤ lo
def px_pok (V : px_V) (P : List px_M) (M0 : px_M) (e : Nat × Nat × Nat × Int) : Prop := match e with
  | (idx, 0, ci, kf) => ∃ C T N, V.1[ci]? = some (C, T, N) ∧ kf.toNat < N ∧ (T kf.toNat).1 = C ∧ (Cond.fieldLink M0.2.1 idx C (T kf.toNat).2.1 (T kf.toNat).2.2.1 ∈ V.2.2.1 ∨ ∃ hs, Cond.fieldLinkNest M0.2.1 idx C (T kf.toNat).2.1 (T kf.toNat).2.2.1 hs ∈ V.2.2.1)
  | (idx, 1, j, np) => ∃ M, P[j]? = some M ∧ px_lnk V.2.2.1 M0.2.1 idx M np.toNat (px_fr M0) (px_lo M0) ∧ px_hh M = [] ∧ M.1.name = "<init>" ∧ M.2.2.2.2.1 = none ∧ Cond.instanceMethod M.1 ∈ V.2.2.1
  | (idx, 2, ci, N) => ∃ C T, V.1[ci]? = some (C, T, N.toNat) ∧ Cond.classLink M0.2.1 idx C ∈ V.2.2.1 ∧ Cond.instantiable C N.toNat ∈ V.2.2.1 ∧ Cond.initialized C ∈ V.2.2.1
  | (idx, 3, t, _) => ∃ C, V.2.1[t]? = some (FieldType.object C) ∧ Cond.classLink M0.2.1 (idx - 65536) C ∈ V.2.2.1
  | (idx, 4, _, v) => Cond.constant M0.2.1 idx (px_ic v) ∈ V.2.2.1
  | (idx, 5, j, np) => ∃ M, P[j]? = some M ∧ px_lnk V.2.2.1 M0.2.1 idx M np.toNat (px_fr M0) (px_lo M0) ∧ Cond.static M.1 ∈ V.2.2.1 ∧ (px_hh M = [] ∨ Cond.methodLink M0.2.1 idx M.1 ∈ V.2.2.1)
  | (idx, 6, _, _) => Cond.methodLink M0.2.1 idx Lib.objectInit ∈ V.2.2.1 ∧ Cond.instanceMethod Lib.objectInit ∈ V.2.2.1 ∧ Cond.code Lib.objectInit ⟨#[0xb1]⟩ 1 none ∈ V.2.2.1 ∧ 1 ≤ px_fr M0 ∧ 20 ≤ px_lo M0
  | (idx, 7, 0, _) => Cond.methodLink M0.2.1 idx Lib.Math.max.name ∈ V.2.2.1 ∧ Cond.static Lib.Math.max.name ∈ V.2.2.1 ∧ Cond.initialized "java/lang/Math" ∈ V.2.2.1 ∧ Cond.code Lib.Math.max.name Lib.Math.max.code 2 (some .int) ∈ V.2.2.1 ∧ 1 ≤ px_fr M0 ∧ 21 ≤ px_lo M0
  | (idx, 7, 1, _) => Cond.methodLink M0.2.1 idx Lib.Math.min.name ∈ V.2.2.1 ∧ Cond.static Lib.Math.min.name ∈ V.2.2.1 ∧ Cond.initialized "java/lang/Math" ∈ V.2.2.1 ∧ Cond.code Lib.Math.min.name Lib.Math.min.code 2 (some .int) ∈ V.2.2.1 ∧ 1 ≤ px_fr M0 ∧ 21 ≤ px_lo M0
  | (ik, 8, kd, ic) => px_hh M0 = [] ∧ (∀ w ∈ Cond.classLink M0.2.1 ik (px_ex kd) :: Cond.initialized (px_ex kd) :: vx_atS M0.2.1 ic.toNat (px_ex kd) ["java/lang/RuntimeException", "java/lang/Exception"], w ∈ V.2.2.1) ∧ 6 ≤ px_fr M0 ∧ 82 ≤ px_lo M0 ∧
      ∀ q ∈ px_co M0, q.2.1 = .new ik → ∃ is tx, (M0.2.1, is, tx) ∈ V.2.2.2.1 ∧ decode M0.2.2.1 (q.1 + 3) = .ok (.dup, 1) ∧ decode M0.2.2.1 (q.1 + 4) = .ok (.ldc is, 2) ∧ decode M0.2.2.1 (q.1 + 6) = .ok (.invokespecial ic.toNat, 3) ∧ decode M0.2.2.1 (q.1 + 9) = .ok (.athrow, 1)
  | (idx, 9, _, v) => Cond.constantLong M0.2.1 idx (px_jc v) ∈ V.2.2.1
  | (ix, kd + 30, _, _) => Cond.classLink M0.2.1 ix (px_ex kd) ∈ V.2.2.1
  | (idx, ci + 20, j, np) => ∃ M T N, P[j]? = some M ∧ px_lnk V.2.2.1 M0.2.1 idx M np.toNat (px_fr M0) (px_lo M0) ∧ px_hh M = [] ∧ Cond.methodLink M0.2.1 idx M.1 ∈ V.2.2.1 ∧ Cond.instanceMethod M.1 ∈ V.2.2.1 ∧ Cond.selects M.1.cls M.1 M.1 ∈ V.2.2.1 ∧ V.1[ci]? = some (M.1.cls, T, N)
  | (idx, ci + 10, j, np) => ∃ M T N, P[j]? = some M ∧ px_lnk V.2.2.1 M0.2.1 idx M np.toNat (px_fr M0) (px_lo M0) ∧ px_hh M = [] ∧ Cond.instanceMethod M.1 ∈ V.2.2.1 ∧ Cond.selects M.1.cls M.1 M.1 ∈ V.2.2.1 ∧ V.1[ci]? = some (M.1.cls, T, N)
  | _ => False
/-- what a put of a final field asks -/
def px_fin (V : px_V) (M : px_M) (i : Instr) : Prop := match i with
  | .putfield idx => ∀ ci kf C T N, px_pl (px_po M) idx = some (0, ci, kf) → V.1[ci]? = some (C, T, N) → (T kf.toNat).2.2.2 = false ∨ ((T kf.toNat).2.2.2 = true ∧ M.1.name = "<init>" ∧ C = M.2.1 ∧ Cond.fieldLink M.2.1 idx C (T kf.toNat).2.1 (T kf.toNat).2.2.1 ∈ V.2.2.1)
  | _ => True
/-- a handler's row: its class is named by the pool, and what is thrown at other rows' classes passes it -/
def px_hok (V : px_V) (M : px_M) (z : Nat × Nat × Nat × Nat) : Prop := z.2.2.2 ≠ 0 ∧ ∃ kd, px_pl (px_po M) z.2.2.2 = some (kd + 30, 0, 0) ∧ (kd = 1 ∨ kd = 2 ∨ kd = 3)
def px_okM (V : px_V) (P : List px_M) (M : px_M) : Prop :=
  (∀ q ∈ px_co M, decode M.2.2.1 q.1 = .ok (q.2.1, q.2.2) ∧ px_chk M.2.2.2.1 q.1 q.2.1 q.2.2 = true ∧ px_fin V M q.2.1) ∧ (∀ e ∈ px_po M, px_pok V P M e) ∧ (∀ z ∈ px_hh M, px_hok V M z) ∧ M.1.cls = M.2.1 ∧ plainName M.1.cls = true ∧ px_cw M ∈ V.2.2.1
def px_okC (V : px_V) (Y : px_L) : Prop :=
  (∀ ci C T N, V.1[ci]? = some (C, T, N) → (∀ w ∈ u_ws C T N, w ∈ V.2.2.1) ∧ (∀ k, k < N → parseFieldDescriptor (T k).2.2.1 = some (Y.1 ci k)) ∧ (∀ a, a < N → ∀ b, b < N → a ≠ b → (T a).2.1 ≠ (T b).2.1) ∧ (∀ j, j < N → defaultValue (Y.1 ci j) = vp_V (Y.2.1 ci) j)) ∧
  V.2.1[0]? = some .int ∧ V.2.1[1]? = some .long ∧ V.2.1[2]? = some .boolean ∧ (∀ t, 3 ≤ t ∧ t < Y.2.2.2 → ∃ r, V.1[Y.2.2.1 t]? = some r ∧ V.2.1[t]? = some (FieldType.object r.1)) ∧ V.2.2.1.all px_wb = true ∧
  (∀ k1 k2, (k1 = 1 ∨ k1 = 2 ∨ k1 = 3) → (k2 = 1 ∨ k2 = 2 ∨ k2 = 3) → (k1 = k2 → Cond.castable (px_ex k1) (px_ex k2) ∈ V.2.2.1) ∧ (k1 ≠ k2 → (px_ex k1, px_ex k2) ∈ V.2.2.2.2))
def px_Pc (V : px_V) (sc : Option (Nat × Nat × (Nat → Int32))) (G : px_G) (F : px_P) (av : List Value) (C : px_P) : Array Value → State → Prop := fun v U => v = av.toArray ∧ px_H V.1 G C F U.heap ∧ px_K V sc G U
def px_Q (cl : List vw_C) (G : px_G) (F : px_P) (Po : Option Value → px_P → Prop) : Array Value → State → Outcome → State → Prop := fun _ _ o t => ∃ v C', o = .returned v ∧ Po v C' ∧ px_H cl G C' F t.heap
def px_X (cl : List vw_C) (G : px_G) (F : px_P) (Pt : Nat → px_P → Prop) : String → State → State → Prop := fun E _ t => ∃ kd C', E = px_ex kd ∧ Pt kd C' ∧ px_H cl G C' F t.heap
theorem px_blind {V : px_V} {sc : Option (Nat × Nat × (Nat → Int32))} {G : px_G} {F : px_P} {av : List Value} {C : px_P} (hwl : V.2.2.1.all px_wb = true) : FrameBlind (px_Pc V sc G F av C) := fun a U g mk q =>
  ⟨q.1, q.2.1, px_K.moved (U := U.calling g mk a) hwl (State.WarmedH.refl U) q.2.2⟩
/-- one that never throws -/
theorem px_met {l : Launch} {y : MethodName} {ws : List Cond} {rm : Room} {Pc : Array Value → State → Prop} {Qc : Array Value → State → Outcome → State → Prop} {cl : List vw_C} {G : px_G} {F : px_P} {mc ms : Nat} {free : Addr → Prop} (h : vx_Met l y ws rm Pc Qc (px_X cl G F (fun _ _ => False)) mc ms free) : Met l y ws rm Pc Qc mc ms free := by
  intro p e ha hc hk s m args below hf hap hP hK
  obtain ⟨n, o, h1, h2, h3, hq⟩ := h p e ha hc hk s m args below hf hap hP hK
  rcases hq with hq | ⟨q, -, E, ce, L, ⟨kd, C', -, hx, -⟩, -⟩
  · exact ⟨n, o, h1, h2, h3, hq⟩
  · exact hx.elim
theorem px_tg_ok {pc : Nat} {off : Int} (h : 0 ≤ (pc : Int) + off) : (pc : Int) + off = (px_tg pc off : Nat) := (Int.toNat_of_nonneg h).symm
theorem px_sw_ok {pc : Nat} {x : Int32} {Z : Nat → Prop} {d : Int} : ∀ (offs : List Int) (lo : Nat), lo + offs.length ≤ 5000 → px_sw pc x Z d lo offs → (∀ j o, offs[j]? = some o → x = nI (lo + j) → Z (px_tg pc o)) ∧ ((∀ j, j < offs.length → ¬ x = nI (lo + j)) → Z (px_tg pc d))
  | [], lo, _, h => ⟨fun j o hj => by simp at hj, fun _ => h⟩
  | o :: r, lo, hb, h => by
    have h2 : (x = nI lo → Z (px_tg pc o)) ∧ (¬ x = nI lo → px_sw pc x Z d (lo + 1) r) := h
    have hb2 : lo + r.length + 1 ≤ 5000 := by simpa [Nat.add_assoc] using hb
    refine ⟨fun j o' hj hx => ?_, fun hn => ?_⟩
    · by_cases h0 : x = nI lo
      · cases j with
        | zero =>
          cases hj
          exact h2.1 h0
        | succ j =>
          exfalso
          have hj2 : r[j]? = some o' := hj
          have hjl : j < r.length := (List.getElem?_eq_some_iff.mp hj2).1
          have := (nI_eq (by omega) (by omega)).mp (h0.symm.trans hx)
          omega
      · cases j with
        | zero => exact absurd hx h0
        | succ j => exact (px_sw_ok r (lo + 1) (by omega) (h2.2 h0)).1 j o' hj (by rw [hx]; congr 1; omega)
    · have h0 : ¬ x = nI lo := hn 0 (by simp)
      exact (px_sw_ok r (lo + 1) (by omega) (h2.2 h0)).2 (fun j hj hx => hn (j + 1) (by simp; omega) (by rw [hx]; congr 1; omega))
theorem px_wb_on {w : Cond} (h : px_wb w = true) : w.onTables = true := by
  unfold px_wb at h
  rw [Bool.or_eq_true, Bool.and_eq_true] at h
  rcases h with h | h
  · exact h.1
  · cases w <;> first | rfl | (cases h)
theorem px_use {w : Cond} {args : Array Value} {s : State} (h : px_wb w = true) (hw : va_Nw w s) : w.before args s = true := va_Nw.use (px_wb_on h) hw
theorem px_useA {ty : FieldType} {args : Array Value} {s : State} (h : (Cond.arrayClass ty).before #[] s = true) : (Cond.arrayClass ty).before args s = true := h
section PXS
variable {p : Program} {l : Launch} {e : Env} {R : Room} {s : State} {m : MethodId} {args : Array Value} {below : List Frame} {meth : Method} {c : Code} {H : Heap} {locs : List Loc} {cells slots : Nat} {Q : State → Prop}
variable {cc : ByteArray} {pc : Nat} {ls : Array Slot} {rest : List Value} {V : px_V} {sc : Option (Nat × Nat × (Nat → Int32))} {Y : px_L} {G : px_G} {C F : px_P} {a : Nat}
theorem px_tsw (hx : p.tables.exec = Jvm.exec) (hb : c.code = cc) {d lo hi : Int} {offs : Array Int} {len nL : Nat} {x : Int32} (hd : decode cc pc = .ok (.tableswitch d lo hi offs, len)) (hc : px_chk nL pc (.tableswitch d lo hi offs) len = true) {Z : Nat → Prop}
    (hZ : ∀ t, Z t → W p l e R s m args below meth c H locs cells slots Q (F0 m t ls rest)) (hT : px_sw pc x Z d lo.toNat offs.toList) : W p l e R s m args below meth c H locs cells slots Q (F0 m pc ls (.int x :: rest)) := by
  simp only [px_chk, Bool.and_eq_true, decide_eq_true_eq, List.all_eq_true] at hc
  obtain ⟨⟨⟨⟨c1, c2⟩, c3⟩, c4⟩, c5⟩ := hc
  obtain ⟨s1, s2⟩ := px_sw_ok offs.toList lo.toNat (by rw [Array.length_toList]; omega) hT
  by_cases hr : x.toInt < lo ∨ hi < x.toInt
  · refine lv_tableOut hx hb hd hr (px_tg_ok c1) (hZ _ (s2 fun j hj hx => ?_))
    rw [Array.length_toList] at hj
    rw [hx, nI_toInt (by omega)] at hr
    omega
  · have h1 : ¬ x.toInt < lo := fun h => hr (Or.inl h)
    have h2 : ¬ hi < x.toInt := fun h => hr (Or.inr h)
    have hlt : (x.toInt - lo).toNat < offs.size := by omega
    obtain ⟨o, ho⟩ : ∃ o, offs[(x.toInt - lo).toNat]? = some o := ⟨_, Array.getElem?_eq_getElem hlt⟩
    have ho2 : offs.toList[(x.toInt - lo).toNat]? = some o := by rw [Array.getElem?_toList]; exact ho
    refine lv_tableIn hx hb hd h1 h2 ho (px_tg_ok (c5 o (List.mem_of_getElem? ho2))) (hZ _ (s1 _ o ho2 ?_))
    refine Int32.toInt_inj.mp ?_
    rw [nI_toInt (by omega)]
    omega
theorem px_alen (hx : p.tables.exec = Jvm.exec) (hb : c.code = cc) (hK : va_K G.2.2.1 V.1 (px_tys V.2.1 G.2.2.2) s) (hC : px_okC V Y) (hH : px_H V.1 G C F H) {n : Nat} (he : px_len C Y.2.2.2 a = some n) (hdg : decode cc pc = .ok (.arraylength, 1))
    (kk : W p l e R s m args below meth c H locs cells slots Q (F0 m (pc + 1) ls (.int (nI n) :: rest))) : W p l e R s m args below meth c H locs cells slots Q (F0 m pc ls (.ref a :: rest)) := by
  unfold px_len at he
  split at he
  · rename_i n' f hc
    cases he
    exact va_alen hx hb hK (hH.one hc) 0 0 rfl (px_tys_at hC.2.1) rfl hdg kk
  · rename_i n' f hc
    cases he
    exact va_alen hx hb hK (hH.one hc) 0 1 rfl (px_tys_at hC.2.2.1) rfl hdg kk
  · rename_i t n' f hc
    cases hq : (Nat.ble 3 t && Nat.blt t Y.2.2.2) with
    | false =>
      rw [hq] at he
      cases he
    | true =>
      rw [hq] at he
      cases he
      rw [Bool.and_eq_true] at hq
      have q1 : 3 ≤ t := Nat.le_of_ble_eq_true hq.1
      have q2 : t < Y.2.2.2 := by simpa [Nat.blt_eq] using hq.2
      obtain ⟨r0, g1, g2⟩ := hC.2.2.2.2.1 t ⟨q1, q2⟩
      exact va_alen hx hb hK (hH.one hc) 0 t rfl (px_tys_at g2) rfl hdg kk
  · cases he
theorem px_new (hx : p.tables.exec = Jvm.exec) (hb : c.code = cc) {own C0 : String} {T : u_T} {N ci index : Nat} {Ts : List Cond} {df : List Value} (hts : ∀ w ∈ Ts, w.before args s = true) (hin : ∀ w ∈ u_ws C0 T N, w ∈ Ts) (ty : Nat → FieldType) (hty : ∀ k, k < N → parseFieldDescriptor (T k).2.2.1 = some (ty k)) (hown : s.vm.findClass own = some m.cls) (hcl : (Cond.classLink own index C0).before args s = true) (hinst : (Cond.instantiable C0 N).before args s = true) (hini : (Cond.initialized C0).before args s = true)
    (hK : va_K G.2.2.1 V.1 (px_tys V.2.1 G.2.2.2) s) (hH : px_H V.1 G C F H) (hc : V.1[ci]? = some (C0, T, N)) (hfs : ∀ j, j < N → defaultValue (ty j) = vp_V df j) (hcells : cells + 1 ≤ R.cells) (hslots : slots + N ≤ R.slots) (hdg : decode cc pc = .ok (.new index, 3))
    (kk : ∀ (q : Nat) (H1 : Heap), C q = none → G.1 ≤ q → px_H V.1 G (px_up C q (px_o ci df)) F H1 → W p l e R s m args below meth c H1 locs (cells + 1) (slots + N) Q (F0 m (pc + 3) ls (.ref q :: rest))) : W p l e R s m args below meth c H locs cells slots Q (F0 m pc ls rest) := by
  have hKn := hK.1 ci _ hc
  refine W.newcK hx hb hown hcl hinst hini rfl hdg hcells hslots hKn.2.1 rfl fun H1 kC hkC e1 z1 o1 => ?_
  exact kk H.size H1 hH.free hH.1 (hH.new z1 o1 ⟨_, hc, (u_born ty hts hin hKn hkC e1 hty).to hfs⟩)
theorem px_newi (hx : p.tables.exec = Jvm.exec) (hb : c.code = cc) (harr : (Cond.arrayClass .int).before args s = true) (hK : va_K G.2.2.1 V.1 (px_tys V.2.1 G.2.2.2) s) (hC : px_okC V Y) (hH : px_H V.1 G C F H) {n : Int32} (hn : ¬ n < 0) (hle : n.toNatClampNeg ≤ 65536) (hcells : cells + 1 ≤ R.cells) (hslots : slots + n.toNatClampNeg ≤ R.slots) (hdg : decode cc pc = .ok (.newarray .int, 2))
    (kk : ∀ (q : Nat) (H1 : Heap), C q = none → G.1 ≤ q → px_H V.1 G (px_up C q (px_i n.toNatClampNeg (fun _ => 0))) F H1 → W p l e R s m args below meth c H1 locs (cells + 1) (slots + n.toNatClampNeg) Q (F0 m (pc + 2) ls (.ref q :: rest))) : W p l e R s m args below meth c H locs cells slots Q (F0 m pc ls (.int n :: rest)) := by
  refine va_newaK (atype := .int) hx hb harr rfl hdg rfl hn rfl (by show n.toNatClampNeg * 4 ≤ 536870912; omega) hcells hslots rfl fun H1 cA e1 z1 o1 hAr hNm => ?_
  have hc : cA = G.2.2.2 0 := Option.some.inj (hNm.symm.trans (hK.2 0 _ (px_tys_at hC.2.1)).2)
  subst hc
  exact kk H.size H1 hH.free hH.1 (hH.new z1 o1 e1)
theorem px_newj (hx : p.tables.exec = Jvm.exec) (hb : c.code = cc) (harr : (Cond.arrayClass .long).before args s = true) (hK : va_K G.2.2.1 V.1 (px_tys V.2.1 G.2.2.2) s) (hC : px_okC V Y) (hH : px_H V.1 G C F H) {n : Int32} (hn : ¬ n < 0) (hle : n.toNatClampNeg ≤ 65536) (hcells : cells + 1 ≤ R.cells) (hslots : slots + n.toNatClampNeg ≤ R.slots) (hdg : decode cc pc = .ok (.newarray .long, 2))
    (kk : ∀ (q : Nat) (H1 : Heap), C q = none → G.1 ≤ q → px_H V.1 G (px_up C q (px_j n.toNatClampNeg (fun _ => 0))) F H1 → W p l e R s m args below meth c H1 locs (cells + 1) (slots + n.toNatClampNeg) Q (F0 m (pc + 2) ls (.ref q :: rest))) : W p l e R s m args below meth c H locs cells slots Q (F0 m pc ls (.int n :: rest)) := by
  refine va_newaK (atype := .long) hx hb harr rfl hdg rfl hn rfl (by show n.toNatClampNeg * 8 ≤ 536870912; omega) hcells hslots rfl fun H1 cA e1 z1 o1 hAr hNm => ?_
  have hc : cA = G.2.2.2 1 := Option.some.inj (hNm.symm.trans (hK.2 1 _ (px_tys_at hC.2.2.1)).2)
  subst hc
  exact kk H.size H1 hH.free hH.1 (hH.new z1 o1 e1)
theorem px_newz (hx : p.tables.exec = Jvm.exec) (hb : c.code = cc) (harr : (Cond.arrayClass .boolean).before args s = true) (hK : va_K G.2.2.1 V.1 (px_tys V.2.1 G.2.2.2) s) (hC : px_okC V Y) (hH : px_H V.1 G C F H) {n : Int32} (hn : ¬ n < 0) (hle : n.toNatClampNeg ≤ 65536) (hcells : cells + 1 ≤ R.cells) (hslots : slots + n.toNatClampNeg ≤ R.slots) (hdg : decode cc pc = .ok (.newarray .boolean, 2))
    (kk : ∀ (q : Nat) (H1 : Heap), C q = none → G.1 ≤ q → px_H V.1 G (px_up C q (px_z n.toNatClampNeg (fun _ => 0))) F H1 → W p l e R s m args below meth c H1 locs (cells + 1) (slots + n.toNatClampNeg) Q (F0 m (pc + 2) ls (.ref q :: rest))) : W p l e R s m args below meth c H locs cells slots Q (F0 m pc ls (.int n :: rest)) := by
  refine va_newaK (atype := .boolean) hx hb harr rfl hdg rfl hn rfl (by show n.toNatClampNeg * 1 ≤ 536870912; omega) hcells hslots rfl fun H1 cA e1 z1 o1 hAr hNm => ?_
  have hc : cA = G.2.2.2 2 := Option.some.inj (hNm.symm.trans (hK.2 2 _ (px_tys_at hC.2.2.2.1)).2)
  subst hc
  exact kk H.size H1 hH.free hH.1 (hH.new z1 o1 e1)
theorem px_newr (hx : p.tables.exec = Jvm.exec) (hb : c.code = cc) {own C0 : String} {index t : Nat} (hown : s.vm.findClass own = some m.cls) (hclink : (Cond.classLink own index C0).before args s = true) (hover : va_AO C0 s) (hK : va_K G.2.2.1 V.1 (px_tys V.2.1 G.2.2.2) s) (ht : V.2.1[t]? = some (FieldType.object C0)) (hH : px_H V.1 G C F H) {n : Int32} (hn : ¬ n < 0) (hle : n.toNatClampNeg ≤ 65536) (hcells : cells + 1 ≤ R.cells) (hslots : slots + n.toNatClampNeg ≤ R.slots) (hdg : decode cc pc = .ok (.anewarray index, 3))
    (kk : ∀ (q : Nat) (H1 : Heap), C q = none → G.1 ≤ q → px_H V.1 G (px_up C q (px_r t n.toNatClampNeg (fun _ => none))) F H1 → W p l e R s m args below meth c H1 locs (cells + 1) (slots + n.toNatClampNeg) Q (F0 m (pc + 3) ls (.ref q :: rest))) : W p l e R s m args below meth c H locs cells slots Q (F0 m pc ls (.int n :: rest)) := by
  refine W.anew hx hb hown hclink (va_AO.use hover) rfl hdg rfl hn (by omega) hcells hslots fun cA kA comp f1 f2 f3 f4 => ?_
  obtain ⟨kA', comp', k1, k2, k3, k4⟩ := (hK.2 t _ (px_tys_at ht)).2
  have hc : cA = G.2.2.2 t := Option.some.inj (f1.symm.trans k4)
  subst hc
  refine kk H.size _ hH.free hH.1 (hH.new (by rw [Array.size_push]) (fun q hq => by rw [Array.getElem?_push, if_neg (Nat.ne_of_lt hq)]) ?_)
  show _ = some (arrV (G.2.2.2 t) n.toNatClampNeg (fun _ => .null))
  rw [Array.getElem?_push_size, ← arrV_new]
theorem px_call {mc ms : Nat} {st0 : List Value} {Po : Option Value → px_P → Prop} {av : Array Value} (hr : va_Run p l e R s m args below meth c H locs cells slots mc ms (F0 m pc ls st0) rest (px_Q V.1 G F Po av) (fun q => G.1 ≤ q)) (hlo : ∀ q ∈ locs, G.1 ≤ q.base)
    (kk : ∀ (v : Option Value) (C1 : px_P) (H1 : Heap) (locs1 : List Loc), Po v C1 → px_H V.1 G C1 F H1 → (∀ q ∈ locs1, G.1 ≤ q.base) → W p l e R s m args below meth c H1 locs1 (cells + mc) (slots + ms) Q (F0 m (pc + 3) ls (v.toList ++ rest))) : W p l e R s m args below meth c H locs cells slots Q (F0 m pc ls st0) := by
  intro T hT X
  obtain ⟨v, st₀, t, T', L, h0, X', hL, e1, e2, hq, st⟩ := hr T hT X
  obtain ⟨v', C', hv, hp, hh⟩ := hq
  · cases hv
    obtain ⟨t2, a1, b1⟩ := kk v C' T'.heap (locs ++ L) hp (by rw [e1]; exact hh) (fun q hq => by
      rcases List.mem_append.mp hq with h | h
      · exact hlo q h
      · exact hL q h) T' rfl X'
    exact ⟨t2, st t2 a1, b1⟩
variable {nL fr0 lo0 : Nat} {own : String} {idx np : Nat} {M1 : px_M} {rm : Room} {mc1 ms1 : Nat} {Po1 : Option Value → px_P → Prop} {b : Nat} {st : List Value}
theorem px_callV {ci : Nat} {fs : List Value} {T1 : u_T} {N1 : Nat} (hx : p.tables.exec = Jvm.exec) (hb : c.code = cc) (hml : c.maxLocals = nL) (hown : s.vm.findClass own = some m.cls) (hts : ∀ w ∈ V.2.2.1, w.before args s = true) (hK : px_K V sc G s) (hwl : V.2.2.1.all px_wb = true) (hH : px_H V.1 G C F H) (hlo : ∀ q ∈ locs, G.1 ≤ q.base) (hsz : ls.size = nL)
    (g2 : px_lnk V.2.2.1 own idx M1 np fr0 lo0) (gc : Cond.code M1.1 M1.2.2.1 M1.2.2.2.1 M1.2.2.2.2.1 ∈ V.2.2.1) (g3 : Cond.instanceMethod M1.1 ∈ V.2.2.1) (g4 : Cond.selects M1.1.cls M1.1 M1.1 ∈ V.2.2.1) (g5 : V.1[ci]? = some (M1.1.cls, T1, N1)) (he : C b = some (px_o ci fs)) (f2 : rm.cells = mc1) (f3 : rm.slots = ms1) (f4 : rm.frames + 1 ≤ R.frames) (f5 : 8 + (M1.2.2.2.1 + 11) + rm.locals ≤ R.locals)
    (hMet : Met l M1.1 [Cond.code M1.1 M1.2.2.1 M1.2.2.2.1 M1.2.2.2.2.1] rm (px_Pc V sc G F (.ref b :: (st.take np).reverse) C) (px_Q V.1 G F Po1) mc1 ms1 (fun q => G.1 ≤ q))
    (hst : st.drop np = .ref b :: rest) (h8 : px_cat rest ≤ 8) (hd : decode cc pc = .ok (.invokevirtual idx, 3)) (hc1 : cells + mc1 ≤ R.cells) (hs1 : slots + ms1 ≤ R.slots)
    (kk : ∀ (v : Option Value) (C1 : px_P) (H1 : Heap) (locs1 : List Loc), Po1 v C1 → px_H V.1 G C1 F H1 → (∀ q ∈ locs1, G.1 ≤ q.base) → W p l e R s m args below meth c H1 locs1 (cells + mc1) (slots + ms1) Q (F0 m (pc + 3) ls (v.toList ++ rest))) : W p l e R s m args below meth c H locs cells slots Q (F0 m pc ls st) := by
  have hlt : np < st.length := by
    have := congrArg List.length hst
    simp at this
    omega
  have hlen : (st.take np).reverse.length = np := by simp; omega
  have hstk : st = (st.take np).reverse.reverse ++ .ref b :: rest := by rw [List.reverse_reverse, ← hst, List.take_append_drop]
  have hws : ∀ w ∈ [Cond.code M1.1 M1.2.2.1 M1.2.2.2.1 M1.2.2.2.2.1], ∀ (a' : Array Value) (U : State), s.WarmedH U.vm → w.before a' U = true := by
    intro w hw a' U hW
    rw [List.mem_singleton] at hw
    subst hw
    exact word_at hW (Or.inl rfl) (hts _ gc)
  have hpar : ∀ sig, parseMethodDescriptor M1.1.desc = some sig → np = sig.parameters.length := fun sig h => by
    have h2 := g2.2.2.1.2.2
    rw [h] at h2
    exact (Option.some.inj h2).symm
  have hrecv : ∃ cellB : Cell, H[b]? = some cellB ∧ cellB.vm.isStatics = false ∧ s.vm.findClass M1.1.cls = some cellB.cls := va_recv (q := (M1.1.cls, T1, N1)) hK.1 (hH.one he) g5 (q0 := 0) rfl
  refine px_call (av := (Value.ref b :: (st.take np).reverse).toArray) ?_ hlo kk
  rcases g2.1 with hm | ⟨host, hm⟩
  · exact va_runV (As := (st.take np).reverse) (rest := rest) ⟨hx, hb, hml, hown, hts⟩ hMet ⟨⟨f2, f3, f4, f5, hws, List.mem_cons_self, hts _ gc, hts _ g2.2.1, ⟨g2.2.2.1.1, g2.2.2.1.2.1⟩, hpar, hts _ hm⟩, hts _ g3, hts _ g4⟩ ⟨px_blind hwl, hrecv, fun U hU hW => ⟨rfl, by rw [hU]; exact hH, px_K.moved hwl hW hK⟩⟩ rfl hlen hsz hstk (lv_room h8) hd ⟨hc1, hs1⟩
  · exact va_runVN (As := (st.take np).reverse) (rest := rest) ⟨hx, hb, hml, hown, hts⟩ hMet ⟨⟨⟨f2, f3, f4, f5, hws, List.mem_cons_self⟩, hts _ gc, hts _ g2.2.1, ⟨g2.2.2.1.1, g2.2.2.1.2.1⟩, hpar, hts _ hm⟩, hts _ g3, hts _ g4⟩ ⟨px_blind hwl, hrecv, fun U hU hW => ⟨rfl, by rw [hU]; exact hH, px_K.moved hwl hW hK⟩⟩ rfl hlen hsz hstk (lv_room h8) hd ⟨hc1, hs1⟩
theorem px_callI (hx : p.tables.exec = Jvm.exec) (hb : c.code = cc) (hml : c.maxLocals = nL) (hown : s.vm.findClass own = some m.cls) (hts : ∀ w ∈ V.2.2.1, w.before args s = true) (hK : px_K V sc G s) (hwl : V.2.2.1.all px_wb = true) (hH : px_H V.1 G C F H) (hlo : ∀ q ∈ locs, G.1 ≤ q.base) (hsz : ls.size = nL)
    (g2 : px_lnk V.2.2.1 own idx M1 np fr0 lo0) (gc : Cond.code M1.1 M1.2.2.1 M1.2.2.2.1 M1.2.2.2.2.1 ∈ V.2.2.1) (g3 : M1.1.name = "<init>") (g4 : M1.2.2.2.2.1 = none) (g5 : Cond.instanceMethod M1.1 ∈ V.2.2.1) (f2 : rm.cells = mc1) (f3 : rm.slots = ms1) (f4 : rm.frames + 1 ≤ R.frames) (f5 : 8 + (M1.2.2.2.1 + 11) + rm.locals ≤ R.locals)
    (hMet : Met l M1.1 [Cond.code M1.1 M1.2.2.1 M1.2.2.2.1 M1.2.2.2.2.1] rm (px_Pc V sc G F (.ref b :: (st.take np).reverse) C) (px_Q V.1 G F Po1) mc1 ms1 (fun q => G.1 ≤ q))
    (hst : st.drop np = .ref b :: rest) (h8 : px_cat rest ≤ 8) (hd : decode cc pc = .ok (.invokespecial idx, 3)) (hc1 : cells + mc1 ≤ R.cells) (hs1 : slots + ms1 ≤ R.slots)
    (kk : ∀ (v : Option Value) (C1 : px_P) (H1 : Heap) (locs1 : List Loc), Po1 v C1 → px_H V.1 G C1 F H1 → (∀ q ∈ locs1, G.1 ≤ q.base) → W p l e R s m args below meth c H1 locs1 (cells + mc1) (slots + ms1) Q (F0 m (pc + 3) ls (v.toList ++ rest))) : W p l e R s m args below meth c H locs cells slots Q (F0 m pc ls st) := by
  have hlt : np < st.length := by
    have := congrArg List.length hst
    simp at this
    omega
  have hlen : (st.take np).reverse.length = np := by simp; omega
  have hstk : st = (st.take np).reverse.reverse ++ .ref b :: rest := by rw [List.reverse_reverse, ← hst, List.take_append_drop]
  have hws : ∀ w ∈ [Cond.code M1.1 M1.2.2.1 M1.2.2.2.1 none], ∀ (a' : Array Value) (U : State), s.WarmedH U.vm → w.before a' U = true := by
    intro w hw a' U hW
    rw [List.mem_singleton] at hw
    subst hw
    rw [g4] at gc
    exact word_at hW (Or.inl rfl) (hts _ gc)
  rw [g4] at gc hMet
  have hpar : ∀ sig, parseMethodDescriptor M1.1.desc = some sig → np = sig.parameters.length := fun sig h => by
    have h2 := g2.2.2.1.2.2
    rw [h] at h2
    exact (Option.some.inj h2).symm
  refine px_call (av := (Value.ref b :: (st.take np).reverse).toArray) ?_ hlo kk
  rcases g2.1 with hm | ⟨host, hm⟩
  · exact va_runI (As := (st.take np).reverse) (rest := rest) ⟨hx, hb, hml, hown, hts⟩ hMet ⟨⟨f2, f3, f4, f5, hws, List.mem_cons_self, hts _ gc, hts _ g2.2.1, ⟨g2.2.2.1.1, g2.2.2.1.2.1⟩, hpar, hts _ hm⟩, g3, hts _ g5⟩ ⟨px_blind hwl, fun U hU hW => ⟨rfl, by rw [hU]; exact hH, px_K.moved hwl hW hK⟩⟩ rfl hlen hsz hstk (lv_room h8) hd ⟨hc1, hs1⟩
  · exact va_runIN (As := (st.take np).reverse) (rest := rest) ⟨hx, hb, hml, hown, hts⟩ hMet ⟨⟨⟨f2, f3, f4, f5, hws, List.mem_cons_self⟩, hts _ gc, hts _ g2.2.1, ⟨g2.2.2.1.1, g2.2.2.1.2.1⟩, hpar, hts _ hm⟩, g3, hts _ g5⟩ ⟨px_blind hwl, fun U hU hW => ⟨rfl, by rw [hU]; exact hH, px_K.moved hwl hW hK⟩⟩ rfl hlen hsz hstk (lv_room h8) hd ⟨hc1, hs1⟩
theorem px_callS (hx : p.tables.exec = Jvm.exec) (hb : c.code = cc) (hml : c.maxLocals = nL) (hown : s.vm.findClass own = some m.cls) (hts : ∀ w ∈ V.2.2.1, w.before args s = true) (hK : px_K V sc G s) (hwl : V.2.2.1.all px_wb = true) (hH : px_H V.1 G C F H) (hlo : ∀ q ∈ locs, G.1 ≤ q.base) (hsz : ls.size = nL)
    (g2 : px_lnk V.2.2.1 own idx M1 np fr0 lo0) (gc : Cond.code M1.1 M1.2.2.1 M1.2.2.2.1 M1.2.2.2.2.1 ∈ V.2.2.1) (g3 : Cond.static M1.1 ∈ V.2.2.1) (f2 : rm.cells = mc1) (f3 : rm.slots = ms1) (f4 : rm.frames + 1 ≤ R.frames) (f5 : 8 + (M1.2.2.2.1 + 11) + rm.locals ≤ R.locals)
    (hMet : Met l M1.1 [Cond.code M1.1 M1.2.2.1 M1.2.2.2.1 M1.2.2.2.2.1] rm (px_Pc V sc G F (st.take np).reverse C) (px_Q V.1 G F Po1) mc1 ms1 (fun q => G.1 ≤ q))
    (hnp : np ≤ st.length) (h8 : px_cat (st.drop np) ≤ 8) (hd : decode cc pc = .ok (.invokestatic idx, 3)) (hc1 : cells + mc1 ≤ R.cells) (hs1 : slots + ms1 ≤ R.slots)
    (kk : ∀ (v : Option Value) (C1 : px_P) (H1 : Heap) (locs1 : List Loc), Po1 v C1 → px_H V.1 G C1 F H1 → (∀ q ∈ locs1, G.1 ≤ q.base) → W p l e R s m args below meth c H1 locs1 (cells + mc1) (slots + ms1) Q (F0 m (pc + 3) ls (v.toList ++ st.drop np))) : W p l e R s m args below meth c H locs cells slots Q (F0 m pc ls st) := by
  have hlen : (st.take np).reverse.length = np := by simp; omega
  have hstk : st = (st.take np).reverse.reverse ++ st.drop np := by rw [List.reverse_reverse, List.take_append_drop]
  have hws : ∀ w ∈ [Cond.code M1.1 M1.2.2.1 M1.2.2.2.1 M1.2.2.2.2.1], ∀ (a' : Array Value) (U : State), s.WarmedH U.vm → w.before a' U = true := by
    intro w hw a' U hW
    rw [List.mem_singleton] at hw
    subst hw
    exact word_at hW (Or.inl rfl) (hts _ gc)
  have hpar : ∀ sig, parseMethodDescriptor M1.1.desc = some sig → np = sig.parameters.length := fun sig h => by
    have h2 := g2.2.2.1.2.2
    rw [h] at h2
    exact (Option.some.inj h2).symm
  refine px_call (av := (st.take np).reverse.toArray) ?_ hlo kk
  rcases g2.1 with hm | ⟨host, hm⟩
  · exact va_runS (As := (st.take np).reverse) (rest := st.drop np) ⟨hx, hb, hml, hown, hts⟩ hMet ⟨⟨f2, f3, f4, f5, hws, List.mem_cons_self, hts _ gc, hts _ g2.2.1, ⟨g2.2.2.1.1, g2.2.2.1.2.1⟩, hpar, hts _ hm⟩, hts _ g3⟩ ⟨px_blind hwl, fun U hU hW => ⟨rfl, by rw [hU]; exact hH, px_K.moved hwl hW hK⟩⟩ rfl hlen hsz hstk (lv_room h8) hd ⟨hc1, hs1⟩
  · exact va_runSN (As := (st.take np).reverse) (rest := st.drop np) ⟨hx, hb, hml, hown, hts⟩ hMet ⟨⟨⟨f2, f3, f4, f5, hws, List.mem_cons_self⟩, hts _ gc, hts _ g2.2.1, ⟨g2.2.2.1.1, g2.2.2.1.2.1⟩, hpar, hts _ hm⟩, hts _ g3, trivial⟩ ⟨px_blind hwl, fun U hU hW => ⟨rfl, by rw [hU]; exact hH, px_K.moved hwl hW hK⟩⟩ rfl hlen hsz hstk (lv_room h8) hd ⟨hc1, hs1⟩
end PXS
end
section
theorem px_cw0 {M : px_M} (h : px_hh M = []) : px_cw M = Cond.code M.1 M.2.2.1 M.2.2.2.1 M.2.2.2.2.1 := by
  unfold px_cw
  rw [h]
section PXT
variable {p : Program} {l : Launch} {e : Env} {R : Room} {s : State} {m : MethodId} {args : Array Value} {below : List Frame} {meth : Method} {c : Code} {H : Heap} {locs : List Loc} {cells slots : Nat} {Q : State → Prop}
variable {cc : ByteArray} {pc : Nat} {ls : Array Slot} {rest : List Value} {V : px_V} {sc : Option (Nat × Nat × (Nat → Int32))} {Y : px_L} {G : px_G} {C F : px_P} {a : Nat}
variable {nL fr0 lo0 : Nat} {own : String} {idx np : Nat} {M1 : px_M} {rm : Room} {mc1 ms1 : Nat} {Po1 : Option Value → px_P → Prop} {Pt1 : Nat → px_P → Prop} {b : Nat} {st : List Value}
/-- a static call of a method with handlers -/
theorem px_callSH {q0 : Nat × Nat × Nat × Nat} {r0 : List (Nat × Nat × Nat × Nat)} (hx : p.tables.exec = Jvm.exec) (hb : c.code = cc) (hml : c.maxLocals = nL) (hown : s.vm.findClass own = some m.cls) (hts : ∀ w ∈ V.2.2.1, w.before args s = true) (hK : px_K V sc G s) (hwl : V.2.2.1.all px_wb = true) (hH : px_H V.1 G C F H) (hlo : ∀ q ∈ locs, G.1 ≤ q.base) (hsz : ls.size = nL)
    (g2 : px_lnk V.2.2.1 own idx M1 np fr0 lo0) (gm : Cond.methodLink own idx M1.1 ∈ V.2.2.1) (gc : Cond.codeWith M1.1 M1.2.2.1 M1.2.2.2.1 M1.2.2.2.2.1 (q0 :: r0) ∈ V.2.2.1) (g3 : Cond.static M1.1 ∈ V.2.2.1) (f2 : rm.cells = mc1) (f3 : rm.slots = ms1) (f4 : rm.frames + 1 ≤ R.frames) (f5 : 8 + (M1.2.2.2.1 + 11) + rm.locals ≤ R.locals)
    (hMet : Met l M1.1 [Cond.codeWith M1.1 M1.2.2.1 M1.2.2.2.1 M1.2.2.2.2.1 (q0 :: r0)] rm (px_Pc V sc G F (st.take np).reverse C) (px_Q V.1 G F Po1) mc1 ms1 (fun q => G.1 ≤ q))
    (hnp : np ≤ st.length) (h8 : px_cat (st.drop np) ≤ 8) (hd : decode cc pc = .ok (.invokestatic idx, 3)) (hc1 : cells + mc1 ≤ R.cells) (hs1 : slots + ms1 ≤ R.slots)
    (kk : ∀ (v : Option Value) (C1 : px_P) (H1 : Heap) (locs1 : List Loc), Po1 v C1 → px_H V.1 G C1 F H1 → (∀ q ∈ locs1, G.1 ≤ q.base) → W p l e R s m args below meth c H1 locs1 (cells + mc1) (slots + ms1) Q (F0 m (pc + 3) ls (v.toList ++ st.drop np))) : W p l e R s m args below meth c H locs cells slots Q (F0 m pc ls st) := by
  have hlen : (st.take np).reverse.length = np := by simp; omega
  have hstk : st = (st.take np).reverse.reverse ++ st.drop np := by rw [List.reverse_reverse, List.take_append_drop]
  have hws : ∀ w ∈ [Cond.codeWith M1.1 M1.2.2.1 M1.2.2.2.1 M1.2.2.2.2.1 (q0 :: r0)], ∀ (a' : Array Value) (U : State), s.WarmedH U.vm → w.before a' U = true := by
    intro w hw a' U hW
    rw [List.mem_singleton] at hw
    subst hw
    exact word_at hW (Or.inl rfl) (hts _ gc)
  have hpar : ∀ sig, parseMethodDescriptor M1.1.desc = some sig → np = sig.parameters.length := fun sig h => by
    have h2 := g2.2.2.1.2.2
    rw [h] at h2
    exact (Option.some.inj h2).symm
  refine px_call (av := (st.take np).reverse.toArray) ?_ hlo kk
  exact vx_runSW (As := (st.take np).reverse) (rest := st.drop np) ⟨hx, hb, hml, hown, hts⟩ hMet ⟨⟨f2, f3, f4, f5, hws, List.mem_cons_self⟩, hts _ gc, hts _ g2.2.1, ⟨g2.2.2.1.1, g2.2.2.1.2.1⟩, hpar, hts _ gm, hts _ g3⟩ ⟨px_blind hwl, fun U hU hW => ⟨rfl, by rw [hU]; exact hH, px_K.moved hwl hW hK⟩⟩ rfl hlen hsz hstk (lv_room h8) hd ⟨hc1, hs1⟩
/-- behind a call that may throw -/
theorem px_callT {mc ms : Nat} {st0 : List Value} {Po : Option Value → px_P → Prop} {Pt : Nat → px_P → Prop} {av : Array Value} (hr : vx_Run p l e R s m args below meth c H locs cells slots mc ms (F0 m pc ls st0) rest (px_Q V.1 G F Po av) (px_X V.1 G F Pt) (fun q => G.1 ≤ q)) (hlo : ∀ q ∈ locs, G.1 ≤ q.base)
    (kk : ∀ (v : Option Value) (C1 : px_P) (H1 : Heap) (locs1 : List Loc), Po v C1 → px_H V.1 G C1 F H1 → (∀ q ∈ locs1, G.1 ≤ q.base) → W p l e R s m args below meth c H1 locs1 (cells + mc) (slots + ms) Q (F0 m (pc + 3) ls (v.toList ++ rest)))
    (kx : ∀ (kd : Nat) (C1 : px_P) (H1 : Heap) (locs1 : List Loc) (q : Nat) (ce : Cell), Pt kd C1 → px_H V.1 G C1 F H1 → (∀ q ∈ locs1, G.1 ≤ q.base) → H1[q]? = some ce → ce.vm = .none → s.vm.findClass (px_ex kd) = some ce.cls → vx_W p l e R s m args below meth c H1 locs1 (cells + mc) (slots + ms) Q (F0 m pc ls rest) q) : W p l e R s m args below meth c H locs cells slots Q (F0 m pc ls st0) := by
  intro T hT X
  have hap : ∀ L : List Loc, (∀ q ∈ L, G.1 ≤ q.base) → ∀ q ∈ locs ++ L, G.1 ≤ q.base := fun L hL q hq => by
    rcases List.mem_append.mp hq with h | h
    · exact hlo q h
    · exact hL q h
  rcases hr T hT X with ⟨v, st₀, t, T', L, h0, X', hL, e1, e2, hq, st⟩ | ⟨q, st₀, t, T', L, E, ce, h0, X', hL, e1, e2, hq, hce, hcv, hcl, st⟩
  · obtain ⟨v', C', hv, hp, hh⟩ := hq
    cases hv
    obtain ⟨t2, a1, b1⟩ := kk v C' T'.heap (locs ++ L) hp (by rw [e1]; exact hh) (hap L hL) T' rfl X'
    exact ⟨t2, st t2 a1, b1⟩
  · obtain ⟨kd, C', rfl, hp, hh⟩ := hq
    obtain ⟨t2, a1, b1⟩ := kx kd C' T'.heap (locs ++ L) q ce hp (by rw [e1]; exact hh) (hap L hL) (by rw [e1]; exact hce) hcv hcl T' rfl X'
    exact ⟨t2, st.trans a1, b1⟩
theorem px_callVT {ci : Nat} {fs : List Value} {T1 : u_T} {N1 : Nat} (hx : p.tables.exec = Jvm.exec) (hb : c.code = cc) (hml : c.maxLocals = nL) (hown : s.vm.findClass own = some m.cls) (hts : ∀ w ∈ V.2.2.1, w.before args s = true) (hK : px_K V sc G s) (hwl : V.2.2.1.all px_wb = true) (hH : px_H V.1 G C F H) (hlo : ∀ q ∈ locs, G.1 ≤ q.base) (hsz : ls.size = nL)
    (g2 : px_lnk V.2.2.1 own idx M1 np fr0 lo0) (gm : Cond.methodLink own idx M1.1 ∈ V.2.2.1) (gc : Cond.code M1.1 M1.2.2.1 M1.2.2.2.1 M1.2.2.2.2.1 ∈ V.2.2.1) (g3 : Cond.instanceMethod M1.1 ∈ V.2.2.1) (g4 : Cond.selects M1.1.cls M1.1 M1.1 ∈ V.2.2.1) (g5 : V.1[ci]? = some (M1.1.cls, T1, N1)) (he : C b = some (px_o ci fs)) (f2 : rm.cells = mc1) (f3 : rm.slots = ms1) (f4 : rm.frames + 1 ≤ R.frames) (f5 : 8 + (M1.2.2.2.1 + 11) + rm.locals ≤ R.locals)
    (hMet : vx_Met l M1.1 [Cond.code M1.1 M1.2.2.1 M1.2.2.2.1 M1.2.2.2.2.1] rm (px_Pc V sc G F (.ref b :: (st.take np).reverse) C) (px_Q V.1 G F Po1) (px_X V.1 G F Pt1) mc1 ms1 (fun q => G.1 ≤ q))
    (hst : st.drop np = .ref b :: rest) (h8 : px_cat rest ≤ 8) (hd : decode cc pc = .ok (.invokevirtual idx, 3)) (hc1 : cells + mc1 ≤ R.cells) (hs1 : slots + ms1 ≤ R.slots)
    (kk : ∀ (v : Option Value) (C1 : px_P) (H1 : Heap) (locs1 : List Loc), Po1 v C1 → px_H V.1 G C1 F H1 → (∀ q ∈ locs1, G.1 ≤ q.base) → W p l e R s m args below meth c H1 locs1 (cells + mc1) (slots + ms1) Q (F0 m (pc + 3) ls (v.toList ++ rest)))
    (kx : ∀ (kd : Nat) (C1 : px_P) (H1 : Heap) (locs1 : List Loc) (q : Nat) (ce : Cell), Pt1 kd C1 → px_H V.1 G C1 F H1 → (∀ q ∈ locs1, G.1 ≤ q.base) → H1[q]? = some ce → ce.vm = .none → s.vm.findClass (px_ex kd) = some ce.cls → vx_W p l e R s m args below meth c H1 locs1 (cells + mc1) (slots + ms1) Q (F0 m pc ls rest) q) : W p l e R s m args below meth c H locs cells slots Q (F0 m pc ls st) := by
  have hlt : np < st.length := by
    have := congrArg List.length hst
    simp at this
    omega
  have hlen : (st.take np).reverse.length = np := by simp; omega
  have hstk : st = (st.take np).reverse.reverse ++ .ref b :: rest := by rw [List.reverse_reverse, ← hst, List.take_append_drop]
  have hws : ∀ w ∈ [Cond.code M1.1 M1.2.2.1 M1.2.2.2.1 M1.2.2.2.2.1], ∀ (a' : Array Value) (U : State), s.WarmedH U.vm → w.before a' U = true := by
    intro w hw a' U hW
    rw [List.mem_singleton] at hw
    subst hw
    exact word_at hW (Or.inl rfl) (hts _ gc)
  have hpar : ∀ sig, parseMethodDescriptor M1.1.desc = some sig → np = sig.parameters.length := fun sig h => by
    have h2 := g2.2.2.1.2.2
    rw [h] at h2
    exact (Option.some.inj h2).symm
  have hrecv : ∃ cellB : Cell, H[b]? = some cellB ∧ cellB.vm.isStatics = false ∧ s.vm.findClass M1.1.cls = some cellB.cls := va_recv (q := (M1.1.cls, T1, N1)) hK.1 (hH.one he) g5 (q0 := 0) rfl
  refine px_callT (av := (Value.ref b :: (st.take np).reverse).toArray) ?_ hlo kk kx
  exact vx_runV (As := (st.take np).reverse) (rest := rest) ⟨hx, hb, hml, hown, hts⟩ hMet ⟨⟨f2, f3, f4, f5, hws, List.mem_cons_self, hts _ gc, hts _ g2.2.1, ⟨g2.2.2.1.1, g2.2.2.1.2.1⟩, hpar, hts _ gm⟩, hts _ g3, hts _ g4⟩ ⟨px_blind hwl, hrecv, fun U hU hW => ⟨rfl, by rw [hU]; exact hH, px_K.moved hwl hW hK⟩⟩ rfl hlen hsz hstk (lv_room h8) hd ⟨hc1, hs1⟩
/-- what is thrown finds its handler -/
theorem px_caught {M : px_M} {P : List px_M} {kd q : Nat} {ce : Cell} {Z : Nat → Prop} (hC : px_okC V Y) (hM : px_okM V P M) (hown : s.vm.findClass M.2.1 = some m.cls) (hts : ∀ w ∈ V.2.2.1, w.before args s = true) (hK : px_K V sc G s) (hcell : H[q]? = some ce) (hv : ce.vm = .none) (hcl : s.vm.findClass (px_ex kd) = some ce.cls)
    (hZ : ∀ h, Z h → W p l e R s m args below meth c H locs cells slots Q (F0 m h ls [.ref q])) :
    ∀ (suf pre : List (Nat × Nat × Nat × Nat)), c.exceptionTable.toList = tableOf (pre ++ suf) → px_hh M = pre ++ suf → (∀ z ∈ pre, (Nat.ble z.1 pc && Nat.blt pc z.2.1 && px_isk (px_po M) z.2.2.2 kd) = false) → px_hd (px_po M) pc kd Z suf → vx_W p l e R s m args below meth c H locs cells slots Q (F0 m pc ls rest) q := by
  intro suf
  induction suf with
  | nil => intro pre _ _ _ h; exact h.elim
  | cons x r ih =>
    intro pre ht hh hp h
    obtain ⟨a1, b1, h1, ix⟩ := x
    have h2 : cond (Nat.ble a1 pc && Nat.blt pc b1 && px_isk (px_po M) ix kd) (Z h1) (px_hd (px_po M) pc kd Z r) := h
    have hrow : px_hok V M (a1, b1, h1, ix) := hM.2.2.1 _ (by rw [hh]; exact List.mem_append_right _ List.mem_cons_self)
    cases hb : (Nat.ble a1 pc && Nat.blt pc b1 && px_isk (px_po M) ix kd) with
    | false =>
      rw [hb] at h2
      refine ih (pre ++ [(a1, b1, h1, ix)]) (by rw [ht]; simp) (by rw [hh]; simp) (fun z hz => ?_) h2
      rcases List.mem_append.mp hz with hz | hz
      · exact hp z hz
      · rw [List.mem_singleton] at hz
        subst hz
        exact hb
    | true =>
      rw [hb] at h2
      rw [Bool.and_eq_true, Bool.and_eq_true] at hb
      obtain ⟨hix, kd2, hpl, hkd2⟩ := hrow
      have hk2 : kd2 = kd := by
        have h9 := hb.2
        unfold px_isk at h9
        rw [hpl] at h9
        exact Nat.eq_of_beq_eq_true h9
      subst hk2
      have hlnk : Cond.classLink M.2.1 ix (px_ex kd2) ∈ V.2.2.1 := by
        have := hM.2.1 _ (px_pl_mem hpl)
        rcases hkd2 with rfl | rfl | rfl <;> exact this
      refine vx_catch (own := M.2.1) (name := px_ex kd2) (E := px_ex kd2) hown (tableOf pre) ⟨a1, b1, h1, ix⟩ (tableOf r) (by rw [ht]; simp [tableOf]) ?_ ?_ hix (hts _ hlnk) (hts _ ((hC.2.2.2.2.2.2 kd2 kd2 hkd2 hkd2).1 rfl)) hcell hv hcl (hZ h1 h2)
      · intro z hz
        obtain ⟨w, hw, rfl⟩ := List.mem_map.mp hz
        obtain ⟨hw0, kd3, hpl3, hkd3⟩ := hM.2.2.1 w (by rw [hh]; exact List.mem_append_left _ hw)
        have hpw := hp w hw
        by_cases hne : kd3 = kd2
        · subst hne
          left
          have hisk : px_isk (px_po M) w.2.2.2 kd3 = true := by
            unfold px_isk
            rw [hpl3]
            exact Nat.beq_refl _
          rw [hisk, Bool.and_true] at hpw
          show (decide (w.1 ≤ pc) && decide (pc < w.2.1)) = false
          rw [Bool.and_eq_false_iff] at hpw ⊢
          rcases hpw with h9 | h9
          · left
            exact decide_eq_false (fun q => by rw [Nat.ble_eq_true_of_le q] at h9; cases h9)
          · right
            exact decide_eq_false (fun q => by have : Nat.blt pc w.2.1 = true := Nat.ble_eq_true_of_le q; rw [this] at h9; cases h9)
        · right
          refine ⟨hw0, px_ex kd3, hts _ ?_, hK.2.2.2.2.2.2.1 _ ((hC.2.2.2.2.2.2 kd2 kd3 hkd2 hkd3).2 (fun q => hne q.symm))⟩
          have := hM.2.1 _ (px_pl_mem hpl3)
          rcases hkd3 with rfl | rfl | rfl <;> exact this
      · show (decide (a1 ≤ pc) && decide (pc < b1)) = true
        rw [Bool.and_eq_true]
        exact ⟨decide_eq_true (Nat.le_of_ble_eq_true hb.1.1), decide_eq_true (Nat.le_of_ble_eq_true hb.1.2)⟩
end PXT
end
section
theorem px_pok20 {V : px_V} {P : List px_M} {M0 : px_M} {idx ci j : Nat} {np : Int} (h : px_pok V P M0 (idx, ci + 20, j, np)) (hc : ci < 10) : ∃ M T N, P[j]? = some M ∧ px_lnk V.2.2.1 M0.2.1 idx M np.toNat (px_fr M0) (px_lo M0) ∧ px_hh M = [] ∧ Cond.methodLink M0.2.1 idx M.1 ∈ V.2.2.1 ∧ Cond.instanceMethod M.1 ∈ V.2.2.1 ∧ Cond.selects M.1.cls M.1 M.1 ∈ V.2.2.1 ∧ V.1[ci]? = some (M.1.cls, T, N) := by
  rcases (by omega : ci = 0 ∨ ci = 1 ∨ ci = 2 ∨ ci = 3 ∨ ci = 4 ∨ ci = 5 ∨ ci = 6 ∨ ci = 7 ∨ ci = 8 ∨ ci = 9) with rfl | rfl | rfl | rfl | rfl | rfl | rfl | rfl | rfl | rfl <;> exact h
theorem px_pok10 {V : px_V} {P : List px_M} {M0 : px_M} {idx ci j : Nat} {np : Int} (h : px_pok V P M0 (idx, ci + 10, j, np)) (hc : ci < 10) : ∃ M T N, P[j]? = some M ∧ px_lnk V.2.2.1 M0.2.1 idx M np.toNat (px_fr M0) (px_lo M0) ∧ px_hh M = [] ∧ Cond.instanceMethod M.1 ∈ V.2.2.1 ∧ Cond.selects M.1.cls M.1 M.1 ∈ V.2.2.1 ∧ V.1[ci]? = some (M.1.cls, T, N) := by
  rcases (by omega : ci = 0 ∨ ci = 1 ∨ ci = 2 ∨ ci = 3 ∨ ci = 4 ∨ ci = 5 ∨ ci = 6 ∨ ci = 7 ∨ ci = 8 ∨ ci = 9) with rfl | rfl | rfl | rfl | rfl | rfl | rfl | rfl | rfl | rfl <;> exact h
def px_rm (M : px_M) (mc ms : Nat) : Room := { frames := px_fr M, cells := mc, slots := ms, locals := px_lo M }
set_option maxHeartbeats 4000000 in
/-- every instruction -/
theorem px_step {p : Program} {l : Launch} {e : Env} {R : Room} {s : State} {m : MethodId} {args : Array Value} {below : List Frame} {meth : Method} {c : Code} {V : px_V} {Y : px_L} {P : List px_M} {G : px_G} {F : px_P} {cal : px_Cal} {mc ms : Nat} {sc sm : Option (Nat × Nat × (Nat → Int32))} {M : px_M} {Po : Option Value → px_P → Prop} {Pt : Nat → px_P → Prop} {Qw : State → Prop} {X : px_S → Prop}
    (hx : p.tables.exec = Jvm.exec) (hb : c.code = M.2.2.1) (hml : c.maxLocals = M.2.2.2.1) (htab : c.exceptionTable.toList = tableOf (px_hh M)) (hown : s.vm.findClass M.2.1 = some m.cls) (hnm : meth.name = M.1.name) (hK : px_K V sc G s) (hC : px_okC V Y) (hM : px_okM V P M) (hPc : ∀ (j : Nat) (M' : px_M), P[j]? = some M' → px_cw M' ∈ V.2.2.1)
    (hRf : px_fr M ≤ R.frames) (hRl : px_lo M ≤ R.locals) (hRc : mc ≤ R.cells) (hRs : ms ≤ R.slots)
    (hcal : ∀ j av C mc' ms' Po' Pt', cal j av C mc' ms' Po' Pt' → ∃ M', P[j]? = some M' ∧ vx_Met l M'.1 [px_cw M'] (px_rm M' mc' ms') (px_Pc V sc G F av C) (px_Q V.1 G F Po') (px_X V.1 G F Pt') mc' ms' (fun q => G.1 ≤ q))
    (hsc : ∀ b N xs, sm = some (b, N, xs) → ∀ H : Heap, (∀ q : Nat, q < G.1 → H[q]? = G.2.1[q]?) → va_X b N xs s H)
    (hth : ∀ (pc idx kd : Nat) (N : Int) (L : List (Nat × Value)) (C : px_P) (k n : Nat) (H : Heap) (locs : List Loc) (ls : Array Slot), (pc, Instr.new idx, 3) ∈ px_co M → px_pl (px_po M) idx = some (8, kd, N) → k + 1 ≤ mc → n + 6 ≤ ms → Pt kd C → px_H V.1 G C F H → lv_has ls M.2.2.2.1 L → (∀ q ∈ locs, G.1 ≤ q.base) → W p l e R s m args below meth c H locs k n Qw (F0 m pc ls []))
    (hri : ∀ (pc : Nat) (C : px_P) (k n : Nat) (H : Heap) (locs : List Loc) (ls : Array Slot) (v : Int32), decode M.2.2.1 pc = .ok (.ireturn, 1) → px_rt M.2.2.2.2.1 v (Po (some (.int v)) C) → px_H V.1 G C F H → (∀ q ∈ locs, G.1 ≤ q.base) → k ≤ mc → n ≤ ms → W p l e R s m args below meth c H locs k n Qw (F0 m pc ls [.int v]))
    (hrl : ∀ (pc : Nat) (C : px_P) (k n : Nat) (H : Heap) (locs : List Loc) (ls : Array Slot) (v : Int64), decode M.2.2.1 pc = .ok (.lreturn, 1) → px_rl M.2.2.2.2.1 (Po (some (.long v)) C) → px_H V.1 G C F H → (∀ q ∈ locs, G.1 ≤ q.base) → k ≤ mc → n ≤ ms → W p l e R s m args below meth c H locs k n Qw (F0 m pc ls [.long v]))
    (hra : ∀ (pc : Nat) (C : px_P) (k n : Nat) (H : Heap) (locs : List Loc) (ls : Array Slot) (v : Value), decode M.2.2.1 pc = .ok (.areturn, 1) → (v = .null ∨ ∃ a, v = .ref a) → px_ra M.2.2.2.2.1 (Po (some v) C) → px_H V.1 G C F H → (∀ q ∈ locs, G.1 ≤ q.base) → k ≤ mc → n ≤ ms → W p l e R s m args below meth c H locs k n Qw (F0 m pc ls [v]))
    (hrv : ∀ (pc : Nat) (C : px_P) (k n : Nat) (H : Heap) (locs : List Loc) (ls : Array Slot), decode M.2.2.1 pc = .ok (.return_, 1) → px_rv M.2.2.2.2.1 (Po none C) → px_H V.1 G C F H → (∀ q ∈ locs, G.1 ≤ q.base) → k ≤ mc → n ≤ ms → W p l e R s m args below meth c H locs k n Qw (F0 m pc ls []))
    (hX : ∀ sx : px_S, X sx → ∀ (H : Heap) (locs : List Loc) (ls : Array Slot), px_H V.1 G sx.2.2.2.1 F H → lv_has ls M.2.2.2.1 sx.2.1 → (∀ q ∈ locs, G.1 ≤ q.base) → sx.2.2.2.2.1 ≤ mc → sx.2.2.2.2.2 ≤ ms → W p l e R s m args below meth c H locs sx.2.2.2.2.1 sx.2.2.2.2.2 Qw (F0 m sx.1 ls sx.2.2.1)) :
    ∀ sx : px_S, px_T cal Y G.1 mc ms sm M Po Pt X sx → ∀ (H : Heap) (locs : List Loc) (ls : Array Slot), px_H V.1 G sx.2.2.2.1 F H → lv_has ls M.2.2.2.1 sx.2.1 → (∀ q ∈ locs, G.1 ≤ q.base) → sx.2.2.2.2.1 ≤ mc → sx.2.2.2.2.2 ≤ ms → W p l e R s m args below meth c H locs sx.2.2.2.2.1 sx.2.2.2.2.2 Qw (F0 m sx.1 ls sx.2.2.1) := by
  rintro ⟨pc, L, st, C, k, n⟩ hT H locs ls hH hl hlo hk hn
  dsimp only at hH hl hk hn ⊢
  have hts : ∀ w ∈ V.2.2.1, w.before args s = true := fun w hw => px_use (List.all_eq_true.mp hC.2.2.2.2.2.1 w hw) (hK.2.1 w hw)
  unfold px_T at hT
  dsimp only at hT
  cases hf : px_ft (px_co M) pc with
  | none =>
    rw [hf] at hT
    exact hT.elim
  | some i =>
    rw [hf] at hT
    dsimp only at hT
    obtain ⟨len, hmem⟩ := px_ft_mem hf
    obtain ⟨hd, hc, hfin⟩ := hM.1 _ hmem
    dsimp only at hd hc hfin
    cases i with
    | aconst_null =>
      have e1 := px_b1 hc; subst e1
      exact lv_null hx hb hd (hX _ hT H locs ls hH hl hlo hk hn)
    | iconst v =>
      obtain ⟨e1, e2⟩ := px_b2 hc; subst e1
      exact lv_iconst hx hb hd e2 (hX _ hT H locs ls hH hl hlo hk hn)
    | bipush v =>
      obtain ⟨e1, e2⟩ := px_b2 hc; subst e1
      exact lv_bipush hx hb hd e2 (hX _ hT H locs ls hH hl hlo hk hn)
    | sipush v =>
      obtain ⟨e1, e2⟩ := px_b2 hc; subst e1
      exact lv_sipush hx hb hd e2 (hX _ hT H locs ls hH hl hlo hk hn)
    | lconst v =>
      have e1 := px_b1 hc; subst e1
      exact lv_lconst hx hb hd rfl (hX _ hT H locs ls hH hl hlo hk hn)
    | ldc2_w idx =>
      have hT : px_pj (px_pl (px_po M) idx) fun v => X (pc + 3, L, .long (px_jc v) :: st, C, k, n) := hT
      have e1 := px_b1 hc; subst e1
      obtain ⟨z, v, hp, hT⟩ := px_pj_v hT
      exact lv_ldc2 hx hb hown (hts _ (hM.2.1 _ (px_pl_mem hp))) hd (hX _ hT H locs ls hH hl hlo hk hn)
    | ldc idx =>
      have hT : px_pc (px_pl (px_po M) idx) fun v => X (pc + 2, L, .int (px_ic v) :: st, C, k, n) := hT
      have e1 := px_b1 hc; subst e1
      obtain ⟨z, v, hp, hT⟩ := px_pc_v hT
      exact lv_ldc hx hb hown (hts _ (hM.2.1 _ (px_pl_mem hp))) hd (hX _ hT H locs ls hH hl hlo hk hn)
    | iload a =>
      have hT : px_ai (px_lk L a) fun x => X (pc + 2, L, .int x :: st, C, k, n) := hT
      have e1 := px_b1 hc; subst e1
      obtain ⟨x, hv, hT⟩ := px_ai_v hT
      exact lv_iload hx hb hd (px_lk_at hl hv) (hX _ hT H locs ls hH hl hlo hk hn)
    | iload_n a =>
      have hT : px_ai (px_lk L a.val) fun x => X (pc + 1, L, .int x :: st, C, k, n) := hT
      have e1 := px_b1 hc; subst e1
      obtain ⟨x, hv, hT⟩ := px_ai_v hT
      exact lv_iload_n hx hb hd rfl (px_lk_at hl hv) (hX _ hT H locs ls hH hl hlo hk hn)
    | lload a =>
      have hT : px_aj (px_lk L a) fun x => X (pc + 2, L, .long x :: st, C, k, n) := hT
      have e1 := px_b1 hc; subst e1
      obtain ⟨x, hv, hT⟩ := px_aj_v hT
      exact lv_lload hx hb hd (px_lk_at hl hv) (hX _ hT H locs ls hH hl hlo hk hn)
    | lload_n a =>
      have hT : px_aj (px_lk L a.val) fun x => X (pc + 1, L, .long x :: st, C, k, n) := hT
      have e1 := px_b1 hc; subst e1
      obtain ⟨x, hv, hT⟩ := px_aj_v hT
      exact lv_lload_n hx hb hd rfl (px_lk_at hl hv) (hX _ hT H locs ls hH hl hlo hk hn)
    | aload a =>
      have hT : px_aa (px_lk L a) fun x => X (pc + 2, L, x :: st, C, k, n) := hT
      have e1 := px_b1 hc; subst e1
      rcases px_aa_v hT with ⟨x, hv, hT⟩ | ⟨hv, hT⟩
      · exact lv_aload hx hb hd (px_lk_at hl hv) (hX _ hT H locs ls hH hl hlo hk hn)
      · exact lv_aloadN hx hb hd (px_lk_at hl hv) (hX _ hT H locs ls hH hl hlo hk hn)
    | aload_n a =>
      have hT : px_aa (px_lk L a.val) fun x => X (pc + 1, L, x :: st, C, k, n) := hT
      have e1 := px_b1 hc; subst e1
      rcases px_aa_v hT with ⟨x, hv, hT⟩ | ⟨hv, hT⟩
      · exact lv_aload_n hx hb hd rfl (px_lk_at hl hv) (hX _ hT H locs ls hH hl hlo hk hn)
      · exact lv_aload_nN hx hb hd rfl (px_lk_at hl hv) (hX _ hT H locs ls hH hl hlo hk hn)
    | istore a =>
      have hT : px_si st fun x r => X (pc + 2, px_s1 L a (.int x), r, C, k, n) := hT
      obtain ⟨e1, e2⟩ := px_b2 hc; subst e1
      obtain ⟨x, r, rfl, hT⟩ := px_si_v hT
      exact lv_istore hx hb hd hl e2 rfl (fun ls hl => hX _ hT H locs ls hH hl hlo hk hn)
    | istore_n a =>
      have hT : px_si st fun x r => X (pc + 1, px_s1 L a.val (.int x), r, C, k, n) := hT
      obtain ⟨e1, e2⟩ := px_b2 hc; subst e1
      obtain ⟨x, r, rfl, hT⟩ := px_si_v hT
      exact lv_istore_n hx hb hd rfl hl e2 rfl (fun ls hl => hX _ hT H locs ls hH hl hlo hk hn)
    | lstore a =>
      have hT : px_sj st fun x r => X (pc + 2, px_s2 L a (.long x), r, C, k, n) := hT
      obtain ⟨e1, e2⟩ := px_b2 hc; subst e1
      obtain ⟨x, r, rfl, hT⟩ := px_sj_v hT
      exact lv_lstore hx hb hd hl e2 rfl (fun ls hl => hX _ hT H locs ls hH hl hlo hk hn)
    | lstore_n a =>
      have hT : px_sj st fun x r => X (pc + 1, px_s2 L a.val (.long x), r, C, k, n) := hT
      obtain ⟨e1, e2⟩ := px_b2 hc; subst e1
      obtain ⟨x, r, rfl, hT⟩ := px_sj_v hT
      exact lv_lstore_n hx hb hd rfl hl e2 rfl (fun ls hl => hX _ hT H locs ls hH hl hlo hk hn)
    | astore a =>
      have hT : px_sa st fun x r => X (pc + 2, px_s1 L a x, r, C, k, n) := hT
      obtain ⟨e1, e2⟩ := px_b2 hc; subst e1
      rcases px_sa_v hT with ⟨x, r, rfl, hT⟩ | ⟨r, rfl, hT⟩
      · exact lv_astore hx hb hd hl e2 rfl (fun ls hl => hX _ hT H locs ls hH hl hlo hk hn)
      · exact lv_astoreN hx hb hd hl e2 rfl (fun ls hl => hX _ hT H locs ls hH hl hlo hk hn)
    | astore_n a =>
      have hT : px_sa st fun x r => X (pc + 1, px_s1 L a.val x, r, C, k, n) := hT
      obtain ⟨e1, e2⟩ := px_b2 hc; subst e1
      rcases px_sa_v hT with ⟨x, r, rfl, hT⟩ | ⟨r, rfl, hT⟩
      · exact lv_astore_n hx hb hd rfl hl e2 rfl (fun ls hl => hX _ hT H locs ls hH hl hlo hk hn)
      · exact lv_astore_nN hx hb hd rfl hl e2 rfl (fun ls hl => hX _ hT H locs ls hH hl hlo hk hn)
    | iinc a v =>
      have hT : px_ai (px_lk L a) fun x => X (pc + 3, px_s1 L a (.int (x + px_ic v)), st, C, k, n) := hT
      obtain ⟨e1, e2⟩ := px_b2 hc; subst e1
      obtain ⟨x, hv, hT⟩ := px_ai_v hT
      obtain ⟨k0, hk0⟩ := List.getElem?_of_mem (px_lk_mem hv)
      exact lv_iinc hx hb hd hl hk0 (by rw [e2.2]) e2.1 rfl (fun ls hl => hX _ hT H locs ls hH hl hlo hk hn)
    | iadd =>
      have hT : px_sii st fun x y r => X (pc + 1, L, .int (x + y) :: r, C, k, n) := hT
      have e1 := px_b1 hc; subst e1
      obtain ⟨x, y, r, rfl, hT⟩ := px_sii_v hT
      exact lv_iadd hx hb hd (hX _ hT H locs ls hH hl hlo hk hn)
    | isub =>
      have hT : px_sii st fun x y r => X (pc + 1, L, .int (x - y) :: r, C, k, n) := hT
      have e1 := px_b1 hc; subst e1
      obtain ⟨x, y, r, rfl, hT⟩ := px_sii_v hT
      exact lv_isub hx hb hd (hX _ hT H locs ls hH hl hlo hk hn)
    | imul =>
      have hT : px_sii st fun x y r => X (pc + 1, L, .int (x * y) :: r, C, k, n) := hT
      have e1 := px_b1 hc; subst e1
      obtain ⟨x, y, r, rfl, hT⟩ := px_sii_v hT
      exact lv_imul hx hb hd (hX _ hT H locs ls hH hl hlo hk hn)
    | iand =>
      have hT : px_sii st fun x y r => X (pc + 1, L, .int (x &&& y) :: r, C, k, n) := hT
      have e1 := px_b1 hc; subst e1
      obtain ⟨x, y, r, rfl, hT⟩ := px_sii_v hT
      exact lv_iand hx hb hd (hX _ hT H locs ls hH hl hlo hk hn)
    | ior =>
      have hT : px_sii st fun x y r => X (pc + 1, L, .int (x ||| y) :: r, C, k, n) := hT
      have e1 := px_b1 hc; subst e1
      obtain ⟨x, y, r, rfl, hT⟩ := px_sii_v hT
      exact lv_ior hx hb hd (hX _ hT H locs ls hH hl hlo hk hn)
    | ixor =>
      have hT : px_sii st fun x y r => X (pc + 1, L, .int (x ^^^ y) :: r, C, k, n) := hT
      have e1 := px_b1 hc; subst e1
      obtain ⟨x, y, r, rfl, hT⟩ := px_sii_v hT
      exact lv_ixor hx hb hd (hX _ hT H locs ls hH hl hlo hk hn)
    | ishl =>
      have hT : px_sii st fun x y r => X (pc + 1, L, .int (x <<< (y &&& 31)) :: r, C, k, n) := hT
      have e1 := px_b1 hc; subst e1
      obtain ⟨x, y, r, rfl, hT⟩ := px_sii_v hT
      exact lv_ishl hx hb hd (hX _ hT H locs ls hH hl hlo hk hn)
    | ishr =>
      have hT : px_sii st fun x y r => X (pc + 1, L, .int (x >>> (y &&& 31)) :: r, C, k, n) := hT
      have e1 := px_b1 hc; subst e1
      obtain ⟨x, y, r, rfl, hT⟩ := px_sii_v hT
      exact lv_ishr hx hb hd (hX _ hT H locs ls hH hl hlo hk hn)
    | iushr =>
      have hT : px_sii st fun x y r => X (pc + 1, L, .int ((x.toUInt32 >>> (y.toUInt32 &&& Int32.toUInt32 31)).toInt32) :: r, C, k, n) := hT
      have e1 := px_b1 hc; subst e1
      obtain ⟨x, y, r, rfl, hT⟩ := px_sii_v hT
      exact lv_iushr hx hb hd rfl (hX _ hT H locs ls hH hl hlo hk hn)
    | idiv =>
      have hT : px_sii st fun x y r => ¬ y = 0 ∧ X (pc + 1, L, .int (x / y) :: r, C, k, n) := hT
      have e1 := px_b1 hc; subst e1
      obtain ⟨x, y, r, rfl, h0, hT⟩ := px_sii_v hT
      exact lv_idiv hx hb hd h0 (hX _ hT H locs ls hH hl hlo hk hn)
    | irem =>
      have hT : px_sii st fun x y r => ¬ y = 0 ∧ X (pc + 1, L, .int (x - x / y * y) :: r, C, k, n) := hT
      have e1 := px_b1 hc; subst e1
      obtain ⟨x, y, r, rfl, h0, hT⟩ := px_sii_v hT
      exact lv_irem hx hb hd h0 (hX _ hT H locs ls hH hl hlo hk hn)
    | ineg =>
      have hT : px_si st fun x r => X (pc + 1, L, .int (-x) :: r, C, k, n) := hT
      have e1 := px_b1 hc; subst e1
      obtain ⟨x, r, rfl, hT⟩ := px_si_v hT
      exact lv_ineg hx hb hd (hX _ hT H locs ls hH hl hlo hk hn)
    | ladd =>
      have hT : px_sjj st fun x y r => X (pc + 1, L, .long (x + y) :: r, C, k, n) := hT
      have e1 := px_b1 hc; subst e1
      obtain ⟨x, y, r, rfl, hT⟩ := px_sjj_v hT
      exact lv_ladd hx hb hd (hX _ hT H locs ls hH hl hlo hk hn)
    | lsub =>
      have hT : px_sjj st fun x y r => X (pc + 1, L, .long (x - y) :: r, C, k, n) := hT
      have e1 := px_b1 hc; subst e1
      obtain ⟨x, y, r, rfl, hT⟩ := px_sjj_v hT
      exact lv_lsub hx hb hd (hX _ hT H locs ls hH hl hlo hk hn)
    | lmul =>
      have hT : px_sjj st fun x y r => X (pc + 1, L, .long (x * y) :: r, C, k, n) := hT
      have e1 := px_b1 hc; subst e1
      obtain ⟨x, y, r, rfl, hT⟩ := px_sjj_v hT
      exact lv_lmul hx hb hd (hX _ hT H locs ls hH hl hlo hk hn)
    | land =>
      have hT : px_sjj st fun x y r => X (pc + 1, L, .long (x &&& y) :: r, C, k, n) := hT
      have e1 := px_b1 hc; subst e1
      obtain ⟨x, y, r, rfl, hT⟩ := px_sjj_v hT
      exact lv_land hx hb hd (hX _ hT H locs ls hH hl hlo hk hn)
    | lor =>
      have hT : px_sjj st fun x y r => X (pc + 1, L, .long (x ||| y) :: r, C, k, n) := hT
      have e1 := px_b1 hc; subst e1
      obtain ⟨x, y, r, rfl, hT⟩ := px_sjj_v hT
      exact lv_lor hx hb hd (hX _ hT H locs ls hH hl hlo hk hn)
    | lxor =>
      have hT : px_sjj st fun x y r => X (pc + 1, L, .long (x ^^^ y) :: r, C, k, n) := hT
      have e1 := px_b1 hc; subst e1
      obtain ⟨x, y, r, rfl, hT⟩ := px_sjj_v hT
      exact lv_lxor hx hb hd (hX _ hT H locs ls hH hl hlo hk hn)
    | lshl =>
      have hT : px_sij st fun x y r => X (pc + 1, L, .long (x <<< (y.toInt64 &&& 63)) :: r, C, k, n) := hT
      have e1 := px_b1 hc; subst e1
      obtain ⟨x, y, r, rfl, hT⟩ := px_sij_v hT
      exact lv_lshl hx hb hd rfl (hX _ hT H locs ls hH hl hlo hk hn)
    | lshr =>
      have hT : px_sij st fun x y r => X (pc + 1, L, .long (x >>> (y.toInt64 &&& 63)) :: r, C, k, n) := hT
      have e1 := px_b1 hc; subst e1
      obtain ⟨x, y, r, rfl, hT⟩ := px_sij_v hT
      exact lv_lshr hx hb hd rfl (hX _ hT H locs ls hH hl hlo hk hn)
    | lushr =>
      have hT : px_sij st fun x y r => X (pc + 1, L, .long ((x.toUInt64 >>> (y.toInt64.toUInt64 &&& Int64.toUInt64 63)).toInt64) :: r, C, k, n) := hT
      have e1 := px_b1 hc; subst e1
      obtain ⟨x, y, r, rfl, hT⟩ := px_sij_v hT
      exact lv_lushr hx hb hd rfl (hX _ hT H locs ls hH hl hlo hk hn)
    | i2l =>
      have hT : px_si st fun x r => X (pc + 1, L, .long x.toInt64 :: r, C, k, n) := hT
      have e1 := px_b1 hc; subst e1
      obtain ⟨x, r, rfl, hT⟩ := px_si_v hT
      exact lv_i2l hx hb hd rfl (hX _ hT H locs ls hH hl hlo hk hn)
    | l2i =>
      have hT : px_sj st fun x r => X (pc + 1, L, .int x.toInt32 :: r, C, k, n) := hT
      have e1 := px_b1 hc; subst e1
      obtain ⟨x, r, rfl, hT⟩ := px_sj_v hT
      exact lv_l2i hx hb hd rfl (hX _ hT H locs ls hH hl hlo hk hn)
    | lcmp =>
      have hT : px_sjj st fun x y r => X (pc + 1, L, .int (lg_cmp x y) :: r, C, k, n) := hT
      have e1 := px_b1 hc; subst e1
      obtain ⟨x, y, r, rfl, hT⟩ := px_sjj_v hT
      exact W.lcmp hx hb hd (hX _ hT H locs ls hH hl hlo hk hn)
    | dup =>
      have hT : px_sv st fun x r => X (pc + 1, L, x :: x :: r, C, k, n) := hT
      have e1 := px_b1 hc; subst e1
      rcases px_sv_v hT with ⟨x, r, rfl, hT⟩ | ⟨x, r, rfl, hT⟩
      · exact lv_dup hx hb hd rfl (hX _ hT H locs ls hH hl hlo hk hn)
      · exact lv_dup hx hb hd rfl (hX _ hT H locs ls hH hl hlo hk hn)
    | dup2 =>
      have hT : px_siv st fun y x r => X (pc + 1, L, .int y :: x :: .int y :: x :: r, C, k, n) := hT
      have e1 := px_b1 hc; subst e1
      rcases px_siv_v hT with ⟨y, x, r, rfl, hT⟩ | ⟨y, x, r, rfl, hT⟩
      · exact lv_dup2_11 hx hb hd rfl rfl (hX _ hT H locs ls hH hl hlo hk hn)
      · exact lv_dup2_11 hx hb hd rfl rfl (hX _ hT H locs ls hH hl hlo hk hn)
    | dup_x1 =>
      have hT : px_siv st fun y x r => X (pc + 1, L, .int y :: x :: .int y :: r, C, k, n) := hT
      have e1 := px_b1 hc; subst e1
      rcases px_siv_v hT with ⟨y, x, r, rfl, hT⟩ | ⟨y, x, r, rfl, hT⟩
      · exact lv_dup_x1 hx hb hd rfl rfl (hX _ hT H locs ls hH hl hlo hk hn)
      · exact lv_dup_x1 hx hb hd rfl rfl (hX _ hT H locs ls hH hl hlo hk hn)
    | pop =>
      have hT : px_sv st fun _ r => X (pc + 1, L, r, C, k, n) := hT
      have e1 := px_b1 hc; subst e1
      rcases px_sv_v hT with ⟨x, r, rfl, hT⟩ | ⟨x, r, rfl, hT⟩
      · exact lv_pop hx hb hd rfl (hX _ hT H locs ls hH hl hlo hk hn)
      · exact lv_pop hx hb hd rfl (hX _ hT H locs ls hH hl hlo hk hn)
    | ifCond cd off =>
      have hT : px_si st fun x r => px_c0 cd x (X (px_tg pc off, L, r, C, k, n)) (X (pc + 3, L, r, C, k, n)) := hT
      obtain ⟨e1, e2⟩ := px_b2 hc; subst e1
      obtain ⟨x, r, rfl, hT⟩ := px_si_v hT
      cases cd with
      | eq => exact lv_if_eq hx hb hd (px_tg_ok e2) (fun h => hX _ (hT.1 h) H locs ls hH hl hlo hk hn) (fun h => hX _ (hT.2 h) H locs ls hH hl hlo hk hn)
      | ne => exact lv_if_ne hx hb hd (px_tg_ok e2) (fun h => hX _ (hT.1 h) H locs ls hH hl hlo hk hn) (fun h => hX _ (hT.2 h) H locs ls hH hl hlo hk hn)
      | lt => exact lv_if_lt hx hb hd (px_tg_ok e2) (fun h => hX _ (hT.1 h) H locs ls hH hl hlo hk hn) (fun h => hX _ (hT.2 h) H locs ls hH hl hlo hk hn)
      | ge => exact lv_if_ge hx hb hd (px_tg_ok e2) (fun h => hX _ (hT.1 h) H locs ls hH hl hlo hk hn) (fun h => hX _ (hT.2 h) H locs ls hH hl hlo hk hn)
      | gt => exact lv_if_gt hx hb hd (px_tg_ok e2) (fun h => hX _ (hT.1 h) H locs ls hH hl hlo hk hn) (fun h => hX _ (hT.2 h) H locs ls hH hl hlo hk hn)
      | le => exact lv_if_le hx hb hd (px_tg_ok e2) (fun h => hX _ (hT.1 h) H locs ls hH hl hlo hk hn) (fun h => hX _ (hT.2 h) H locs ls hH hl hlo hk hn)
    | if_icmp cd off =>
      have hT : px_sii st fun x y r => px_c2 cd x y (X (px_tg pc off, L, r, C, k, n)) (X (pc + 3, L, r, C, k, n)) := hT
      obtain ⟨e1, e2⟩ := px_b2 hc; subst e1
      obtain ⟨x, y, r, rfl, hT⟩ := px_sii_v hT
      cases cd with
      | eq => exact lv_icmp_eq hx hb hd (px_tg_ok e2) (fun h => hX _ (hT.1 h) H locs ls hH hl hlo hk hn) (fun h => hX _ (hT.2 h) H locs ls hH hl hlo hk hn)
      | ne => exact lv_icmp_ne hx hb hd (px_tg_ok e2) (fun h => hX _ (hT.1 h) H locs ls hH hl hlo hk hn) (fun h => hX _ (hT.2 h) H locs ls hH hl hlo hk hn)
      | lt => exact lv_icmp_lt hx hb hd (px_tg_ok e2) (fun h => hX _ (hT.1 h) H locs ls hH hl hlo hk hn) (fun h => hX _ (hT.2 h) H locs ls hH hl hlo hk hn)
      | ge => exact lv_icmp_ge hx hb hd (px_tg_ok e2) (fun h => hX _ (hT.1 h) H locs ls hH hl hlo hk hn) (fun h => hX _ (hT.2 h) H locs ls hH hl hlo hk hn)
      | gt => exact lv_icmp_gt hx hb hd (px_tg_ok e2) (fun h => hX _ (hT.1 h) H locs ls hH hl hlo hk hn) (fun h => hX _ (hT.2 h) H locs ls hH hl hlo hk hn)
      | le => exact lv_icmp_le hx hb hd (px_tg_ok e2) (fun h => hX _ (hT.1 h) H locs ls hH hl hlo hk hn) (fun h => hX _ (hT.2 h) H locs ls hH hl hlo hk hn)
    | ifnull off =>
      have hT : px_sn st (fun r => X (px_tg pc off, L, r, C, k, n)) (fun r => X (pc + 3, L, r, C, k, n)) := hT
      obtain ⟨e1, e2⟩ := px_b2 hc; subst e1
      rcases px_sn_v hT with ⟨r, rfl, hT⟩ | ⟨a, r, rfl, hT⟩
      · exact lv_ifnullN hx hb hd (px_tg_ok e2) (hX _ hT H locs ls hH hl hlo hk hn)
      · exact lv_ifnull hx hb hd (hX _ hT H locs ls hH hl hlo hk hn)
    | ifnonnull off =>
      have hT : px_sn st (fun r => X (pc + 3, L, r, C, k, n)) (fun r => X (px_tg pc off, L, r, C, k, n)) := hT
      obtain ⟨e1, e2⟩ := px_b2 hc; subst e1
      rcases px_sn_v hT with ⟨r, rfl, hT⟩ | ⟨a, r, rfl, hT⟩
      · exact lv_ifnonnullN hx hb hd (hX _ hT H locs ls hH hl hlo hk hn)
      · exact lv_ifnonnull hx hb hd (px_tg_ok e2) (hX _ hT H locs ls hH hl hlo hk hn)
    | goto off =>
      obtain ⟨e1, e2⟩ := px_b2 hc; subst e1
      exact lv_goto hx hb hd (px_tg_ok e2) (hX _ hT H locs ls hH hl hlo hk hn)
    | tableswitch dd lo hi offs =>
      have hT : px_si st fun x r => px_sw pc x (fun t => X (t, L, r, C, k, n)) dd lo.toNat offs.toList := hT
      obtain ⟨x, r, rfl, hT⟩ := px_si_v hT
      exact px_tsw hx hb hd hc (fun t ht => hX _ ht H locs ls hH hl hlo hk hn) hT
    | getfield idx =>
      have hT : px_pf (px_pl (px_po M) idx) fun ci kf => px_sr st fun a r => ∃ fs v, C a = some (px_o ci fs) ∧ fs[kf]? = some v ∧ X (pc + 3, L, v :: r, C, k, n) := hT
      have e1 := px_b1 hc; subst e1
      obtain ⟨ci, kf, hp, hT⟩ := px_pf_v hT
      obtain ⟨a, r, rfl, fs, v, he, hv, hT⟩ := px_sr_v hT
      obtain ⟨C0, T0, N, h1, h2, h3, h4⟩ := hM.2.1 _ (px_pl_mem hp)
      exact px_get hx hb hts (hC.1 ci C0 T0 N h1).1 hown hK.1 hH he h1 kf.toNat h2 (h4.imp (fun h => hts _ h) (fun ⟨z, h⟩ => ⟨z, hts _ h⟩)) h3 hv hd (hX _ hT H locs ls hH hl hlo hk hn)
    | putfield idx =>
      have hT : px_pf (px_pl (px_po M) idx) fun ci kf => px_svr st fun v a r => ∃ fs, C a = some (px_o ci fs) ∧ kf < fs.length ∧ narrow (Y.1 ci kf) v = v ∧ fits (Y.1 ci kf) v = true ∧ X (pc + 3, L, r, px_up C a (px_o ci (fs.set kf v)), k, n) := hT
      have e1 := px_b1 hc; subst e1
      obtain ⟨ci, kf, hp, hT⟩ := px_pf_v hT
      obtain ⟨v, a, r, rfl, fs, he, hlt, hnr, hft, hT⟩ := px_svr_v hT
      obtain ⟨C0, T0, N, h1, h2, h3, h4⟩ := hM.2.1 _ (px_pl_mem hp)
      obtain ⟨g1, g2, g3, -⟩ := hC.1 ci C0 T0 N h1
      refine px_put hx hb hts g1 (Y.1 ci) g2 g3 hown hK.1 hH hlo he h1 kf.toNat h2 (h4.imp (fun h => hts _ h) (fun ⟨z, h⟩ => ⟨z, hts _ h⟩)) h3 ?_ hnr hft hlt hd (fun H1 locs1 hH1 hlo1 => hX _ hT H1 locs1 ls hH1 hl hlo1 hk hn)
      rcases hfin ci kf C0 T0 N hp h1 with q | ⟨q1, q2, q3, q4⟩
      · exact Or.inl q
      · exact Or.inr ⟨q1, by rw [hnm]; exact q2, q3, hts _ q4⟩
    | iaload =>
      have hT : px_sir st fun x a r => px_sc sm (∃ m f, C a = some (px_i m f) ∧ vp_in x m ∧ X (pc + 1, L, .int (f x.toNatClampNeg) :: r, C, k, n)) (fun b M xs => a = b ∧ vp_in x M ∧ X (pc + 1, L, .int (xs x.toNatClampNeg) :: r, C, k, n)) := hT
      have e1 := px_b1 hc; subst e1
      obtain ⟨x, a, r, rfl, hT⟩ := px_sir_v hT
      cases sm with
      | none =>
        obtain ⟨m0, f, he, hin, hT⟩ := hT
        exact va_iald hx hb hK.1 (hH.one he) 0 0 rfl (px_tys_at hC.2.1) hin hd (hX _ hT H locs ls hH hl hlo hk hn)
      | some q =>
        obtain ⟨b, M0, xs⟩ := q
        obtain ⟨e9, hin, hT9⟩ := hT
        subst e9
        obtain ⟨scr, s1, s2, s3, s4, s5⟩ := hsc _ _ _ rfl H hH.2.1
        exact W.iald hx hb s1 s2 s3 (by rw [s4]; exact hin) (s5 _ (Nat.not_le.mp fun q => hin (Or.inr q))) rfl rfl hd (hX _ hT9 H locs ls hH hl hlo hk hn)
    | iastore =>
      have hT : px_siir st fun v x a r => ∃ m f, C a = some (px_i m f) ∧ vp_in x m ∧ X (pc + 1, L, r, px_up C a (px_i m (upd f x.toNatClampNeg v)), k, n) := hT
      have e1 := px_b1 hc; subst e1
      obtain ⟨v, x, a, r, rfl, m0, f, he, hin, hT⟩ := px_siir_v hT
      exact px_iast hx hb hK.1 hH hlo hC.2.1 he hin hd (fun H1 locs1 hH1 hlo1 => hX _ hT H1 locs1 ls hH1 hl hlo1 hk hn)
    | baload =>
      have hT : px_sir st fun x a r => ∃ m f, C a = some (px_z m f) ∧ vp_in x m ∧ X (pc + 1, L, .int (f x.toNatClampNeg) :: r, C, k, n) := hT
      have e1 := px_b1 hc; subst e1
      obtain ⟨x, a, r, rfl, m0, f, he, hin, hT⟩ := px_sir_v hT
      exact va_zald hx hb hK.1 (hH.one he) 0 2 rfl (px_tys_at hC.2.2.2.1) hin hd (hX _ hT H locs ls hH hl hlo hk hn)
    | bastore =>
      have hT : px_siir st fun v x a r => ∃ m f, C a = some (px_z m f) ∧ vp_in x m ∧ X (pc + 1, L, r, px_up C a (px_z m (upd f x.toNatClampNeg (vp_nar .boolean v))), k, n) := hT
      have e1 := px_b1 hc; subst e1
      obtain ⟨v, x, a, r, rfl, m0, f, he, hin, hT⟩ := px_siir_v hT
      exact px_zast hx hb hK.1 hH hlo hC.2.2.2.1 he hin hd (fun H1 locs1 hH1 hlo1 => hX _ hT H1 locs1 ls hH1 hl hlo1 hk hn)
    | laload =>
      have hT : px_sir st fun x a r => ∃ m f, C a = some (px_j m f) ∧ vp_in x m ∧ X (pc + 1, L, .long (f x.toNatClampNeg) :: r, C, k, n) := hT
      have e1 := px_b1 hc; subst e1
      obtain ⟨x, a, r, rfl, m0, f, he, hin, hT⟩ := px_sir_v hT
      exact va_lald hx hb hK.1 (hH.one he) 0 1 rfl (px_tys_at hC.2.2.1) hin hd (hX _ hT H locs ls hH hl hlo hk hn)
    | lastore =>
      have hT : px_sjir st fun v x a r => ∃ m f, C a = some (px_j m f) ∧ vp_in x m ∧ X (pc + 1, L, r, px_up C a (px_j m (vp_updL f x.toNatClampNeg v)), k, n) := hT
      have e1 := px_b1 hc; subst e1
      obtain ⟨v, x, a, r, rfl, m0, f, he, hin, hT⟩ := px_sjir_v hT
      exact px_last hx hb hK.1 hH hlo hC.2.2.1 he hin hd (fun H1 locs1 hH1 hlo1 => hX _ hT H1 locs1 ls hH1 hl hlo1 hk hn)
    | aaload =>
      have hT : px_sir st fun x a r => ∃ t m f, C a = some (px_r t m f) ∧ (3 ≤ t ∧ t < Y.2.2.2) ∧ vp_in x m ∧ X (pc + 1, L, va_rf (f x.toNatClampNeg) :: r, C, k, n) := hT
      have e1 := px_b1 hc; subst e1
      obtain ⟨x, a, r, rfl, t, m0, f, he, ht, hin, hT⟩ := px_sir_v hT
      obtain ⟨r0, g1, g2⟩ := hC.2.2.2.2.1 t ht
      exact va_aldq hx hb hK.1 (hH.one he) 0 t rfl (px_tys_at g2) hin hd (hX _ hT H locs ls hH hl hlo hk hn)
    | aastore =>
      have hT : px_srir st fun v x a r => ∃ t m f vs, C a = some (px_r t m f) ∧ (3 ≤ t ∧ t < Y.2.2.2) ∧ vp_in x m ∧ C v = some (px_o (Y.2.2.1 t) vs) ∧ X (pc + 1, L, r, px_up C a (px_r t m (va_up f x.toNatClampNeg (some v))), k, n) := hT
      have e1 := px_b1 hc; subst e1
      obtain ⟨v, x, a, r, rfl, t, m0, f, vs, he, ht, hin, hv, hT⟩ := px_srir_v hT
      obtain ⟨r0, g1, g2⟩ := hC.2.2.2.2.1 t ht
      exact px_aast hx hb hK.1 hH hlo he g2 hv g1 hin hd (fun H1 locs1 hH1 hlo1 => hX _ hT H1 locs1 ls hH1 hl hlo1 hk hn)
    | arraylength =>
      have hT : px_sr st fun a r => px_sc sm (∃ m, px_len C Y.2.2.2 a = some m ∧ X (pc + 1, L, .int (nI m) :: r, C, k, n)) (fun b M _ => a = b ∧ X (pc + 1, L, .int (nI M) :: r, C, k, n)) := hT
      have e1 := px_b1 hc; subst e1
      obtain ⟨a, r, rfl, hT⟩ := px_sr_v hT
      cases sm with
      | none =>
        obtain ⟨m0, he, hT⟩ := hT
        exact px_alen hx hb hK.1 hC hH he hd (hX _ hT H locs ls hH hl hlo hk hn)
      | some q =>
        obtain ⟨b, M0, xs⟩ := q
        obtain ⟨e9, hT9⟩ := hT
        subst e9
        obtain ⟨scr, s1, s2, s3, s4, s5⟩ := hsc _ _ _ rfl H hH.2.1
        exact W.alen (n := nI M0) hx hb s1 s2 (by rw [s4]; rfl) rfl rfl hd (hX _ hT9 H locs ls hH hl hlo hk hn)
    | new idx =>
      have hT : px_pn (px_pl (px_po M) idx) (fun ci N => k + 1 ≤ mc ∧ n + N ≤ ms ∧ ∀ q, C q = none → G.1 ≤ q → X (pc + 3, L, .ref q :: st, px_up C q (px_o ci (Y.2.1 ci)), k + 1, n + N)) (fun kd _ => k + 1 ≤ mc ∧ n + 6 ≤ ms ∧ st = [] ∧ Pt kd C) := hT
      have e1 := px_b1 hc; subst e1
      rcases px_pn_v hT with ⟨ci, N, hp, h1, h2, hT⟩ | ⟨kd, N, hp, h1, h2, e9, hT9⟩
      · obtain ⟨C0, T0, g1, g2, g3, g4⟩ := hM.2.1 _ (px_pl_mem hp)
        obtain ⟨q1, q2, q3, q4⟩ := hC.1 ci C0 T0 _ g1
        exact px_new hx hb hts q1 (Y.1 ci) q2 hown (hts _ g2) (hts _ g3) (hts _ g4) hK.1 hH g1 q4 (by omega) (by omega) hd (fun q H1 hf hB hH1 => hX _ (hT q hf hB) H1 locs ls hH1 hl hlo h1 h2)
      · subst e9
        have e8 := hmem
        exact hth pc idx kd N L C k n H locs ls e8 hp h1 h2 hT9 hH hl hlo
    | newarray ty =>
      have hT : px_si st fun x r => ¬ x < 0 ∧ x.toNatClampNeg ≤ 65536 ∧ k + 1 ≤ mc ∧ n + x.toNatClampNeg ≤ ms ∧ px_at ty (∀ q, C q = none → G.1 ≤ q → X (pc + 2, L, .ref q :: r, px_up C q (px_i x.toNatClampNeg (fun _ => 0)), k + 1, n + x.toNatClampNeg)) (∀ q, C q = none → G.1 ≤ q → X (pc + 2, L, .ref q :: r, px_up C q (px_j x.toNatClampNeg (fun _ => 0)), k + 1, n + x.toNatClampNeg)) (∀ q, C q = none → G.1 ≤ q → X (pc + 2, L, .ref q :: r, px_up C q (px_z x.toNatClampNeg (fun _ => 0)), k + 1, n + x.toNatClampNeg)) := hT
      have e1 := px_b1 hc; subst e1
      obtain ⟨x, r, rfl, h0, hle, h1, h2, hT⟩ := px_si_v hT
      cases ty with
      | int => exact px_newi hx hb (px_useA hK.2.2.2.1.1) hK.1 hC hH h0 hle (by omega) (by omega) hd (fun q H1 hf hB hH1 => hX _ (hT q hf hB) H1 locs ls hH1 hl hlo h1 h2)
      | long => exact px_newj hx hb (px_useA hK.2.2.2.1.2.1) hK.1 hC hH h0 hle (by omega) (by omega) hd (fun q H1 hf hB hH1 => hX _ (hT q hf hB) H1 locs ls hH1 hl hlo h1 h2)
      | boolean => exact px_newz hx hb (px_useA hK.2.2.2.1.2.2) hK.1 hC hH h0 hle (by omega) (by omega) hd (fun q H1 hf hB hH1 => hX _ (hT q hf hB) H1 locs ls hH1 hl hlo h1 h2)
      | _ => exact hT.elim
    | anewarray idx =>
      have hT : px_pa (px_pl (px_po M) (idx + 65536)) fun t => px_si st fun x r => ¬ x < 0 ∧ x.toNatClampNeg ≤ 65536 ∧ k + 1 ≤ mc ∧ n + x.toNatClampNeg ≤ ms ∧ ∀ q, C q = none → G.1 ≤ q → X (pc + 3, L, .ref q :: r, px_up C q (px_r t x.toNatClampNeg (fun _ => none)), k + 1, n + x.toNatClampNeg) := hT
      have e1 := px_b1 hc; subst e1
      obtain ⟨t, z, hp, hT⟩ := px_pa_v hT
      obtain ⟨x, r, rfl, h0, hle, h1, h2, hT⟩ := px_si_v hT
      obtain ⟨C0, g1, g2⟩ := hM.2.1 _ (px_pl_mem hp)
      rw [Nat.add_sub_cancel] at g2
      exact px_newr hx hb hown (hts _ g2) (hK.2.2.1 t C0 g1) hK.1 g1 hH h0 hle (by omega) (by omega) hd (fun q H1 hf hB hH1 => hX _ (hT q hf hB) H1 locs ls hH1 hl hlo h1 h2)
    | invokespecial idx =>
      have hT : px_ps (px_pl (px_po M) idx) (px_sr st fun _ r => px_cat r ≤ 8 ∧ X (pc + 3, L, r, C, k, n)) (fun j np => px_sr (st.drop np) fun b r => px_cl cal mc ms k n j (.ref b :: (st.take np).reverse) r C fun st' C' k' n' => X (pc + 3, L, st', C', k', n')) := hT
      have e1 := px_b1 hc; subst e1
      rcases px_ps_v hT with ⟨z, w, hp, hT⟩ | ⟨j, np, hp, hT⟩
      · obtain ⟨a, r, rfl, h8, hT⟩ := px_sr_v hT
        obtain ⟨g1, g2, g3, g4, g5⟩ := hM.2.1 _ (px_pl_mem hp)
        exact W.objInit hx hb hown (hts _ g1) (hts _ g2) (hts _ g3) rfl (by rw [hml]; exact hl.1) rfl hd (by omega) (by show 2 * 0 + px_cat r + 12 ≤ R.locals; omega) (hX _ hT H locs ls hH hl hlo hk hn)
      · obtain ⟨b, r, hst, mc1, ms1, Po1, h1, h2, h8, hcl, hT⟩ := px_sr_v hT
        obtain ⟨M1, g1, g2, gh, g3, g4, g5⟩ := hM.2.1 _ (px_pl_mem hp)
        obtain ⟨M2, f1, hMet⟩ := hcal _ _ _ _ _ _ _ hcl
        obtain rfl : M1 = M2 := Option.some.inj (g1.symm.trans f1)
        have gc := hPc _ _ f1
        rw [px_cw0 gh] at gc hMet
        have gl := g2.2.2.2
        exact px_callI hx hb hml hown hts hK hC.2.2.2.2.2.1 hH hlo hl.1 g2 gc g3 g4 g5 rfl rfl (by show px_fr M1 + 1 ≤ R.frames; omega) (by show 8 + (M1.2.2.2.1 + 11) + px_lo M1 ≤ R.locals; omega) (px_met hMet) hst h8 hd (by show k + mc1 ≤ R.cells; omega) (by show n + ms1 ≤ R.slots; omega) (fun v C1 H1 locs1 hp1 hH1 hlo1 => hX _ (hT v C1 hp1) H1 locs1 ls hH1 hl hlo1 h1 h2)
    | invokevirtual idx =>
      have hT : px_pv (px_pl (px_po M) idx) (fun ci j np => px_sr (st.drop np) fun b r => ∃ fs, C b = some (px_o ci fs) ∧ px_cl cal mc ms k n j (.ref b :: (st.take np).reverse) r C fun st' C' k' n' => X (pc + 3, L, st', C', k', n')) (fun ci j np => px_sr (st.drop np) fun b r => ∃ fs, C b = some (px_o ci fs) ∧ px_ct cal mc ms k n j (.ref b :: (st.take np).reverse) r C (px_po M) (px_hh M) pc (fun st' C' k' n' => X (pc + 3, L, st', C', k', n')) (fun h st' C' k' n' => X (h, L, st', C', k', n'))) := hT
      have e1 := px_b1 hc; subst e1
      rcases px_pv_v hT with ⟨ci, j, np, hp, hci, hT⟩ | ⟨ci, j, np, hp, hci, hT⟩
      · obtain ⟨b, r, hst, fs, he, mc1, ms1, Po1, Pt1, h1, h2, h8, hcl, hT, hTx⟩ := px_sr_v hT
        obtain ⟨M1, T1, N1, g1, g2, gh, gm, g3, g4, g5⟩ := px_pok20 (hM.2.1 _ (px_pl_mem hp)) hci
        obtain ⟨M2, f1, hMet⟩ := hcal _ _ _ _ _ _ _ hcl
        obtain rfl : M1 = M2 := Option.some.inj (g1.symm.trans f1)
        have gc := hPc _ _ f1
        rw [px_cw0 gh] at gc hMet
        have gl := g2.2.2.2
        refine px_callVT hx hb hml hown hts hK hC.2.2.2.2.2.1 hH hlo hl.1 g2 gm gc g3 g4 g5 he rfl rfl (by show px_fr M1 + 1 ≤ R.frames; omega) (by show 8 + (M1.2.2.2.1 + 11) + px_lo M1 ≤ R.locals; omega) hMet hst h8 hd (by show k + mc1 ≤ R.cells; omega) (by show n + ms1 ≤ R.slots; omega) (fun v C1 H1 locs1 hp1 hH1 hlo1 => hX _ (hT v C1 hp1) H1 locs1 ls hH1 hl hlo1 h1 h2) (fun kd C1 H1 locs1 q ce hp1 hH1 hlo1 hce hcv hcc => ?_)
        exact px_caught hC hM hown hts hK hce hcv hcc (fun h hz => hX _ hz H1 locs1 ls hH1 hl hlo1 h1 h2) (px_hh M) [] htab rfl (fun z hz => by cases hz) (hTx kd C1 q hp1)
      · obtain ⟨b, r, hst, fs, he, mc1, ms1, Po1, h1, h2, h8, hcl, hT⟩ := px_sr_v hT
        obtain ⟨M1, T1, N1, g1, g2, gh, g3, g4, g5⟩ := px_pok10 (hM.2.1 _ (px_pl_mem hp)) hci
        obtain ⟨M2, f1, hMet⟩ := hcal _ _ _ _ _ _ _ hcl
        obtain rfl : M1 = M2 := Option.some.inj (g1.symm.trans f1)
        have gc := hPc _ _ f1
        rw [px_cw0 gh] at gc hMet
        have gl := g2.2.2.2
        exact px_callV hx hb hml hown hts hK hC.2.2.2.2.2.1 hH hlo hl.1 g2 gc g3 g4 g5 he rfl rfl (by show px_fr M1 + 1 ≤ R.frames; omega) (by show 8 + (M1.2.2.2.1 + 11) + px_lo M1 ≤ R.locals; omega) (px_met hMet) hst h8 hd (by show k + mc1 ≤ R.cells; omega) (by show n + ms1 ≤ R.slots; omega) (fun v C1 H1 locs1 hp1 hH1 hlo1 => hX _ (hT v C1 hp1) H1 locs1 ls hH1 hl hlo1 h1 h2)
    | invokestatic idx =>
      have hT : px_pt (px_pl (px_po M) idx) (px_sii st fun x y r => px_cat r ≤ 8 ∧ X (pc + 3, L, .int (if x < y then y else x) :: r, C, k, n)) (px_sii st fun x y r => px_cat r ≤ 8 ∧ X (pc + 3, L, .int (if y < x then y else x) :: r, C, k, n)) (fun j np => np ≤ st.length ∧ px_cl cal mc ms k n j (st.take np).reverse (st.drop np) C fun st' C' k' n' => X (pc + 3, L, st', C', k', n')) := hT
      have e1 := px_b1 hc; subst e1
      rcases px_pt_v hT with ⟨w, hp, hT⟩ | ⟨w, hp, hT⟩ | ⟨j, np, hp, hT⟩
      · obtain ⟨x, y, r, rfl, h8, hT⟩ := px_sii_v hT
        obtain ⟨g1, g2, g3, g4, g5, g6⟩ := hM.2.1 _ (px_pl_mem hp)
        exact va_mmax hx hb (by rw [hml]; exact hl.1.symm) hown (hts _ g1) (hts _ g2) (hts _ g3) (hts _ g4) (by omega) (by show px_cat r + 13 ≤ R.locals; omega) (by omega) (by omega) hd (hX _ hT H locs ls hH hl hlo hk hn)
      · obtain ⟨x, y, r, rfl, h8, hT⟩ := px_sii_v hT
        obtain ⟨g1, g2, g3, g4, g5, g6⟩ := hM.2.1 _ (px_pl_mem hp)
        exact va_mmin hx hb (by rw [hml]; exact hl.1.symm) hown (hts _ g1) (hts _ g2) (hts _ g3) (hts _ g4) (by omega) (by show px_cat r + 13 ≤ R.locals; omega) (by omega) (by omega) hd (hX _ hT H locs ls hH hl hlo hk hn)
      · obtain ⟨hnp, mc1, ms1, Po1, h1, h2, h8, hcl, hT⟩ := hT
        obtain ⟨M1, g1, g2, g3, g4⟩ := hM.2.1 _ (px_pl_mem hp)
        obtain ⟨M2, f1, hMet⟩ := hcal _ _ _ _ _ _ _ hcl
        obtain rfl : M1 = M2 := Option.some.inj (g1.symm.trans f1)
        have gc := hPc _ _ f1
        have gl := g2.2.2.2
        cases hq : px_hh M1 with
        | nil =>
          rw [px_cw0 hq] at gc hMet
          exact px_callS hx hb hml hown hts hK hC.2.2.2.2.2.1 hH hlo hl.1 g2 gc g3 rfl rfl (by show px_fr M1 + 1 ≤ R.frames; omega) (by show 8 + (M1.2.2.2.1 + 11) + px_lo M1 ≤ R.locals; omega) (px_met hMet) hnp h8 hd (by show k + mc1 ≤ R.cells; omega) (by show n + ms1 ≤ R.slots; omega) (fun v C1 H1 locs1 hp1 hH1 hlo1 => hX _ (hT v C1 hp1) H1 locs1 ls hH1 hl hlo1 h1 h2)
        | cons q0 r0 =>
          have hcw : px_cw M1 = Cond.codeWith M1.1 M1.2.2.1 M1.2.2.2.1 M1.2.2.2.2.1 (q0 :: r0) := by unfold px_cw; rw [hq]
          rw [hcw] at gc hMet
          have gm : Cond.methodLink M.2.1 idx M1.1 ∈ V.2.2.1 := by
            rcases g4 with g | g
            · rw [hq] at g; cases g
            · exact g
          exact px_callSH hx hb hml hown hts hK hC.2.2.2.2.2.1 hH hlo hl.1 g2 gm gc g3 rfl rfl (by show px_fr M1 + 1 ≤ R.frames; omega) (by show 8 + (M1.2.2.2.1 + 11) + px_lo M1 ≤ R.locals; omega) (px_met hMet) hnp h8 hd (by show k + mc1 ≤ R.cells; omega) (by show n + ms1 ≤ R.slots; omega) (fun v C1 H1 locs1 hp1 hH1 hlo1 => hX _ (hT v C1 hp1) H1 locs1 ls hH1 hl hlo1 h1 h2)
    | ireturn =>
      have hT : px_s1v st fun v => px_rt M.2.2.2.2.1 v (Po (some (.int v)) C) := hT
      have e1 := px_b1 hc; subst e1
      obtain ⟨v, rfl, hT⟩ := px_s1v_v hT
      exact hri pc C k n H locs ls v hd hT hH hlo hk hn
    | lreturn =>
      have hT : px_s1l st fun v => px_rl M.2.2.2.2.1 (Po (some (.long v)) C) := hT
      have e1 := px_b1 hc; subst e1
      obtain ⟨v, rfl, hT⟩ := px_s1l_v hT
      exact hrl pc C k n H locs ls v hd hT hH hlo hk hn
    | areturn =>
      have hT : px_s1a st fun v => px_ra M.2.2.2.2.1 (Po (some v) C) := hT
      have e1 := px_b1 hc; subst e1
      rcases px_s1a_v hT with ⟨v, rfl, hT⟩ | ⟨rfl, hT⟩
      · exact hra pc C k n H locs ls _ hd (Or.inr ⟨_, rfl⟩) hT hH hlo hk hn
      · exact hra pc C k n H locs ls _ hd (Or.inl rfl) hT hH hlo hk hn
    | return_ =>
      have hT : px_s0 st (px_rv M.2.2.2.2.1 (Po none C)) := hT
      have e1 := px_b1 hc; subst e1
      obtain ⟨rfl, hT⟩ := px_s0_v hT
      exact hrv pc C k n H locs ls hd hT hH hlo hk hn
    | _ => exact hT.elim
end
section
theorem px_H.grow {cl : List vw_C} {G : px_G} {C F : px_P} {H H' : Heap} (h : px_H cl G C F H) (hz : H.size ≤ H'.size) (ho : ∀ q : Nat, q < H.size → H'[q]? = H[q]?) : px_H cl G C F H' := by
  obtain ⟨h1, h2, h3, h4⟩ := h
  exact ⟨Nat.le_trans h1 hz, fun q hq => (ho q (Nat.lt_of_lt_of_le hq h1)).trans (h2 q hq), fun a e ha => ⟨(h3 a e ha).1, (h3 a e ha).2.kept (ho a (h3 a e ha).2.lt)⟩, fun a e ha => ⟨(h4 a e ha).1, (h4 a e ha).2.1, (h4 a e ha).2.2.kept (ho a (h4 a e ha).2.2.lt)⟩⟩
theorem px_ex_fit (kd : Nat) : Bundle.fit (px_ex kd) = true := by
  unfold px_ex
  split <;> decide +kernel
set_option maxHeartbeats 4000000 in
theorem px_throw {p : Program} {l : Launch} {e : Env} {R : Room} {s : State} {m : MethodId} {args : Array Value} {below : List Frame} {meth : Method} {c : Code} {V : px_V} {Y : px_L} {P : List px_M} {G : px_G} {F : px_P} {mc ms : Nat} {sc : Option (Nat × Nat × (Nat → Int32))} {M : px_M} {Po : Option Value → px_P → Prop} {Pt : Nat → px_P → Prop}
    (hl0 : l.stackTraces = false) (hx : p.tables.exec = Jvm.exec) (hb : c.code = M.2.2.1) (hml : c.maxLocals = M.2.2.2.1) (htab : c.exceptionTable.toList = tableOf (px_hh M)) (hown : s.vm.findClass M.2.1 = some m.cls) (hlocks : meth.locks = false) (hK : px_K V sc G s) (hsG : ∀ q : Nat, q < G.1 → s.heap[q]? = G.2.1[q]?) (hC : px_okC V Y) (hM : px_okM V P M)
    (hRf : px_fr M ≤ R.frames) (hRl : px_lo M ≤ R.locals) (hRc : mc ≤ R.cells) (hRs : ms ≤ R.slots) {pc idx kd : Nat} {N : Int} {L : List (Nat × Value)} {C : px_P} {k n : Nat} {H : Heap} {locs : List Loc} {ls : Array Slot}
    (hmem : (pc, Instr.new idx, 3) ∈ px_co M) (hp : px_pl (px_po M) idx = some (8, kd, N)) (h1 : k + 1 ≤ mc) (h2 : n + 6 ≤ ms) (hT : Pt kd C) (hH : px_H V.1 G C F H) (hl : lv_has ls M.2.2.2.1 L) (hlo : ∀ q ∈ locs, G.1 ≤ q.base) :
    W p l e R s m args below meth c H locs k n (vx_MQ below (px_Q V.1 G F Po) (px_X V.1 G F Pt) args s mc ms (fun q => G.1 ≤ q)) (F0 m pc ls []) := by
  intro T hT1 X
  have hts : ∀ w ∈ V.2.2.1, w.before args s = true := fun w hw => px_use (List.all_eq_true.mp hC.2.2.2.2.2.1 w hw) (hK.2.1 w hw)
  obtain ⟨g0, g1, g2, g3, g4⟩ := hM.2.1 _ (px_pl_mem hp)
  obtain ⟨is, tx, q1, d3, d4, d6, d9⟩ := g4 _ hmem rfl
  obtain ⟨sa, hsa⟩ := hK.2.2.2.2.2.1 _ q1
  have hsz : s.heap.size ≤ H.size := by rw [← hT1]; exact X.same.2.1
  have hS : va_S (fun q => G.1 ≤ q) s.heap H locs := ⟨hsz, fun q _ h => by
    have hq : q < G.1 := Nat.lt_of_not_le h
    rw [hH.2.1 q hq, hsG q hq], hlo⟩
  have hkept : ∀ a : Nat, a < G.2.1.size → ¬ G.1 ≤ a → s.heap[a]? = G.2.1[a]? := fun a _ h => hsG a (Nat.lt_of_not_le h)
  exact vx_throwS hx hb hl0 (own := M.2.1) (cls := px_ex kd) (text := tx) (names := ["java/lang/RuntimeException", "java/lang/Exception"]) (ik := idx) (is := is) (ic := N.toNat) (sa := sa) (A := fun q => G.1 ≤ q) hown (px_ex_fit kd) (by decide +kernel)
    (hts _ (g1 _ List.mem_cons_self)) (hts _ (g1 _ (List.mem_cons_of_mem _ List.mem_cons_self))) hsa (fun w hw => hts _ (g1 _ (List.mem_cons_of_mem _ (List.mem_cons_of_mem _ hw))))
    (fun w hw => by
      unfold vx_ot
      rw [px_wb_on (List.all_eq_true.mp hC.2.2.2.2.2.1 w (g1 w hw))]
      rfl)
    (hK.2.2.2.2.2.2.2.1.kept hkept) (hK.2.2.2.2.2.2.2.2.kept hkept) hS (by rw [hml]; exact hl.1)
    (hM.1 _ hmem).1 d3 d4 d6 d9 (fun x hx => by rw [htab, g0] at hx; cases hx)
    (by show 2 + 3 < R.frames; omega) (by show 0 + (13 * (2 + 1) + 43) ≤ R.locals; omega) (by omega) (by omega) hlocks
    (fun t _ hz ho => ⟨kd, C, rfl, hT, hH.grow hz ho⟩) hlo h1 h2 T hT1 X
set_option maxHeartbeats 4000000 in
/-- what the pure picture says of a method, the machine does -/
theorem px_sound {l : Launch} (hl0 : l.stackTraces = false) {V : px_V} {Y : px_L} {P : List px_M} {sc : Option (Nat × Nat × (Nat → Int32))} {G : px_G} (hC : px_okC V Y) (hP : ∀ (j : Nat) (M : px_M), P[j]? = some M → px_okM V P M) :
    ∀ (d j : Nat) (av : List Value) (C : px_P) (mc ms : Nat) (Po : Option Value → px_P → Prop) (Pt : Nat → px_P → Prop) (F : px_P), px_W Y P G.1 sc d j av C mc ms Po Pt → ∃ M, P[j]? = some M ∧ vx_Met l M.1 [px_cw M] (px_rm M mc ms) (px_Pc V sc G F av C) (px_Q V.1 G F Po) (px_X V.1 G F Pt) mc ms (fun q => G.1 ≤ q) := by
  intro d
  induction d with
  | zero => intro j av C mc ms Po Pt F h; exact h.elim
  | succ d ih =>
    intro j av C mc ms Po Pt F h
    obtain ⟨M, hj, hav, hW⟩ := h
    have hM := hP j M hj
    have body : ∀ p e s m args below meth c s₁, BodyLoose p l M.1 (headSpec [px_cw M] (px_rm M mc ms)) M.2.2.1 M.2.2.2.1 M.2.2.2.2.1 e s m args below meth c s₁ → c.maxLocals = M.2.2.2.1 → c.exceptionTable.toList = tableOf (px_hh M) → px_Pc V sc G F av C args s →
        W p l e (px_rm M mc ms) s m args below meth c s.heap [] 0 0 (vx_MQ below (px_Q V.1 G F Po) (px_X V.1 G F Pt) args s mc ms (fun q => G.1 ≤ q)) (entryFrame m args M.2.2.2.1) := by
      intro p e s m args below meth c s₁ B hml htab hv
      obtain ⟨rfl, hH, hK⟩ := hv
      have hx := B.exec
      have hb := B.bytes
      have hr := B.returns
      have hown : s.vm.findClass M.2.1 = some m.cls := by rw [← hM.2.2.2.1]; exact findClass_of_methodNamed B.named
      have hlocks := B.notSynchronized
      have hnm : meth.name = M.1.name := (name_of_methodNamed B.named B.method).1
      have hl := lv_entry av (n := M.2.2.2.1) hav
      rw [lg_entry_eq]
      generalize (lg_sl av ++ List.replicate (M.2.2.2.1 - (lg_sl av).length) Slot.unset).toArray = ls at hl ⊢
      have key := hW (fun sx => ∀ (H : Heap) (locs : List Loc) (ls : Array Slot), px_H V.1 G sx.2.2.2.1 F H → lv_has ls M.2.2.2.1 sx.2.1 → (∀ q ∈ locs, G.1 ≤ q.base) → sx.2.2.2.2.1 ≤ mc → sx.2.2.2.2.2 ≤ ms → W p l e (px_rm M mc ms) s m av.toArray below meth c H locs sx.2.2.2.2.1 sx.2.2.2.2.2 (vx_MQ below (px_Q V.1 G F Po) (px_X V.1 G F Pt) av.toArray s mc ms (fun q => G.1 ≤ q)) (F0 m sx.1 ls sx.2.2.1)) (fun pc L L' st C9 k n hs h9 H locs ls hH hl hlo hk hn => h9 H locs ls hH (px_sub_has hl hs) hlo hk hn) ?_
      · exact key s.heap [] ls hH hl (fun q h => by cases h) (Nat.zero_le _) (Nat.zero_le _)
      · refine px_step hx hb hml htab hown hnm hK hC hM (fun j M' h => (hP j M' h).2.2.2.2.2) (Nat.le_refl _) (Nat.le_refl _) (Nat.le_refl _) (Nat.le_refl _) ?_ ?_ ?_ ?_ ?_ ?_ ?_ (fun sx h => h)
        · intro j' av' C' mc' ms' Po' Pt' h
          exact ih j' av' C' mc' ms' Po' Pt' F h
        · intro b N xs hsm H hHq
          have hsc : sc = some (b, N, xs) := by
            cases hfl : px_fl M with
            | true => rw [hfl] at hsm; exact hsm
            | false => rw [hfl] at hsm; cases hsm
          obtain ⟨hb1, scr, s1, s2⟩ := hK.2.2.2.2.1 b N xs hsc
          exact ⟨scr, (hHq b hb1).trans s1, s2⟩
        · intro pc idx kd N L C1 k n H locs ls hmem hp h1 h2 hT hH1 hl1 hlo
          exact px_throw hl0 hx hb hml htab hown hlocks hK hH.2.1 hC hM (Nat.le_refl _) (Nat.le_refl _) (Nat.le_refl _) (Nat.le_refl _) hmem hp h1 h2 hT hH1 hl1 hlo
        · intro pc C1 k n H locs ls v hd hT hH1 hlo h1 h2
          refine W.widen h1 h2 (vx_ret ?_)
          unfold px_rt at hT
          split at hT
          · rename_i hret
            exact W.iret hx hb (hr.trans hret) (fun t ht hW => ⟨_, C1, rfl, hT, by rw [ht]; exact hH1⟩) hlo hd
          · rename_i hret
            refine W.zret (ty := .boolean) hx hb (hr.trans hret) ?_ (fun t ht hW => ⟨_, C1, rfl, hT.2, by rw [ht]; exact hH1⟩) hlo hd
            rcases hT.1 with rfl | rfl <;> rfl
          · exact hT.elim
        · intro pc C1 k n H locs ls v hd hT hH1 hlo h1 h2
          refine W.widen h1 h2 (vx_ret ?_)
          unfold px_rl at hT
          split at hT
          · rename_i hret
            exact W.lret hx hb (hr.trans hret) (fun t ht hW => ⟨_, C1, rfl, hT, by rw [ht]; exact hH1⟩) hlo hd
          · exact hT.elim
        · intro pc C1 k n H locs ls v hd hv hT hH1 hlo h1 h2
          refine W.widen h1 h2 (vx_ret ?_)
          unfold px_ra at hT
          split at hT
          · rename_i nm hret
            exact W.aret hx hb (hr.trans hret) (Or.inl ⟨nm, rfl⟩) hv (fun t ht hW => ⟨_, C1, rfl, hT, by rw [ht]; exact hH1⟩) hlo hd
          · rename_i nm hret
            exact W.aret hx hb (hr.trans hret) (Or.inr ⟨nm, rfl⟩) hv (fun t ht hW => ⟨_, C1, rfl, hT, by rw [ht]; exact hH1⟩) hlo hd
          · exact hT.elim
        · intro pc C1 k n H locs ls hd hT hH1 hlo h1 h2
          refine W.widen h1 h2 (vx_ret ?_)
          unfold px_rv at hT
          split at hT
          · rename_i hret
            exact W.vret hx hb (hr.trans hret) (fun t ht hW => ⟨_, C1, rfl, hT, by rw [ht]; exact hH1⟩) hlo hd
          · exact hT.elim
    refine ⟨M, hj, ?_⟩
    cases hq : px_hh M with
    | nil =>
      refine vx_ofW (cc := M.2.2.1) (maxL := M.2.2.2.1) (ret := M.2.2.2.2.1) (ws' := []) hM.2.2.2.2.1 (by rw [px_cw0 hq]) ?_
      intro p e s m args below meth c s₁ B hml ht hv
      exact body p e s m args below meth c s₁ B hml (by rw [hq]; exact List.eq_nil_iff_forall_not_mem.mpr ht) hv
    | cons q0 r0 =>
      have hcw : px_cw M = Cond.codeWith M.1 M.2.2.1 M.2.2.2.1 M.2.2.2.2.1 (q0 :: r0) := by unfold px_cw; rw [hq]
      refine vx_ofWH (cc := M.2.2.1) (maxL := M.2.2.2.1) (ret := M.2.2.2.2.1) (hh := q0 :: r0) (ws' := []) hM.2.2.2.2.1 (by rw [hcw]) ?_
      intro p e s m args below meth c s₁ B hml hv
      exact body p e s m args below meth c s₁ B hml (by rw [hq]; exact vx_table (x := M.1) B (by rw [← hcw]; exact atoms_spec (ws := [px_cw M]) B.pre _ List.mem_cons_self)) hv
end
section
/-! Names: classes and fields, methods with their instructions and pools: written by a program out of the tables and bytes of the statement. -/
def ps_TMo : u_T := fun k => match k with
  | 0 => ("MoveOrder", "tiers", "I", true)
  | 1 => ("MoveOrder", "bays", "[LMoveOrder$Bay;", true)
  | 2 => ("MoveOrder", "boxes", "[LMoveOrder$Box;", true)
  | 3 => ("MoveOrder", "search", "LMoveOrder$Search;", true)
  | 4 => ("MoveOrder", "boxesTold", "I", false)
  | 5 => ("MoveOrder", "movesWorked", "I", false)
  | _ => ("MoveOrder", "loadsGone", "I", false)
def ps_tMo : Nat → FieldType := fun k => match k with
  | 0 => .int
  | 1 => .array (.object "MoveOrder$Bay")
  | 2 => .array (.object "MoveOrder$Box")
  | 3 => .object "MoveOrder$Search"
  | 4 => .int
  | 5 => .int
  | _ => .int
def ps_TBay : u_T := fun k => match k with
  | 0 => ("MoveOrder$Bay", "movedBox", "[I", true)
  | 1 => ("MoveOrder$Bay", "from", "[I", true)
  | 2 => ("MoveOrder$Bay", "to", "[I", true)
  | 3 => ("MoveOrder$Bay", "planned", "Z", false)
  | 4 => ("MoveOrder$Bay", "moves", "I", false)
  | 5 => ("MoveOrder$Bay", "worked", "I", false)
  | _ => ("MoveOrder$Bay", "waiting", "I", false)
def ps_tBay : Nat → FieldType := fun k => match k with
  | 0 => .array .int
  | 1 => .array .int
  | 2 => .array .int
  | 3 => .boolean
  | 4 => .int
  | 5 => .int
  | _ => .int
def ps_TBox : u_T := fun k => match k with
  | 0 => ("MoveOrder$Box", "port", "I", true)
  | 1 => ("MoveOrder$Box", "bay", "I", false)
  | 2 => ("MoveOrder$Box", "stack", "I", false)
  | 3 => ("MoveOrder$Box", "tier", "I", false)
  | _ => ("MoveOrder$Box", "earlier", "I", false)
def ps_tBox : Nat → FieldType := fun k => match k with
  | 0 => .int
  | 1 => .int
  | 2 => .int
  | 3 => .int
  | _ => .int
def ps_TSea : u_T := fun k => match k with
  | 0 => ("MoveOrder$Search", "tiers", "I", true)
  | 1 => ("MoveOrder$Search", "numbers", "[I", true)
  | 2 => ("MoveOrder$Search", "earlier", "[I", true)
  | 3 => ("MoveOrder$Search", "heights", "[I", true)
  | 4 => ("MoveOrder$Search", "tops", "[I", true)
  | 5 => ("MoveOrder$Search", "states", "[I", true)
  | 6 => ("MoveOrder$Search", "parents", "[I", true)
  | 7 => ("MoveOrder$Search", "steps", "[I", true)
  | 8 => ("MoveOrder$Search", "seen", "[J", true)
  | 9 => ("MoveOrder$Search", "size", "I", false)
  | 10 => ("MoveOrder$Search", "leaving", "I", false)
  | 11 => ("MoveOrder$Search", "start", "I", false)
  | 12 => ("MoveOrder$Search", "reached", "I", false)
  | _ => ("MoveOrder$Search", "end", "I", false)
def ps_tSea : Nat → FieldType := fun k => match k with
  | 0 => .int
  | 1 => .array .int
  | 2 => .array .int
  | 3 => .array .int
  | 4 => .array .int
  | 5 => .array .int
  | 6 => .array .int
  | 7 => .array .int
  | 8 => .array .long
  | 9 => .int
  | 10 => .int
  | 11 => .int
  | 12 => .int
  | _ => .int
def ps_TRef : u_T := fun k => match k with
  | 0 => ("MoveOrderModel", "thrown", "I", false)
  | 1 => ("MoveOrderModel", "bays", "I", true)
  | 2 => ("MoveOrderModel", "tiers", "I", true)
  | 3 => ("MoveOrderModel", "boxes", "I", false)
  | 4 => ("MoveOrderModel", "port", "[I", true)
  | 5 => ("MoveOrderModel", "bayOf", "[I", true)
  | 6 => ("MoveOrderModel", "stackOf", "[I", true)
  | 7 => ("MoveOrderModel", "tierOf", "[I", true)
  | 8 => ("MoveOrderModel", "needs", "[Z", true)
  | 9 => ("MoveOrderModel", "loads", "[I", true)
  | 10 => ("MoveOrderModel", "went", "I", false)
  | 11 => ("MoveOrderModel", "worked", "I", false)
  | 12 => ("MoveOrderModel", "planned", "[Z", true)
  | 13 => ("MoveOrderModel", "moves", "[I", true)
  | 14 => ("MoveOrderModel", "done", "[I", true)
  | 15 => ("MoveOrderModel", "moveBox", "[I", true)
  | 16 => ("MoveOrderModel", "moveFrom", "[I", true)
  | 17 => ("MoveOrderModel", "moveTo", "[I", true)
  | 18 => ("MoveOrderModel", "way", "[J", true)
  | 19 => ("MoveOrderModel", "cameFrom", "[I", true)
  | 20 => ("MoveOrderModel", "cameBy", "[I", true)
  | 21 => ("MoveOrderModel", "ways", "I", false)
  | 22 => ("MoveOrderModel", "hashed", "[I", true)
  | 23 => ("MoveOrderModel", "mine", "[I", true)
  | _ => ("MoveOrderModel", "mineCount", "I", false)
def ps_tRef : Nat → FieldType := fun k => match k with
  | 0 => .int
  | 1 => .int
  | 2 => .int
  | 3 => .int
  | 4 => .array .int
  | 5 => .array .int
  | 6 => .array .int
  | 7 => .array .int
  | 8 => .array .boolean
  | 9 => .array .int
  | 10 => .int
  | 11 => .int
  | 12 => .array .boolean
  | 13 => .array .int
  | 14 => .array .int
  | 15 => .array .int
  | 16 => .array .int
  | 17 => .array .int
  | 18 => .array .long
  | 19 => .array .int
  | 20 => .array .int
  | 21 => .int
  | 22 => .array .int
  | 23 => .array .int
  | _ => .int
abbrev ps_cl : List vw_C := [("MoveOrder", ps_TMo, 7), ("MoveOrder$Bay", ps_TBay, 7), ("MoveOrder$Box", ps_TBox, 5), ("MoveOrder$Search", ps_TSea, 14), ("MoveOrderModel", ps_TRef, 25)]
def ps_ft : Nat → Nat → FieldType := fun ci => match ci with
  | 0 => ps_tMo
  | 1 => ps_tBay
  | 2 => ps_tBox
  | 3 => ps_tSea
  | _ => ps_tRef
def ps_df : Nat → List Value := fun ci => match ci with
  | 0 => [.int 0, .null, .null, .null, .int 0, .int 0, .int 0]
  | 1 => [.null, .null, .null, .int 0, .int 0, .int 0, .int 0]
  | 2 => [.int 0, .int 0, .int 0, .int 0, .int 0]
  | 3 => [.int 0, .null, .null, .null, .null, .null, .null, .null, .null, .int 0, .int 0, .int 0, .int 0, .int 0]
  | _ => [.int 0, .int 0, .int 0, .int 0, .null, .null, .null, .null, .null, .null, .int 0, .int 0, .null, .null, .null, .null, .null, .null, .null, .null, .null, .int 0, .null, .null, .int 0]
def ps_tc : Nat → Nat := fun t => match t with
  | 3 => 1
  | _ => 2
abbrev ps_Y : px_L := (ps_ft, ps_df, ps_tc, 5)
abbrev ps_tyl : List FieldType := [.int, .long, .boolean, .object "MoveOrder$Bay", .object "MoveOrder$Box"]
def ps_wl : List Cond := Cond.code x code maxLocals ret :: lw_tbl.filter px_wb
theorem ps_in (i : Nat) {w : Cond} (h : lw_tbl[i]? = some w) (hb : px_wb w = true) : w ∈ ps_wl := List.mem_cons_of_mem _ (List.mem_filter.mpr ⟨List.mem_of_getElem? h, hb⟩)
theorem ps_wl_ok : ps_wl.all px_wb = true := by
  unfold ps_wl
  rw [List.all_cons, Bool.and_eq_true]
  exact ⟨rfl, List.all_eq_true.mpr fun w hw => (List.mem_filter.mp hw).2⟩
def ps_sl : List (String × Nat × String) := [("MoveOrder", 59, "no such bay, stack or port"), ("MoveOrder", 73, "no room for one more box"), ("MoveOrder", 107, "no such bay"), ("MoveOrder", 135, "no such bay, plan, move or what"), ("MoveOrder", 151, "no plan, or no move left of it"), ("MoveOrder", 173, "no such bay, or not 1 to 100 loads"), ("MoveOrder", 175, "more than 100 loads would wait"), ("MoveOrder", 180, "no such box"), ("MoveOrder", 192, "no such box or what")]
def ps_nl : List (String × String) := [("java/lang/IllegalArgumentException", "java/lang/IllegalStateException"), ("java/lang/IllegalArgumentException", "java/lang/IndexOutOfBoundsException"), ("java/lang/IllegalStateException", "java/lang/IllegalArgumentException"), ("java/lang/IllegalStateException", "java/lang/IndexOutOfBoundsException"), ("java/lang/IndexOutOfBoundsException", "java/lang/IllegalArgumentException"), ("java/lang/IndexOutOfBoundsException", "java/lang/IllegalStateException")]
abbrev ps_V : px_V := (ps_cl, ps_tyl, ps_wl, ps_sl, ps_nl)
def pm_Bay_init : px_M := (⟨"MoveOrder$Bay", "<init>", "()V"⟩, "MoveOrder$Bay", prog_2_method_1_code, 1, none,
  [(0, .aload_n 0, 1), (1, .invokespecial 3, 3), (4, .aload_n 0, 1), (5, .bipush 12, 2), (7, .newarray .int, 2), (9, .putfield 9, 3), (12, .aload_n 0, 1), (13, .bipush 12, 2), (15, .newarray .int, 2), (17, .putfield 15, 3), (20, .aload_n 0, 1), (21, .bipush 12, 2), (23, .newarray .int, 2), (25, .putfield 18, 3), (28, .aload_n 0, 1), (29, .iconst 0, 1), (30, .putfield 21, 3), (33, .aload_n 0, 1), (34, .iconst 0, 1), (35, .putfield 25, 3), (38, .aload_n 0, 1), (39, .iconst 0, 1), (40, .putfield 29, 3), (43, .aload_n 0, 1), (44, .iconst 0, 1), (45, .putfield 32, 3), (48, .return_, 1)],
  [(3, 6, 0, 0), (9, 0, 1, 0), (15, 0, 1, 1), (18, 0, 1, 2), (21, 0, 1, 3), (25, 0, 1, 4), (29, 0, 1, 5), (32, 0, 1, 6)], false, [], 1, 20)
def pm_Sea_init : px_M := (⟨"MoveOrder$Search", "<init>", "(I)V"⟩, "MoveOrder$Search", prog_4_method_1_code, 2, none,
  [(0, .aload_n 0, 1), (1, .invokespecial 3, 3), (4, .aload_n 0, 1), (5, .iconst 4, 1), (6, .newarray .int, 2), (8, .putfield 9, 3), (11, .aload_n 0, 1), (12, .iconst 4, 1), (13, .newarray .int, 2), (15, .putfield 15, 3), (18, .aload_n 0, 1), (19, .iconst 3, 1), (20, .newarray .int, 2), (22, .putfield 18, 3), (25, .aload_n 0, 1), (26, .iconst 3, 1), (27, .newarray .int, 2), (29, .putfield 21, 3), (32, .aload_n 0, 1), (33, .sipush 1240, 3), (36, .newarray .int, 2), (38, .putfield 24, 3), (41, .aload_n 0, 1), (42, .sipush 1240, 3), (45, .newarray .int, 2), (47, .putfield 27, 3), (50, .aload_n 0, 1), (51, .sipush 1240, 3), (54, .newarray .int, 2), (56, .putfield 30, 3), (59, .aload_n 0, 1), (60, .sipush 1024, 3), (63, .newarray .long, 2), (65, .putfield 33, 3), (68, .aload_n 0, 1), (69, .iconst 0, 1), (70, .putfield 37, 3), (73, .aload_n 0, 1), (74, .iconst 0, 1), (75, .putfield 41, 3), (78, .aload_n 0, 1), (79, .iconst 0, 1), (80, .putfield 44, 3), (83, .aload_n 0, 1), (84, .iconst 0, 1), (85, .putfield 47, 3), (88, .aload_n 0, 1), (89, .iconst (-1), 1), (90, .putfield 50, 3), (93, .aload_n 0, 1), (94, .iload_n 1, 1), (95, .putfield 53, 3), (98, .return_, 1)],
  [(3, 6, 0, 0), (9, 0, 3, 1), (15, 0, 3, 2), (18, 0, 3, 3), (21, 0, 3, 4), (24, 0, 3, 5), (27, 0, 3, 6), (30, 0, 3, 7), (33, 0, 3, 8), (37, 0, 3, 9), (41, 0, 3, 10), (44, 0, 3, 11), (47, 0, 3, 12), (50, 0, 3, 13), (53, 0, 3, 0)], false, [], 1, 20)
def pm_Mo_init : px_M := (⟨"MoveOrder", "<init>", "(II)V"⟩, "MoveOrder", prog_1_method_1_code, 5, none,
  [(0, .aload_n 0, 1), (1, .invokespecial 3, 3), (4, .aload_n 0, 1), (5, .bipush 16, 2), (7, .anewarray 9, 3), (10, .putfield 11, 3), (13, .aload_n 0, 1), (14, .iconst 0, 1), (15, .putfield 15, 3), (18, .aload_n 0, 1), (19, .iconst 0, 1), (20, .putfield 19, 3), (23, .aload_n 0, 1), (24, .iconst 0, 1), (25, .putfield 22, 3), (28, .iconst 1, 1), (29, .iconst 4, 1), (30, .iload_n 1, 1), (31, .invokestatic 25, 3), (34, .invokestatic 31, 3), (37, .istore_n 3, 1), (38, .aload_n 0, 1), (39, .iconst 1, 1), (40, .iconst 4, 1), (41, .iload_n 2, 1), (42, .invokestatic 25, 3), (45, .invokestatic 31, 3), (48, .putfield 34, 3), (51, .aload_n 0, 1), (52, .iload_n 3, 1), (53, .anewarray 37, 3), (56, .putfield 39, 3), (59, .iconst 0, 1), (60, .istore 4, 2), (62, .iload 4, 2), (64, .iload_n 3, 1), (65, .if_icmp .ge 23, 3), (68, .aload_n 0, 1), (69, .getfield 39, 3), (72, .iload 4, 2), (74, .new 37, 3), (77, .dup, 1), (78, .invokespecial 43, 3), (81, .aastore, 1), (82, .iinc 4 1, 3), (85, .goto (-23), 3), (88, .aload_n 0, 1), (89, .new 44, 3), (92, .dup, 1), (93, .aload_n 0, 1), (94, .getfield 34, 3), (97, .invokespecial 46, 3), (100, .putfield 49, 3), (103, .return_, 1)],
  [(3, 6, 0, 0), (11, 0, 0, 2), (15, 0, 0, 4), (19, 0, 0, 5), (22, 0, 0, 6), (25, 7, 1, 0), (31, 7, 0, 0), (34, 0, 0, 0), (37, 2, 1, 7), (39, 0, 0, 1), (43, 1, 0, 0), (44, 2, 3, 14), (46, 1, 1, 1), (49, 0, 0, 3), (65545, 3, 4, 0), (65573, 3, 3, 0)], false, [], 2, 41)
def pm_Mo_bayAt : px_M := (⟨"MoveOrder", "bayAt", "(I)LMoveOrder$Bay;"⟩, "MoveOrder", prog_1_method_14_code, 2, (some (.object "MoveOrder$Bay")),
  [(0, .iload_n 1, 1), (1, .ifCond .lt 21, 3), (4, .iload_n 1, 1), (5, .aload_n 0, 1), (6, .getfield 39, 3), (9, .arraylength, 1), (10, .if_icmp .ge 12, 3), (13, .aload_n 0, 1), (14, .getfield 39, 3), (17, .iload_n 1, 1), (18, .aaload, 1), (19, .goto 4, 3), (22, .aconst_null, 1), (23, .areturn, 1)],
  [(39, 0, 0, 1)], false, [], 0, 0)
def pm_Mo_boxAt : px_M := (⟨"MoveOrder", "boxAt", "(I)LMoveOrder$Box;"⟩, "MoveOrder", prog_1_method_15_code, 2, (some (.object "MoveOrder$Box")),
  [(0, .iload_n 1, 1), (1, .ifCond .lt 29, 3), (4, .iload_n 1, 1), (5, .aload_n 0, 1), (6, .getfield 15, 3), (9, .if_icmp .ge 21, 3), (12, .iload_n 1, 1), (13, .aload_n 0, 1), (14, .getfield 11, 3), (17, .arraylength, 1), (18, .if_icmp .ge 12, 3), (21, .aload_n 0, 1), (22, .getfield 11, 3), (25, .iload_n 1, 1), (26, .aaload, 1), (27, .goto 4, 3), (30, .aconst_null, 1), (31, .areturn, 1)],
  [(11, 0, 0, 2), (15, 0, 0, 4)], false, [], 0, 0)
def pm_Box_isToLeave : px_M := (⟨"MoveOrder$Box", "isToLeave", "()Z"⟩, "MoveOrder$Box", prog_3_method_4_code, 1, (some .boolean),
  [(0, .aload_n 0, 1), (1, .getfield 15, 3), (4, .ifCond .ne 15, 3), (7, .aload_n 0, 1), (8, .getfield 21, 3), (11, .iconst 3, 1), (12, .if_icmp .eq 7, 3), (15, .iconst 1, 1), (16, .goto 4, 3), (19, .iconst 0, 1), (20, .ireturn, 1)],
  [(15, 0, 2, 0), (21, 0, 2, 2)], false, [], 0, 0)
def pm_Box_follows : px_M := (⟨"MoveOrder$Box", "follows", "(I)Z"⟩, "MoveOrder$Box", prog_3_method_5_code, 2, (some .boolean),
  [(0, .aload_n 0, 1), (1, .getfield 9, 3), (4, .iload_n 1, 1), (5, .ishr, 1), (6, .iconst 1, 1), (7, .iand, 1), (8, .ifCond .eq 7, 3), (11, .iconst 1, 1), (12, .goto 4, 3), (15, .iconst 0, 1), (16, .ireturn, 1)],
  [(9, 0, 2, 4)], false, [], 0, 0)
def pm_Mo_comesBefore : px_M := (⟨"MoveOrder", "comesBefore", "(ILMoveOrder$Box;)Z"⟩, "MoveOrder", prog_1_method_21_code, 7, (some .boolean),
  [(0, .aload_n 2, 1), (1, .getfield 101, 3), (4, .istore_n 3, 1), (5, .iconst 0, 1), (6, .istore 4, 2), (8, .iload 4, 2), (10, .bipush 16, 2), (12, .if_icmp .ge 57, 3), (15, .iconst 0, 1), (16, .istore 5, 2), (18, .iload 5, 2), (20, .aload_n 0, 1), (21, .getfield 15, 3), (24, .if_icmp .ge 39, 3), (27, .aload_n 0, 1), (28, .iload 5, 2), (30, .invokevirtual 82, 3), (33, .astore 6, 2), (35, .aload 6, 2), (37, .ifnull 20, 3), (40, .iload_n 3, 1), (41, .iload 5, 2), (43, .ishr, 1), (44, .iconst 1, 1), (45, .iand, 1), (46, .ifCond .eq 11, 3), (49, .iload_n 3, 1), (50, .aload 6, 2), (52, .getfield 101, 3), (55, .ior, 1), (56, .istore_n 3, 1), (57, .iinc 5 1, 3), (60, .goto (-42), 3), (63, .iinc 4 1, 3), (66, .goto (-58), 3), (69, .iload_n 3, 1), (70, .iload_n 1, 1), (71, .ishr, 1), (72, .iconst 1, 1), (73, .iand, 1), (74, .ifCond .eq 7, 3), (77, .iconst 1, 1), (78, .goto 4, 3), (81, .iconst 0, 1), (82, .ireturn, 1)],
  [(15, 0, 0, 4), (82, 10, 4, 1), (101, 0, 2, 4)], false, [], 1, 21)
def pm_Bay_forgetPlan : px_M := (⟨"MoveOrder$Bay", "forgetPlan", "()V"⟩, "MoveOrder$Bay", prog_2_method_2_code, 1, none,
  [(0, .aload_n 0, 1), (1, .iconst 0, 1), (2, .putfield 21, 3), (5, .aload_n 0, 1), (6, .iconst 0, 1), (7, .putfield 25, 3), (10, .aload_n 0, 1), (11, .iconst 0, 1), (12, .putfield 29, 3), (15, .return_, 1)],
  [(21, 0, 1, 3), (25, 0, 1, 4), (29, 0, 1, 5)], false, [], 0, 0)
def pm_Mo_forgetPlanOf : px_M := (⟨"MoveOrder", "forgetPlanOf", "(I)V"⟩, "MoveOrder", prog_1_method_16_code, 3, none,
  [(0, .aload_n 0, 1), (1, .iload_n 1, 1), (2, .invokevirtual 53, 3), (5, .astore_n 2, 1), (6, .aload_n 2, 1), (7, .ifnull 7, 3), (10, .aload_n 2, 1), (11, .invokevirtual 79, 3), (14, .return_, 1)],
  [(53, 10, 3, 1), (79, 11, 8, 0)], false, [], 1, 21)
def pm_Mo_before : px_M := (⟨"MoveOrder", "before", "(II)Z"⟩, "MoveOrder", prog_1_method_3_code, 5, (some .boolean),
  [(0, .aload_n 0, 1), (1, .iload_n 1, 1), (2, .invokevirtual 82, 3), (5, .astore_n 3, 1), (6, .aload_n 0, 1), (7, .iload_n 2, 1), (8, .invokevirtual 82, 3), (11, .astore 4, 2), (13, .aload_n 3, 1), (14, .ifnull 20, 3), (17, .aload 4, 2), (19, .ifnull 15, 3), (22, .aload_n 3, 1), (23, .getfield 86, 3), (26, .aload 4, 2), (28, .getfield 86, 3), (31, .if_icmp .eq 5, 3), (34, .iconst 0, 1), (35, .ireturn, 1), (36, .aload_n 3, 1), (37, .invokevirtual 89, 3), (40, .ifCond .eq 11, 3), (43, .aload 4, 2), (45, .invokevirtual 89, 3), (48, .ifCond .ne 5, 3), (51, .iconst 0, 1), (52, .ireturn, 1), (53, .iload_n 1, 1), (54, .iload_n 2, 1), (55, .if_icmp .eq 21, 3), (58, .aload 4, 2), (60, .iload_n 1, 1), (61, .invokevirtual 93, 3), (64, .ifCond .ne 12, 3), (67, .aload_n 0, 1), (68, .iload_n 2, 1), (69, .aload_n 3, 1), (70, .invokevirtual 97, 3), (73, .ifCond .eq 5, 3), (76, .iconst 0, 1), (77, .ireturn, 1), (78, .aload 4, 2), (80, .dup, 1), (81, .getfield 101, 3), (84, .iconst 1, 1), (85, .iload_n 1, 1), (86, .ishl, 1), (87, .ior, 1), (88, .putfield 101, 3), (91, .aload_n 0, 1), (92, .aload_n 3, 1), (93, .getfield 86, 3), (96, .invokevirtual 104, 3), (99, .iconst 1, 1), (100, .ireturn, 1)],
  [(82, 10, 4, 1), (86, 0, 2, 1), (89, 12, 5, 0), (93, 12, 6, 1), (97, 10, 7, 2), (101, 0, 2, 4), (104, 10, 9, 1)], false, [], 2, 47)
def pm_Mo_heightOf : px_M := (⟨"MoveOrder", "heightOf", "(II)I"⟩, "MoveOrder", prog_1_method_19_code, 6, (some .int),
  [(0, .iconst 0, 1), (1, .istore_n 3, 1), (2, .iconst 0, 1), (3, .istore 4, 2), (5, .iload 4, 2), (7, .aload_n 0, 1), (8, .getfield 15, 3), (11, .if_icmp .ge 43, 3), (14, .aload_n 0, 1), (15, .iload 4, 2), (17, .invokevirtual 82, 3), (20, .astore 5, 2), (22, .aload 5, 2), (24, .ifnull 24, 3), (27, .aload 5, 2), (29, .getfield 86, 3), (32, .iload_n 1, 1), (33, .if_icmp .ne 15, 3), (36, .aload 5, 2), (38, .getfield 156, 3), (41, .iload_n 2, 1), (42, .if_icmp .ne 6, 3), (45, .iinc 3 1, 3), (48, .iinc 4 1, 3), (51, .goto (-46), 3), (54, .iload_n 3, 1), (55, .ireturn, 1)],
  [(15, 0, 0, 4), (82, 10, 4, 1), (86, 0, 2, 1), (156, 0, 2, 2)], false, [], 1, 21)
def pm_Box_isIn : px_M := (⟨"MoveOrder$Box", "isIn", "(I)Z"⟩, "MoveOrder$Box", prog_3_method_3_code, 2, (some .boolean),
  [(0, .aload_n 0, 1), (1, .getfield 18, 3), (4, .iload_n 1, 1), (5, .if_icmp .ne 15, 3), (8, .aload_n 0, 1), (9, .getfield 21, 3), (12, .iconst 3, 1), (13, .if_icmp .eq 7, 3), (16, .iconst 1, 1), (17, .goto 4, 3), (20, .iconst 0, 1), (21, .ireturn, 1)],
  [(18, 0, 2, 1), (21, 0, 2, 2)], false, [], 0, 0)
def pm_Mo_boxesIn : px_M := (⟨"MoveOrder", "boxesIn", "(I)I"⟩, "MoveOrder", prog_1_method_17_code, 5, (some .int),
  [(0, .iconst 0, 1), (1, .istore_n 2, 1), (2, .iconst 0, 1), (3, .istore_n 3, 1), (4, .iload_n 3, 1), (5, .aload_n 0, 1), (6, .getfield 15, 3), (9, .if_icmp .ge 33, 3), (12, .aload_n 0, 1), (13, .iload_n 3, 1), (14, .invokevirtual 82, 3), (17, .astore 4, 2), (19, .aload 4, 2), (21, .ifnull 15, 3), (24, .aload 4, 2), (26, .iload_n 1, 1), (27, .invokevirtual 112, 3), (30, .ifCond .eq 6, 3), (33, .iinc 2 1, 3), (36, .iinc 3 1, 3), (39, .goto (-35), 3), (42, .iload_n 2, 1), (43, .ireturn, 1)],
  [(15, 0, 0, 4), (82, 10, 4, 1), (112, 12, 12, 1)], false, [], 1, 21)
def pm_Box_init : px_M := (⟨"MoveOrder$Box", "<init>", "(IIII)V"⟩, "MoveOrder$Box", prog_3_method_1_code, 5, none,
  [(0, .aload_n 0, 1), (1, .invokespecial 3, 3), (4, .aload_n 0, 1), (5, .iconst 0, 1), (6, .putfield 9, 3), (9, .aload_n 0, 1), (10, .iload_n 1, 1), (11, .putfield 15, 3), (14, .aload_n 0, 1), (15, .iload_n 2, 1), (16, .putfield 18, 3), (19, .aload_n 0, 1), (20, .iload_n 3, 1), (21, .putfield 21, 3), (24, .aload_n 0, 1), (25, .iload 4, 2), (27, .putfield 24, 3), (30, .return_, 1)],
  [(3, 6, 0, 0), (9, 0, 2, 4), (15, 0, 2, 0), (18, 0, 2, 1), (21, 0, 2, 2), (24, 0, 2, 3)], false, [], 1, 20)
def pm_Mo_box : px_M := (⟨"MoveOrder", "box", "(III)I"⟩, "MoveOrder", prog_1_method_2_code, 7, (some .int),
  [(0, .aload_n 0, 1), (1, .iload_n 1, 1), (2, .invokevirtual 53, 3), (5, .astore 4, 2), (7, .aload 4, 2), (9, .ifnull 21, 3), (12, .iload_n 2, 1), (13, .ifCond .lt 17, 3), (16, .iload_n 2, 1), (17, .iconst 3, 1), (18, .if_icmp .ge 12, 3), (21, .iload_n 3, 1), (22, .ifCond .lt 8, 3), (25, .iload_n 3, 1), (26, .iconst 5, 1), (27, .if_icmp .le 13, 3), (30, .new 57, 3), (33, .dup, 1), (34, .ldc 59, 2), (36, .invokespecial 61, 3), (39, .athrow, 1), (40, .aload_n 0, 1), (41, .iload_n 1, 1), (42, .iload_n 2, 1), (43, .invokevirtual 64, 3), (46, .istore 5, 2), (48, .aload_n 0, 1), (49, .getfield 15, 3), (52, .bipush 16, 2), (54, .if_icmp .ge 21, 3), (57, .aload_n 0, 1), (58, .iload_n 1, 1), (59, .invokevirtual 67, 3), (62, .iconst 4, 1), (63, .if_icmp .ge 12, 3), (66, .iload 5, 2), (68, .aload_n 0, 1), (69, .getfield 34, 3), (72, .if_icmp .lt 13, 3), (75, .new 71, 3), (78, .dup, 1), (79, .ldc 73, 2), (81, .invokespecial 75, 3), (84, .athrow, 1), (85, .aload_n 0, 1), (86, .getfield 15, 3), (89, .istore 6, 2), (91, .aload_n 0, 1), (92, .getfield 11, 3), (95, .iload 6, 2), (97, .new 9, 3), (100, .dup, 1), (101, .iload_n 3, 1), (102, .iload_n 1, 1), (103, .iload_n 2, 1), (104, .iload 5, 2), (106, .invokespecial 76, 3), (109, .aastore, 1), (110, .aload_n 0, 1), (111, .dup, 1), (112, .getfield 15, 3), (115, .iconst 1, 1), (116, .iadd, 1), (117, .putfield 15, 3), (120, .aload 4, 2), (122, .invokevirtual 79, 3), (125, .iload 6, 2), (127, .ireturn, 1)],
  [(9, 2, 2, 5), (11, 0, 0, 2), (15, 0, 0, 4), (34, 0, 0, 0), (53, 10, 3, 1), (57, 8, 1, 61), (64, 10, 11, 2), (67, 10, 13, 1), (71, 8, 2, 75), (76, 1, 14, 4), (79, 11, 8, 0)], false, [], 6, 82)
def pm_Mo_boxesAt : px_M := (⟨"MoveOrder", "boxesAt", "(I)I"⟩, "MoveOrder", prog_1_method_18_code, 5, (some .int),
  [(0, .iconst 0, 1), (1, .istore_n 2, 1), (2, .iconst 0, 1), (3, .istore_n 3, 1), (4, .iload_n 3, 1), (5, .aload_n 0, 1), (6, .getfield 15, 3), (9, .if_icmp .ge 33, 3), (12, .aload_n 0, 1), (13, .iload_n 3, 1), (14, .invokevirtual 82, 3), (17, .astore 4, 2), (19, .aload 4, 2), (21, .ifnull 15, 3), (24, .aload 4, 2), (26, .getfield 156, 3), (29, .iload_n 1, 1), (30, .if_icmp .ne 6, 3), (33, .iinc 2 1, 3), (36, .iinc 3 1, 3), (39, .goto (-35), 3), (42, .iload_n 2, 1), (43, .ireturn, 1)],
  [(15, 0, 0, 4), (82, 10, 4, 1), (156, 0, 2, 2)], false, [], 1, 21)
def pm_Bay_movesLeft : px_M := (⟨"MoveOrder$Bay", "movesLeft", "()I"⟩, "MoveOrder$Bay", prog_2_method_6_code, 1, (some .int),
  [(0, .aload_n 0, 1), (1, .getfield 21, 3), (4, .ifCond .eq 15, 3), (7, .aload_n 0, 1), (8, .getfield 25, 3), (11, .aload_n 0, 1), (12, .getfield 29, 3), (15, .isub, 1), (16, .goto 4, 3), (19, .iconst (-1), 1), (20, .ireturn, 1)],
  [(21, 0, 1, 3), (25, 0, 1, 4), (29, 0, 1, 5)], false, [], 0, 0)
def pm_Mo_countOfBay : px_M := (⟨"MoveOrder", "countOfBay", "(I)I"⟩, "MoveOrder", prog_1_method_13_code, 3, (some .int),
  [(0, .iload_n 1, 1), (1, .bipush 20, 2), (3, .if_icmp .lt 25, 3), (6, .aload_n 0, 1), (7, .iload_n 1, 1), (8, .bipush 20, 2), (10, .isub, 1), (11, .invokevirtual 53, 3), (14, .astore_n 2, 1), (15, .aload_n 2, 1), (16, .ifnonnull 7, 3), (19, .iconst (-1), 1), (20, .goto 7, 3), (23, .aload_n 2, 1), (24, .invokevirtual 162, 3), (27, .ireturn, 1), (28, .iload_n 1, 1), (29, .bipush 10, 2), (31, .if_icmp .lt 25, 3), (34, .aload_n 0, 1), (35, .iload_n 1, 1), (36, .bipush 10, 2), (38, .isub, 1), (39, .invokevirtual 53, 3), (42, .astore_n 2, 1), (43, .aload_n 2, 1), (44, .ifnonnull 7, 3), (47, .iconst (-1), 1), (48, .goto 7, 3), (51, .aload_n 2, 1), (52, .getfield 159, 3), (55, .ireturn, 1), (56, .iconst (-1), 1), (57, .ireturn, 1)],
  [(53, 10, 3, 1), (159, 0, 1, 6), (162, 11, 17, 0)], false, [], 1, 21)
def pm_Mo_count : px_M := (⟨"MoveOrder", "count", "(I)I"⟩, "MoveOrder", prog_1_method_12_code, 2, (some .int),
  [(0, .iload_n 1, 1), (1, .tableswitch 62 0 4 #[35, 40, 46, 52, 57], 35), (36, .aload_n 0, 1), (37, .getfield 15, 3), (40, .ireturn, 1), (41, .aload_n 0, 1), (42, .iconst 3, 1), (43, .invokevirtual 194, 3), (46, .ireturn, 1), (47, .aload_n 0, 1), (48, .iconst 4, 1), (49, .invokevirtual 194, 3), (52, .ireturn, 1), (53, .aload_n 0, 1), (54, .getfield 19, 3), (57, .ireturn, 1), (58, .aload_n 0, 1), (59, .getfield 22, 3), (62, .ireturn, 1), (63, .aload_n 0, 1), (64, .iload_n 1, 1), (65, .invokevirtual 197, 3), (68, .ireturn, 1)],
  [(15, 0, 0, 4), (19, 0, 0, 5), (22, 0, 0, 6), (194, 10, 16, 1), (197, 10, 18, 1)], false, [], 2, 45)
def pm_Bay_hasMove : px_M := (⟨"MoveOrder$Bay", "hasMove", "(I)Z"⟩, "MoveOrder$Bay", prog_2_method_5_code, 2, (some .boolean),
  [(0, .aload_n 0, 1), (1, .getfield 21, 3), (4, .ifCond .eq 25, 3), (7, .iload_n 1, 1), (8, .ifCond .lt 21, 3), (11, .iload_n 1, 1), (12, .aload_n 0, 1), (13, .getfield 25, 3), (16, .if_icmp .ge 13, 3), (19, .iload_n 1, 1), (20, .bipush 12, 2), (22, .if_icmp .ge 7, 3), (25, .iconst 1, 1), (26, .goto 4, 3), (29, .iconst 0, 1), (30, .ireturn, 1)],
  [(21, 0, 1, 3), (25, 0, 1, 4)], false, [], 0, 0)
def pm_Bay_movesOutLeft : px_M := (⟨"MoveOrder$Bay", "movesOutLeft", "()I"⟩, "MoveOrder$Bay", prog_2_method_7_code, 3, (some .int),
  [(0, .iconst 0, 1), (1, .istore_n 1, 1), (2, .aload_n 0, 1), (3, .getfield 29, 3), (6, .istore_n 2, 1), (7, .iload_n 2, 1), (8, .aload_n 0, 1), (9, .getfield 25, 3), (12, .if_icmp .ge 30, 3), (15, .aload_n 0, 1), (16, .iload_n 2, 1), (17, .invokevirtual 38, 3), (20, .ifCond .eq 16, 3), (23, .aload_n 0, 1), (24, .getfield 18, 3), (27, .iload_n 2, 1), (28, .iaload, 1), (29, .iconst 3, 1), (30, .if_icmp .ne 6, 3), (33, .iinc 1 1, 3), (36, .iinc 2 1, 3), (39, .goto (-32), 3), (42, .iload_n 1, 1), (43, .ireturn, 1)],
  [(18, 0, 1, 2), (25, 0, 1, 4), (29, 0, 1, 5), (38, 11, 20, 1)], false, [], 1, 21)
def pm_Mo_dual : px_M := (⟨"MoveOrder", "dual", "(I)I"⟩, "MoveOrder", prog_1_method_9_code, 3, (some .int),
  [(0, .aload_n 0, 1), (1, .iload_n 1, 1), (2, .invokevirtual 53, 3), (5, .astore_n 2, 1), (6, .aload_n 2, 1), (7, .ifnonnull 13, 3), (10, .new 57, 3), (13, .dup, 1), (14, .ldc 107, 2), (16, .invokespecial 61, 3), (19, .athrow, 1), (20, .aload_n 2, 1), (21, .getfield 123, 3), (24, .ifCond .eq 17, 3), (27, .aload_n 2, 1), (28, .getfield 159, 3), (31, .aload_n 2, 1), (32, .invokevirtual 177, 3), (35, .invokestatic 25, 3), (38, .goto 4, 3), (41, .iconst (-1), 1), (42, .ireturn, 1)],
  [(25, 7, 1, 0), (53, 10, 3, 1), (57, 8, 1, 61), (123, 0, 1, 3), (159, 0, 1, 6), (177, 11, 21, 0)], false, [], 6, 82)
def pm_Mo_hasNeeds : px_M := (⟨"MoveOrder", "hasNeeds", "(ILMoveOrder$Box;)Z"⟩, "MoveOrder", prog_1_method_22_code, 5, (some .boolean),
  [(0, .aload_n 2, 1), (1, .getfield 101, 3), (4, .ifCond .eq 5, 3), (7, .iconst 1, 1), (8, .ireturn, 1), (9, .iconst 0, 1), (10, .istore_n 3, 1), (11, .iload_n 3, 1), (12, .aload_n 0, 1), (13, .getfield 15, 3), (16, .if_icmp .ge 32, 3), (19, .aload_n 0, 1), (20, .iload_n 3, 1), (21, .invokevirtual 82, 3), (24, .astore 4, 2), (26, .aload 4, 2), (28, .ifnull 14, 3), (31, .aload 4, 2), (33, .iload_n 1, 1), (34, .invokevirtual 93, 3), (37, .ifCond .eq 5, 3), (40, .iconst 1, 1), (41, .ireturn, 1), (42, .iinc 3 1, 3), (45, .goto (-34), 3), (48, .iconst 0, 1), (49, .ireturn, 1)],
  [(15, 0, 0, 4), (82, 10, 4, 1), (93, 12, 6, 1), (101, 0, 2, 4)], false, [], 1, 21)
def pm_Box_liesInStack : px_M := (⟨"MoveOrder$Box", "liesInStack", "()Z"⟩, "MoveOrder$Box", prog_3_method_2_code, 1, (some .boolean),
  [(0, .aload_n 0, 1), (1, .getfield 21, 3), (4, .iconst 3, 1), (5, .if_icmp .ge 7, 3), (8, .iconst 1, 1), (9, .goto 4, 3), (12, .iconst 0, 1), (13, .ireturn, 1)],
  [(21, 0, 2, 2)], false, [], 0, 0)
def pm_Box_liesBelow : px_M := (⟨"MoveOrder$Box", "liesBelow", "(LMoveOrder$Box;)Z"⟩, "MoveOrder$Box", prog_3_method_6_code, 2, (some .boolean),
  [(0, .aload_n 0, 1), (1, .getfield 18, 3), (4, .aload_n 1, 1), (5, .getfield 18, 3), (8, .if_icmp .ne 29, 3), (11, .aload_n 0, 1), (12, .getfield 21, 3), (15, .aload_n 1, 1), (16, .getfield 21, 3), (19, .if_icmp .ne 18, 3), (22, .aload_n 0, 1), (23, .getfield 24, 3), (26, .aload_n 1, 1), (27, .getfield 24, 3), (30, .if_icmp .ge 7, 3), (33, .iconst 1, 1), (34, .goto 4, 3), (37, .iconst 0, 1), (38, .ireturn, 1)],
  [(18, 0, 2, 1), (21, 0, 2, 2), (24, 0, 2, 3)], false, [], 0, 0)
def pm_Mo_liesAboveLeaving : px_M := (⟨"MoveOrder", "liesAboveLeaving", "(LMoveOrder$Box;)Z"⟩, "MoveOrder", prog_1_method_20_code, 4, (some .boolean),
  [(0, .aload_n 1, 1), (1, .invokevirtual 182, 3), (4, .ifCond .ne 5, 3), (7, .iconst 0, 1), (8, .ireturn, 1), (9, .iconst 0, 1), (10, .istore_n 2, 1), (11, .iload_n 2, 1), (12, .aload_n 0, 1), (13, .getfield 15, 3), (16, .if_icmp .ge 36, 3), (19, .aload_n 0, 1), (20, .iload_n 2, 1), (21, .invokevirtual 82, 3), (24, .astore_n 3, 1), (25, .aload_n 3, 1), (26, .ifnull 20, 3), (29, .aload_n 3, 1), (30, .getfield 166, 3), (33, .ifCond .ne 13, 3), (36, .aload_n 3, 1), (37, .aload_n 1, 1), (38, .invokevirtual 200, 3), (41, .ifCond .eq 5, 3), (44, .iconst 1, 1), (45, .ireturn, 1), (46, .iinc 2 1, 3), (49, .goto (-38), 3), (52, .iconst 0, 1), (53, .ireturn, 1)],
  [(15, 0, 0, 4), (82, 10, 4, 1), (166, 0, 2, 0), (182, 12, 24, 0), (200, 12, 25, 1)], false, [], 1, 21)
def pm_Mo_least : px_M := (⟨"MoveOrder", "least", "(I)I"⟩, "MoveOrder", prog_1_method_7_code, 5, (some .int),
  [(0, .aload_n 0, 1), (1, .iload_n 1, 1), (2, .invokevirtual 53, 3), (5, .ifnonnull 13, 3), (8, .new 57, 3), (11, .dup, 1), (12, .ldc 107, 2), (14, .invokespecial 61, 3), (17, .athrow, 1), (18, .iconst 0, 1), (19, .istore_n 2, 1), (20, .iconst 0, 1), (21, .istore_n 3, 1), (22, .iload_n 3, 1), (23, .aload_n 0, 1), (24, .getfield 15, 3), (27, .if_icmp .ge 50, 3), (30, .aload_n 0, 1), (31, .iload_n 3, 1), (32, .invokevirtual 82, 3), (35, .astore 4, 2), (37, .aload 4, 2), (39, .ifnull 32, 3), (42, .aload 4, 2), (44, .iload_n 1, 1), (45, .invokevirtual 112, 3), (48, .ifCond .eq 23, 3), (51, .aload 4, 2), (53, .getfield 166, 3), (56, .ifCond .eq 12, 3), (59, .aload_n 0, 1), (60, .aload 4, 2), (62, .invokevirtual 169, 3), (65, .ifCond .eq 6, 3), (68, .iinc 2 1, 3), (71, .iinc 3 1, 3), (74, .goto (-52), 3), (77, .iload_n 2, 1), (78, .ireturn, 1)],
  [(15, 0, 0, 4), (53, 10, 3, 1), (57, 8, 1, 61), (82, 10, 4, 1), (112, 12, 12, 1), (166, 0, 2, 0), (169, 10, 26, 1)], false, [], 6, 82)
def pm_Mo_loads : px_M := (⟨"MoveOrder", "loads", "(II)I"⟩, "MoveOrder", prog_1_method_8_code, 4, (some .int),
  [(0, .aload_n 0, 1), (1, .iload_n 1, 1), (2, .invokevirtual 53, 3), (5, .astore_n 3, 1), (6, .aload_n 3, 1), (7, .ifnull 14, 3), (10, .iload_n 2, 1), (11, .iconst 1, 1), (12, .if_icmp .lt 9, 3), (15, .iload_n 2, 1), (16, .bipush 100, 2), (18, .if_icmp .le 13, 3), (21, .new 57, 3), (24, .dup, 1), (25, .ldc 173, 2), (27, .invokespecial 61, 3), (30, .athrow, 1), (31, .aload_n 3, 1), (32, .getfield 159, 3), (35, .iload_n 2, 1), (36, .iadd, 1), (37, .bipush 100, 2), (39, .if_icmp .le 13, 3), (42, .new 71, 3), (45, .dup, 1), (46, .ldc 175, 2), (48, .invokespecial 75, 3), (51, .athrow, 1), (52, .aload_n 3, 1), (53, .dup, 1), (54, .getfield 159, 3), (57, .iload_n 2, 1), (58, .iadd, 1), (59, .putfield 159, 3), (62, .aload_n 3, 1), (63, .getfield 159, 3), (66, .ireturn, 1)],
  [(53, 10, 3, 1), (57, 8, 1, 61), (71, 8, 2, 75), (159, 0, 1, 6)], false, [], 6, 82)
def pm_Mo_look : px_M := (⟨"MoveOrder", "look", "(II)I"⟩, "MoveOrder", prog_1_method_11_code, 4, (some .int),
  [(0, .aload_n 0, 1), (1, .iload_n 1, 1), (2, .invokevirtual 82, 3), (5, .astore_n 3, 1), (6, .aload_n 3, 1), (7, .ifnull 12, 3), (10, .iload_n 2, 1), (11, .ifCond .lt 8, 3), (14, .iload_n 2, 1), (15, .iconst 3, 1), (16, .if_icmp .le 13, 3), (19, .new 133, 3), (22, .dup, 1), (23, .ldc 192, 2), (25, .invokespecial 137, 3), (28, .athrow, 1), (29, .iload_n 2, 1), (30, .tableswitch 41 0 2 #[26, 31, 36], 26), (56, .aload_n 3, 1), (57, .getfield 166, 3), (60, .ireturn, 1), (61, .aload_n 3, 1), (62, .getfield 86, 3), (65, .ireturn, 1), (66, .aload_n 3, 1), (67, .getfield 156, 3), (70, .ireturn, 1), (71, .aload_n 3, 1), (72, .getfield 153, 3), (75, .ireturn, 1)],
  [(82, 10, 4, 1), (86, 0, 2, 1), (133, 8, 3, 137), (153, 0, 2, 3), (156, 0, 2, 2), (166, 0, 2, 0)], false, [], 6, 82)
def pm_Mo_move : px_M := (⟨"MoveOrder", "move", "(III)I"⟩, "MoveOrder", prog_1_method_5_code, 5, (some .int),
  [(0, .aload_n 0, 1), (1, .iload_n 1, 1), (2, .invokevirtual 53, 3), (5, .astore 4, 2), (7, .aload 4, 2), (9, .ifnull 21, 3), (12, .aload 4, 2), (14, .iload_n 2, 1), (15, .invokevirtual 130, 3), (18, .ifCond .eq 12, 3), (21, .iload_n 3, 1), (22, .ifCond .lt 8, 3), (25, .iload_n 3, 1), (26, .iconst 3, 1), (27, .if_icmp .le 13, 3), (30, .new 133, 3), (33, .dup, 1), (34, .ldc 135, 2), (36, .invokespecial 137, 3), (39, .athrow, 1), (40, .iload_n 3, 1), (41, .tableswitch 51 0 2 #[27, 35, 43], 27), (68, .aload 4, 2), (70, .getfield 138, 3), (73, .iload_n 2, 1), (74, .iaload, 1), (75, .ireturn, 1), (76, .aload 4, 2), (78, .getfield 142, 3), (81, .iload_n 2, 1), (82, .iaload, 1), (83, .ireturn, 1), (84, .aload 4, 2), (86, .getfield 145, 3), (89, .iload_n 2, 1), (90, .iaload, 1), (91, .ireturn, 1), (92, .iload_n 2, 1), (93, .aload 4, 2), (95, .getfield 148, 3), (98, .if_icmp .ge 7, 3), (101, .iconst 1, 1), (102, .goto 4, 3), (105, .iconst 0, 1), (106, .ireturn, 1)],
  [(53, 10, 3, 1), (130, 11, 20, 1), (133, 8, 3, 137), (138, 0, 1, 0), (142, 0, 1, 1), (145, 0, 1, 2), (148, 0, 1, 5)], false, [], 6, 82)
def pm_Sea_clear : px_M := (⟨"MoveOrder$Search", "clear", "()V"⟩, "MoveOrder$Search", prog_4_method_2_code, 1, none,
  [(0, .aload_n 0, 1), (1, .iconst 0, 1), (2, .putfield 37, 3), (5, .aload_n 0, 1), (6, .iconst 0, 1), (7, .putfield 41, 3), (10, .aload_n 0, 1), (11, .iconst 0, 1), (12, .putfield 44, 3), (15, .return_, 1)],
  [(37, 0, 3, 9), (41, 0, 3, 10), (44, 0, 3, 11)], false, [], 0, 0)
def pm_Sea_add : px_M := (⟨"MoveOrder$Search", "add", "(ILMoveOrder$Box;)V"⟩, "MoveOrder$Search", prog_4_method_3_code, 4, none,
  [(0, .aload_n 0, 1), (1, .getfield 37, 3), (4, .iconst 4, 1), (5, .if_icmp .lt 4, 3), (8, .return_, 1), (9, .aload_n 2, 1), (10, .getfield 56, 3), (13, .iconst 4, 1), (14, .if_icmp .ne 8, 3), (17, .bipush 13, 2), (19, .goto 14, 3), (22, .aload_n 2, 1), (23, .getfield 56, 3), (26, .iconst 4, 1), (27, .imul, 1), (28, .aload_n 2, 1), (29, .getfield 61, 3), (32, .iadd, 1), (33, .istore_n 3, 1), (34, .aload_n 0, 1), (35, .dup, 1), (36, .getfield 44, 3), (39, .iload_n 3, 1), (40, .bipush 15, 2), (42, .iand, 1), (43, .aload_n 0, 1), (44, .getfield 37, 3), (47, .iconst 4, 1), (48, .imul, 1), (49, .ishl, 1), (50, .ior, 1), (51, .putfield 44, 3), (54, .aload_n 0, 1), (55, .dup, 1), (56, .getfield 41, 3), (59, .aload_n 2, 1), (60, .getfield 64, 3), (63, .ifCond .ne 7, 3), (66, .iconst 1, 1), (67, .goto 4, 3), (70, .iconst 0, 1), (71, .aload_n 0, 1), (72, .getfield 37, 3), (75, .ishl, 1), (76, .ior, 1), (77, .putfield 41, 3), (80, .aload_n 0, 1), (81, .getfield 9, 3), (84, .aload_n 0, 1), (85, .getfield 37, 3), (88, .iload_n 1, 1), (89, .iastore, 1), (90, .aload_n 0, 1), (91, .getfield 15, 3), (94, .aload_n 0, 1), (95, .getfield 37, 3), (98, .aload_n 2, 1), (99, .getfield 67, 3), (102, .iastore, 1), (103, .aload_n 0, 1), (104, .dup, 1), (105, .getfield 37, 3), (108, .iconst 1, 1), (109, .iadd, 1), (110, .putfield 37, 3), (113, .return_, 1)],
  [(9, 0, 3, 1), (15, 0, 3, 2), (37, 0, 3, 9), (41, 0, 3, 10), (44, 0, 3, 11), (56, 0, 2, 2), (61, 0, 2, 3), (64, 0, 2, 0), (67, 0, 2, 4)], false, [], 0, 0)
def pm_Sea_isEnd : px_M := (⟨"MoveOrder$Search", "isEnd", "(I)Z"⟩, "MoveOrder$Search", prog_4_method_9_code, 5, (some .boolean),
  [(0, .iconst 0, 1), (1, .istore_n 2, 1), (2, .iload_n 2, 1), (3, .aload_n 0, 1), (4, .getfield 37, 3), (7, .if_icmp .ge 55, 3), (10, .iload_n 1, 1), (11, .iload_n 2, 1), (12, .iconst 4, 1), (13, .imul, 1), (14, .ishr, 1), (15, .bipush 15, 2), (17, .iand, 1), (18, .istore_n 3, 1), (19, .aload_n 0, 1), (20, .getfield 41, 3), (23, .iload_n 2, 1), (24, .ishr, 1), (25, .iconst 1, 1), (26, .iand, 1), (27, .ifCond .eq 7, 3), (30, .iconst 1, 1), (31, .goto 4, 3), (34, .iconst 0, 1), (35, .istore 4, 2), (37, .iload_n 3, 1), (38, .bipush 13, 2), (40, .if_icmp .eq 14, 3), (43, .iload 4, 2), (45, .ifCond .eq 11, 3), (48, .iload_n 3, 1), (49, .bipush 12, 2), (51, .if_icmp .eq 5, 3), (54, .iconst 0, 1), (55, .ireturn, 1), (56, .iinc 2 1, 3), (59, .goto (-57), 3), (62, .iconst 1, 1), (63, .ireturn, 1)],
  [(37, 0, 3, 9), (41, 0, 3, 10)], false, [], 0, 0)
def pm_Sea_reach : px_M := (⟨"MoveOrder$Search", "reach", "(III)V"⟩, "MoveOrder$Search", prog_4_method_8_code, 7, none,
  [(0, .iload_n 1, 1), (1, .bipush 6, 2), (3, .ishr, 1), (4, .sipush 1023, 3), (7, .iand, 1), (8, .istore 4, 2), (10, .lconst 1, 1), (11, .iload_n 1, 1), (12, .bipush 63, 2), (14, .iand, 1), (15, .lshl, 1), (16, .lstore 5, 2), (18, .aload_n 0, 1), (19, .getfield 50, 3), (22, .iconst (-1), 1), (23, .if_icmp .ne 28, 3), (26, .aload_n 0, 1), (27, .getfield 47, 3), (30, .sipush 1240, 3), (33, .if_icmp .ge 18, 3), (36, .aload_n 0, 1), (37, .getfield 33, 3), (40, .iload 4, 2), (42, .laload, 1), (43, .lload 5, 2), (45, .land, 1), (46, .lconst 0, 1), (47, .lcmp, 1), (48, .ifCond .eq 4, 3), (51, .return_, 1), (52, .aload_n 0, 1), (53, .getfield 33, 3), (56, .iload 4, 2), (58, .dup2, 1), (59, .laload, 1), (60, .lload 5, 2), (62, .lor, 1), (63, .lastore, 1), (64, .aload_n 0, 1), (65, .getfield 24, 3), (68, .aload_n 0, 1), (69, .getfield 47, 3), (72, .iload_n 1, 1), (73, .iastore, 1), (74, .aload_n 0, 1), (75, .getfield 27, 3), (78, .aload_n 0, 1), (79, .getfield 47, 3), (82, .iload_n 2, 1), (83, .iastore, 1), (84, .aload_n 0, 1), (85, .getfield 30, 3), (88, .aload_n 0, 1), (89, .getfield 47, 3), (92, .iload_n 3, 1), (93, .iastore, 1), (94, .aload_n 0, 1), (95, .iload_n 1, 1), (96, .invokevirtual 114, 3), (99, .ifCond .eq 11, 3), (102, .aload_n 0, 1), (103, .aload_n 0, 1), (104, .getfield 47, 3), (107, .putfield 50, 3), (110, .aload_n 0, 1), (111, .dup, 1), (112, .getfield 47, 3), (115, .iconst 1, 1), (116, .iadd, 1), (117, .putfield 47, 3), (120, .return_, 1)],
  [(24, 0, 3, 5), (27, 0, 3, 6), (30, 0, 3, 7), (33, 0, 3, 8), (47, 0, 3, 12), (50, 0, 3, 13), (114, 13, 33, 1)], false, [], 1, 24)
def pm_Sea_placeOf : px_M := (⟨"MoveOrder$Search", "placeOf", "(II)I"⟩, "MoveOrder$Search", prog_4_method_14_code, 2, (some .int),
  [(0, .iload_n 0, 1), (1, .iload_n 1, 1), (2, .iconst 4, 1), (3, .imul, 1), (4, .ishr, 1), (5, .bipush 15, 2), (7, .iand, 1), (8, .ireturn, 1)],
  [], false, [], 0, 0)
def pm_Sea_measureStacks : px_M := (⟨"MoveOrder$Search", "measureStacks", "(I)V"⟩, "MoveOrder$Search", prog_4_method_11_code, 6, none,
  [(0, .iconst 0, 1), (1, .istore_n 2, 1), (2, .iload_n 2, 1), (3, .iconst 3, 1), (4, .if_icmp .ge 23, 3), (7, .aload_n 0, 1), (8, .getfield 18, 3), (11, .iload_n 2, 1), (12, .iconst 0, 1), (13, .iastore, 1), (14, .aload_n 0, 1), (15, .getfield 21, 3), (18, .iload_n 2, 1), (19, .iconst (-1), 1), (20, .iastore, 1), (21, .iinc 2 1, 3), (24, .goto (-22), 3), (27, .iconst 0, 1), (28, .istore_n 2, 1), (29, .iload_n 2, 1), (30, .aload_n 0, 1), (31, .getfield 37, 3), (34, .if_icmp .ge 62, 3), (37, .iload_n 1, 1), (38, .iload_n 2, 1), (39, .invokestatic 95, 3), (42, .istore_n 3, 1), (43, .iload_n 3, 1), (44, .iconst 4, 1), (45, .idiv, 1), (46, .istore 4, 2), (48, .iload_n 3, 1), (49, .iconst 4, 1), (50, .irem, 1), (51, .istore 5, 2), (53, .iload 4, 2), (55, .iconst 3, 1), (56, .if_icmp .ge 34, 3), (59, .iload 5, 2), (61, .aload_n 0, 1), (62, .getfield 18, 3), (65, .iload 4, 2), (67, .iaload, 1), (68, .if_icmp .lt 22, 3), (71, .aload_n 0, 1), (72, .getfield 18, 3), (75, .iload 4, 2), (77, .iload 5, 2), (79, .iconst 1, 1), (80, .iadd, 1), (81, .iastore, 1), (82, .aload_n 0, 1), (83, .getfield 21, 3), (86, .iload 4, 2), (88, .iload_n 2, 1), (89, .iastore, 1), (90, .iinc 2 1, 3), (93, .goto (-64), 3), (96, .return_, 1)],
  [(18, 0, 3, 3), (21, 0, 3, 4), (37, 0, 3, 9), (95, 5, 35, 2)], false, [], 1, 21)
def pm_Sea_withPlace : px_M := (⟨"MoveOrder$Search", "withPlace", "(III)I"⟩, "MoveOrder$Search", prog_4_method_15_code, 4, (some .int),
  [(0, .iload_n 1, 1), (1, .iconst 4, 1), (2, .imul, 1), (3, .istore_n 3, 1), (4, .iload_n 0, 1), (5, .bipush 15, 2), (7, .iload_n 3, 1), (8, .ishl, 1), (9, .iconst (-1), 1), (10, .ixor, 1), (11, .iand, 1), (12, .iload_n 2, 1), (13, .iload_n 3, 1), (14, .ishl, 1), (15, .ior, 1), (16, .ireturn, 1)],
  [], false, [], 0, 0)
def pm_Sea_stepOf : px_M := (⟨"MoveOrder$Search", "stepOf", "(III)I"⟩, "MoveOrder$Search", prog_4_method_16_code, 3, (some .int),
  [(0, .iload_n 0, 1), (1, .bipush 6, 2), (3, .ishl, 1), (4, .iload_n 1, 1), (5, .iconst 3, 1), (6, .ishl, 1), (7, .ior, 1), (8, .iload_n 2, 1), (9, .ior, 1), (10, .ireturn, 1)],
  [], false, [], 0, 0)
def pm_Sea_tryStacks : px_M := (⟨"MoveOrder$Search", "tryStacks", "(IIII)V"⟩, "MoveOrder$Search", prog_4_method_7_code, 7, none,
  [(0, .iconst 0, 1), (1, .istore 5, 2), (3, .iload 5, 2), (5, .iconst 3, 1), (6, .if_icmp .ge 64, 3), (9, .iload 5, 2), (11, .iload 4, 2), (13, .if_icmp .eq 51, 3), (16, .aload_n 0, 1), (17, .getfield 18, 3), (20, .iload 5, 2), (22, .iaload, 1), (23, .aload_n 0, 1), (24, .getfield 53, 3), (27, .if_icmp .ge 37, 3), (30, .iload 5, 2), (32, .iconst 4, 1), (33, .imul, 1), (34, .aload_n 0, 1), (35, .getfield 18, 3), (38, .iload 5, 2), (40, .iaload, 1), (41, .iadd, 1), (42, .istore 6, 2), (44, .aload_n 0, 1), (45, .iload_n 2, 1), (46, .iload_n 3, 1), (47, .iload 6, 2), (49, .invokestatic 107, 3), (52, .iload_n 1, 1), (53, .iload_n 3, 1), (54, .iload 4, 2), (56, .iload 5, 2), (58, .invokestatic 111, 3), (61, .invokevirtual 69, 3), (64, .iinc 5 1, 3), (67, .goto (-64), 3), (70, .return_, 1)],
  [(18, 0, 3, 3), (53, 0, 3, 0), (69, 13, 34, 3), (107, 5, 37, 3), (111, 5, 38, 3)], false, [], 2, 50)
def pm_Sea_mayGoOut : px_M := (⟨"MoveOrder$Search", "mayGoOut", "(II)Z"⟩, "MoveOrder$Search", prog_4_method_10_code, 4, (some .boolean),
  [(0, .iload_n 2, 1), (1, .ifCond .lt 22, 3), (4, .iload_n 2, 1), (5, .aload_n 0, 1), (6, .getfield 37, 3), (9, .if_icmp .ge 14, 3), (12, .aload_n 0, 1), (13, .getfield 41, 3), (16, .iload_n 2, 1), (17, .ishr, 1), (18, .iconst 1, 1), (19, .iand, 1), (20, .ifCond .ne 5, 3), (23, .iconst 0, 1), (24, .ireturn, 1), (25, .iconst 0, 1), (26, .istore_n 3, 1), (27, .iload_n 3, 1), (28, .aload_n 0, 1), (29, .getfield 37, 3), (32, .if_icmp .ge 39, 3), (35, .aload_n 0, 1), (36, .getfield 15, 3), (39, .iload_n 2, 1), (40, .iaload, 1), (41, .aload_n 0, 1), (42, .getfield 9, 3), (45, .iload_n 3, 1), (46, .iaload, 1), (47, .ishr, 1), (48, .iconst 1, 1), (49, .iand, 1), (50, .ifCond .eq 15, 3), (53, .iload_n 1, 1), (54, .iload_n 3, 1), (55, .invokestatic 95, 3), (58, .bipush 12, 2), (60, .if_icmp .eq 5, 3), (63, .iconst 0, 1), (64, .ireturn, 1), (65, .iinc 3 1, 3), (68, .goto (-41), 3), (71, .iconst 1, 1), (72, .ireturn, 1)],
  [(9, 0, 3, 1), (15, 0, 3, 2), (37, 0, 3, 9), (41, 0, 3, 10), (95, 5, 35, 2)], false, [], 1, 21)
def pm_Sea_tryTop : px_M := (⟨"MoveOrder$Search", "tryTop", "(III)V"⟩, "MoveOrder$Search", prog_4_method_6_code, 5, none,
  [(0, .aload_n 0, 1), (1, .getfield 21, 3), (4, .iload_n 3, 1), (5, .iaload, 1), (6, .istore 4, 2), (8, .aload_n 0, 1), (9, .iload_n 1, 1), (10, .iload_n 2, 1), (11, .iload 4, 2), (13, .iload_n 3, 1), (14, .invokevirtual 99, 3), (17, .aload_n 0, 1), (18, .iload_n 2, 1), (19, .iload 4, 2), (21, .invokevirtual 103, 3), (24, .ifCond .eq 23, 3), (27, .aload_n 0, 1), (28, .iload_n 2, 1), (29, .iload 4, 2), (31, .bipush 12, 2), (33, .invokestatic 107, 3), (36, .iload_n 1, 1), (37, .iload 4, 2), (39, .iload_n 3, 1), (40, .iconst 3, 1), (41, .invokestatic 111, 3), (44, .invokevirtual 69, 3), (47, .aload_n 0, 1), (48, .iload_n 2, 1), (49, .iload 4, 2), (51, .bipush 13, 2), (53, .invokestatic 107, 3), (56, .iload_n 1, 1), (57, .iload 4, 2), (59, .iload_n 3, 1), (60, .iconst 4, 1), (61, .invokestatic 111, 3), (64, .invokevirtual 69, 3), (67, .return_, 1)],
  [(21, 0, 3, 4), (69, 13, 34, 3), (99, 13, 39, 4), (103, 13, 40, 2), (107, 5, 37, 3), (111, 5, 38, 3)], false, [], 3, 76)
def pm_Sea_tryMoves : px_M := (⟨"MoveOrder$Search", "tryMoves", "(I)V"⟩, "MoveOrder$Search", prog_4_method_5_code, 5, none,
  [(0, .aload_n 0, 1), (1, .getfield 24, 3), (4, .iload_n 1, 1), (5, .iaload, 1), (6, .istore_n 2, 1), (7, .aload_n 0, 1), (8, .iload_n 2, 1), (9, .invokevirtual 89, 3), (12, .iconst 0, 1), (13, .istore_n 3, 1), (14, .iload_n 3, 1), (15, .iconst 3, 1), (16, .if_icmp .ge 26, 3), (19, .aload_n 0, 1), (20, .getfield 21, 3), (23, .iload_n 3, 1), (24, .iaload, 1), (25, .iconst (-1), 1), (26, .if_icmp .eq 10, 3), (29, .aload_n 0, 1), (30, .iload_n 1, 1), (31, .iload_n 2, 1), (32, .iload_n 3, 1), (33, .invokevirtual 92, 3), (36, .iinc 3 1, 3), (39, .goto (-25), 3), (42, .iconst 3, 1), (43, .istore_n 3, 1), (44, .iconst 0, 1), (45, .istore 4, 2), (47, .iload 4, 2), (49, .aload_n 0, 1), (50, .getfield 37, 3), (53, .if_icmp .ge 32, 3), (56, .iload_n 2, 1), (57, .iload 4, 2), (59, .invokestatic 95, 3), (62, .bipush 13, 2), (64, .if_icmp .ne 15, 3), (67, .aload_n 0, 1), (68, .iload_n 1, 1), (69, .iload_n 2, 1), (70, .iload 4, 2), (72, .iload_n 3, 1), (73, .invokevirtual 99, 3), (76, .iinc 3 1, 3), (79, .iinc 4 1, 3), (82, .goto (-35), 3), (85, .return_, 1)],
  [(21, 0, 3, 4), (24, 0, 3, 5), (37, 0, 3, 9), (89, 13, 36, 1), (92, 13, 41, 3), (95, 5, 35, 2), (99, 13, 39, 4)], false, [], 4, 100)
def pm_Bay_startPlan : px_M := (⟨"MoveOrder$Bay", "startPlan", "(I)V"⟩, "MoveOrder$Bay", prog_2_method_3_code, 2, none,
  [(0, .aload_n 0, 1), (1, .invokevirtual 35, 3), (4, .aload_n 0, 1), (5, .iconst 1, 1), (6, .putfield 21, 3), (9, .aload_n 0, 1), (10, .iload_n 1, 1), (11, .putfield 25, 3), (14, .return_, 1)],
  [(21, 0, 1, 3), (25, 0, 1, 4), (35, 11, 8, 0)], false, [], 1, 20)
def pm_Bay_setMove : px_M := (⟨"MoveOrder$Bay", "setMove", "(IIII)V"⟩, "MoveOrder$Bay", prog_2_method_4_code, 5, none,
  [(0, .aload_n 0, 1), (1, .iload_n 1, 1), (2, .invokevirtual 38, 3), (5, .ifCond .eq 25, 3), (8, .aload_n 0, 1), (9, .getfield 9, 3), (12, .iload_n 1, 1), (13, .iload_n 2, 1), (14, .iastore, 1), (15, .aload_n 0, 1), (16, .getfield 15, 3), (19, .iload_n 1, 1), (20, .iload_n 3, 1), (21, .iastore, 1), (22, .aload_n 0, 1), (23, .getfield 18, 3), (26, .iload_n 1, 1), (27, .iload 4, 2), (29, .iastore, 1), (30, .return_, 1)],
  [(9, 0, 1, 0), (15, 0, 1, 1), (18, 0, 1, 2), (38, 11, 20, 1)], false, [], 1, 21)
def pm_Sea_tellPlan : px_M := (⟨"MoveOrder$Search", "tellPlan", "(LMoveOrder$Bay;)V"⟩, "MoveOrder$Search", prog_4_method_12_code, 6, none,
  [(0, .iconst 0, 1), (1, .istore_n 2, 1), (2, .aload_n 0, 1), (3, .getfield 50, 3), (6, .istore_n 3, 1), (7, .iload_n 3, 1), (8, .ifCond .le 29, 3), (11, .iload_n 3, 1), (12, .sipush 1240, 3), (15, .if_icmp .ge 22, 3), (18, .iload_n 2, 1), (19, .bipush 12, 2), (21, .if_icmp .ge 16, 3), (24, .iinc 2 1, 3), (27, .aload_n 0, 1), (28, .getfield 27, 3), (31, .iload_n 3, 1), (32, .iaload, 1), (33, .istore_n 3, 1), (34, .goto (-27), 3), (37, .aload_n 1, 1), (38, .iload_n 2, 1), (39, .invokevirtual 118, 3), (42, .aload_n 0, 1), (43, .getfield 50, 3), (46, .istore_n 3, 1), (47, .iload_n 2, 1), (48, .iconst 1, 1), (49, .isub, 1), (50, .istore 4, 2), (52, .iload 4, 2), (54, .ifCond .lt 65, 3), (57, .iload_n 3, 1), (58, .ifCond .le 61, 3), (61, .iload_n 3, 1), (62, .sipush 1240, 3), (65, .if_icmp .ge 54, 3), (68, .aload_n 0, 1), (69, .getfield 30, 3), (72, .iload_n 3, 1), (73, .iaload, 1), (74, .istore 5, 2), (76, .aload_n 1, 1), (77, .iload 4, 2), (79, .aload_n 0, 1), (80, .getfield 9, 3), (83, .iload 5, 2), (85, .bipush 6, 2), (87, .ishr, 1), (88, .iconst 3, 1), (89, .iand, 1), (90, .iaload, 1), (91, .iload 5, 2), (93, .iconst 3, 1), (94, .ishr, 1), (95, .bipush 7, 2), (97, .iand, 1), (98, .iload 5, 2), (100, .bipush 7, 2), (102, .iand, 1), (103, .invokevirtual 121, 3), (106, .aload_n 0, 1), (107, .getfield 27, 3), (110, .iload_n 3, 1), (111, .iaload, 1), (112, .istore_n 3, 1), (113, .iinc 4 (-1), 3), (116, .goto (-64), 3), (119, .return_, 1)],
  [(9, 0, 3, 1), (27, 0, 3, 6), (30, 0, 3, 7), (50, 0, 3, 13), (118, 11, 43, 1), (121, 11, 44, 4)], false, [], 2, 45)
def pm_Sea_forgetSeen : px_M := (⟨"MoveOrder$Search", "forgetSeen", "()V"⟩, "MoveOrder$Search", prog_4_method_13_code, 2, none,
  [(0, .iconst 0, 1), (1, .istore_n 1, 1), (2, .iload_n 1, 1), (3, .aload_n 0, 1), (4, .getfield 47, 3), (7, .if_icmp .ge 28, 3), (10, .aload_n 0, 1), (11, .getfield 33, 3), (14, .aload_n 0, 1), (15, .getfield 24, 3), (18, .iload_n 1, 1), (19, .iaload, 1), (20, .bipush 6, 2), (22, .ishr, 1), (23, .sipush 1023, 3), (26, .iand, 1), (27, .lconst 0, 1), (28, .lastore, 1), (29, .iinc 1 1, 3), (32, .goto (-30), 3), (35, .return_, 1)],
  [(24, 0, 3, 5), (33, 0, 3, 8), (47, 0, 3, 12)], false, [], 0, 0)
def pm_Sea_findPlan : px_M := (⟨"MoveOrder$Search", "findPlan", "(LMoveOrder$Bay;)V"⟩, "MoveOrder$Search", prog_4_method_4_code, 3, none,
  [(0, .aload_n 0, 1), (1, .iconst 0, 1), (2, .putfield 47, 3), (5, .aload_n 0, 1), (6, .iconst (-1), 1), (7, .putfield 50, 3), (10, .aload_n 0, 1), (11, .aload_n 0, 1), (12, .getfield 44, 3), (15, .iconst (-1), 1), (16, .iconst 0, 1), (17, .invokevirtual 69, 3), (20, .iconst 0, 1), (21, .istore_n 2, 1), (22, .iload_n 2, 1), (23, .sipush 1240, 3), (26, .if_icmp .ge 30, 3), (29, .iload_n 2, 1), (30, .aload_n 0, 1), (31, .getfield 47, 3), (34, .if_icmp .ge 22, 3), (37, .aload_n 0, 1), (38, .getfield 50, 3), (41, .iconst (-1), 1), (42, .if_icmp .ne 14, 3), (45, .aload_n 0, 1), (46, .iload_n 2, 1), (47, .invokevirtual 73, 3), (50, .iinc 2 1, 3), (53, .goto (-31), 3), (56, .aload_n 0, 1), (57, .getfield 50, 3), (60, .iconst (-1), 1), (61, .if_icmp .ne 10, 3), (64, .aload_n 1, 1), (65, .invokevirtual 77, 3), (68, .goto 8, 3), (71, .aload_n 0, 1), (72, .aload_n 1, 1), (73, .invokevirtual 82, 3), (76, .aload_n 0, 1), (77, .invokevirtual 86, 3), (80, .return_, 1)],
  [(44, 0, 3, 11), (47, 0, 3, 12), (50, 0, 3, 13), (69, 13, 34, 3), (73, 13, 42, 1), (77, 11, 8, 0), (82, 13, 45, 1), (86, 13, 46, 0)], false, [], 5, 124)
def pm_Mo_plan : px_M := (⟨"MoveOrder", "plan", "(I)I"⟩, "MoveOrder", prog_1_method_4_code, 5, (some .int),
  [(0, .aload_n 0, 1), (1, .iload_n 1, 1), (2, .invokevirtual 53, 3), (5, .astore_n 2, 1), (6, .aload_n 2, 1), (7, .ifnonnull 13, 3), (10, .new 57, 3), (13, .dup, 1), (14, .ldc 107, 2), (16, .invokespecial 61, 3), (19, .athrow, 1), (20, .aload_n 0, 1), (21, .getfield 49, 3), (24, .invokevirtual 109, 3), (27, .iconst 0, 1), (28, .istore_n 3, 1), (29, .iload_n 3, 1), (30, .aload_n 0, 1), (31, .getfield 15, 3), (34, .if_icmp .ge 40, 3), (37, .aload_n 0, 1), (38, .iload_n 3, 1), (39, .invokevirtual 82, 3), (42, .astore 4, 2), (44, .aload 4, 2), (46, .ifnull 22, 3), (49, .aload 4, 2), (51, .iload_n 1, 1), (52, .invokevirtual 112, 3), (55, .ifCond .eq 13, 3), (58, .aload_n 0, 1), (59, .getfield 49, 3), (62, .iload_n 3, 1), (63, .aload 4, 2), (65, .invokevirtual 115, 3), (68, .iinc 3 1, 3), (71, .goto (-42), 3), (74, .aload_n 0, 1), (75, .getfield 49, 3), (78, .aload_n 2, 1), (79, .invokevirtual 119, 3), (82, .aload_n 2, 1), (83, .getfield 123, 3), (86, .ifCond .eq 10, 3), (89, .aload_n 2, 1), (90, .getfield 127, 3), (93, .goto 4, 3), (96, .iconst (-1), 1), (97, .ireturn, 1)],
  [(15, 0, 0, 4), (49, 0, 0, 3), (53, 10, 3, 1), (57, 8, 1, 61), (82, 10, 4, 1), (109, 13, 31, 0), (112, 12, 12, 1), (115, 13, 32, 2), (119, 13, 47, 1), (123, 0, 1, 3), (127, 0, 1, 4)], false, [], 6, 146)
def pm_Box_changePlaces : px_M := (⟨"MoveOrder$Box", "changePlaces", "(LMoveOrder$Box;)V"⟩, "MoveOrder$Box", prog_3_method_7_code, 5, none,
  [(0, .aload_n 0, 1), (1, .getfield 18, 3), (4, .istore_n 2, 1), (5, .aload_n 0, 1), (6, .getfield 21, 3), (9, .istore_n 3, 1), (10, .aload_n 0, 1), (11, .getfield 24, 3), (14, .istore 4, 2), (16, .aload_n 0, 1), (17, .aload_n 1, 1), (18, .getfield 18, 3), (21, .putfield 18, 3), (24, .aload_n 0, 1), (25, .aload_n 1, 1), (26, .getfield 21, 3), (29, .putfield 21, 3), (32, .aload_n 0, 1), (33, .aload_n 1, 1), (34, .getfield 24, 3), (37, .putfield 24, 3), (40, .aload_n 1, 1), (41, .iload_n 2, 1), (42, .putfield 18, 3), (45, .aload_n 1, 1), (46, .iload_n 3, 1), (47, .putfield 21, 3), (50, .aload_n 1, 1), (51, .iload 4, 2), (53, .putfield 24, 3), (56, .return_, 1)],
  [(18, 0, 2, 1), (21, 0, 2, 2), (24, 0, 2, 3)], false, [], 0, 0)
def pm_Mo_swap : px_M := (⟨"MoveOrder", "swap", "(II)I"⟩, "MoveOrder", prog_1_method_10_code, 5, (some .int),
  [(0, .aload_n 0, 1), (1, .iload_n 1, 1), (2, .invokevirtual 82, 3), (5, .astore_n 3, 1), (6, .aload_n 0, 1), (7, .iload_n 2, 1), (8, .invokevirtual 82, 3), (11, .astore 4, 2), (13, .aload_n 3, 1), (14, .ifnull 8, 3), (17, .aload 4, 2), (19, .ifnonnull 13, 3), (22, .new 57, 3), (25, .dup, 1), (26, .ldc 180, 2), (28, .invokespecial 61, 3), (31, .athrow, 1), (32, .iload_n 1, 1), (33, .iload_n 2, 1), (34, .if_icmp .eq 30, 3), (37, .aload_n 3, 1), (38, .getfield 166, 3), (41, .aload 4, 2), (43, .getfield 166, 3), (46, .if_icmp .ne 18, 3), (49, .aload_n 3, 1), (50, .invokevirtual 182, 3), (53, .ifCond .eq 11, 3), (56, .aload 4, 2), (58, .invokevirtual 182, 3), (61, .ifCond .ne 5, 3), (64, .iconst 0, 1), (65, .ireturn, 1), (66, .aload_n 0, 1), (67, .iload_n 1, 1), (68, .aload_n 3, 1), (69, .invokevirtual 185, 3), (72, .ifCond .ne 13, 3), (75, .aload_n 0, 1), (76, .iload_n 2, 1), (77, .aload 4, 2), (79, .invokevirtual 185, 3), (82, .ifCond .eq 5, 3), (85, .iconst 0, 1), (86, .ireturn, 1), (87, .aload_n 0, 1), (88, .aload_n 3, 1), (89, .getfield 86, 3), (92, .invokevirtual 104, 3), (95, .aload_n 0, 1), (96, .aload 4, 2), (98, .getfield 86, 3), (101, .invokevirtual 104, 3), (104, .aload_n 3, 1), (105, .aload 4, 2), (107, .invokevirtual 188, 3), (110, .iconst 1, 1), (111, .ireturn, 1)],
  [(57, 8, 1, 61), (82, 10, 4, 1), (86, 0, 2, 1), (104, 10, 9, 1), (166, 0, 2, 0), (182, 12, 24, 0), (185, 10, 23, 2), (188, 12, 49, 1)], false, [], 6, 82)
def pm_Mo_work : px_M := (⟨"MoveOrder", "work", "(I)I"⟩, "MoveOrder", prog_1_method_6_code, 6, (some .int),
  [(0, .aload_n 0, 1), (1, .iload_n 1, 1), (2, .invokevirtual 53, 3), (5, .astore_n 2, 1), (6, .aload_n 2, 1), (7, .ifnonnull 13, 3), (10, .new 57, 3), (13, .dup, 1), (14, .ldc 107, 2), (16, .invokespecial 61, 3), (19, .athrow, 1), (20, .aload_n 2, 1), (21, .getfield 148, 3), (24, .istore_n 3, 1), (25, .aload_n 2, 1), (26, .iload_n 3, 1), (27, .invokevirtual 130, 3), (30, .ifCond .eq 16, 3), (33, .aload_n 0, 1), (34, .aload_n 2, 1), (35, .getfield 138, 3), (38, .iload_n 3, 1), (39, .iaload, 1), (40, .invokevirtual 82, 3), (43, .goto 4, 3), (46, .aconst_null, 1), (47, .astore 4, 2), (49, .aload 4, 2), (51, .ifnonnull 13, 3), (54, .new 71, 3), (57, .dup, 1), (58, .ldc 151, 2), (60, .invokespecial 75, 3), (63, .athrow, 1), (64, .aload_n 2, 1), (65, .getfield 145, 3), (68, .iload_n 3, 1), (69, .iaload, 1), (70, .istore 5, 2), (72, .aload 4, 2), (74, .iload 5, 2), (76, .iconst 3, 1), (77, .if_icmp .ge 13, 3), (80, .aload_n 0, 1), (81, .iload_n 1, 1), (82, .iload 5, 2), (84, .invokevirtual 64, 3), (87, .goto 4, 3), (90, .iconst (-1), 1), (91, .putfield 153, 3), (94, .aload 4, 2), (96, .iload 5, 2), (98, .putfield 156, 3), (101, .aload_n 2, 1), (102, .dup, 1), (103, .getfield 148, 3), (106, .iconst 1, 1), (107, .iadd, 1), (108, .putfield 148, 3), (111, .aload_n 0, 1), (112, .dup, 1), (113, .getfield 19, 3), (116, .iconst 1, 1), (117, .iadd, 1), (118, .putfield 19, 3), (121, .iload 5, 2), (123, .iconst 3, 1), (124, .if_icmp .ne 30, 3), (127, .aload_n 2, 1), (128, .getfield 159, 3), (131, .ifCond .le 23, 3), (134, .aload_n 2, 1), (135, .dup, 1), (136, .getfield 159, 3), (139, .iconst 1, 1), (140, .isub, 1), (141, .putfield 159, 3), (144, .aload_n 0, 1), (145, .dup, 1), (146, .getfield 22, 3), (149, .iconst 1, 1), (150, .iadd, 1), (151, .putfield 22, 3), (154, .aload_n 2, 1), (155, .invokevirtual 162, 3), (158, .ireturn, 1)],
  [(19, 0, 0, 5), (22, 0, 0, 6), (53, 10, 3, 1), (57, 8, 1, 61), (64, 10, 11, 2), (71, 8, 2, 75), (82, 10, 4, 1), (130, 11, 20, 1), (138, 0, 1, 0), (145, 0, 1, 2), (148, 0, 1, 5), (153, 0, 2, 3), (156, 0, 2, 2), (159, 0, 1, 6), (162, 11, 17, 0)], false, [], 6, 82)
def pm_Law_box : px_M := (⟨"MoveOrderLaw", "box", "(LMoveOrder;III[J)I"⟩, "MoveOrderLaw", method_3_code, 6, (some .int),
  [(0, .aload 4, 2), (2, .iconst 0, 1), (3, .aload_n 0, 1), (4, .iload_n 1, 1), (5, .iload_n 2, 1), (6, .iload_n 3, 1), (7, .invokevirtual 7, 3), (10, .i2l, 1), (11, .lastore, 1), (12, .goto 11, 3), (15, .astore 5, 2), (17, .iconst 1, 1), (18, .ireturn, 1), (19, .astore 5, 2), (21, .iconst 2, 1), (22, .ireturn, 1), (23, .iconst 0, 1), (24, .ireturn, 1)],
  [(7, 20, 15, 3), (13, 31, 0, 0), (15, 32, 0, 0)], false, [(0, 12, 15, 13), (0, 12, 19, 15)], 7, 108)
def pm_Law_cell : px_M := (⟨"MoveOrderLaw", "cell", "([II)I"⟩, "MoveOrderLaw", method_2_code, 2, (some .int),
  [(0, .iload_n 1, 1), (1, .aload_n 0, 1), (2, .arraylength, 1), (3, .if_icmp .ge 9, 3), (6, .aload_n 0, 1), (7, .iload_n 1, 1), (8, .iaload, 1), (9, .goto 4, 3), (12, .iconst 0, 1), (13, .ireturn, 1)],
  [], true, [], 0, 0)
def pm_Law_dual : px_M := (⟨"MoveOrderLaw", "dual", "(LMoveOrder;I[J)I"⟩, "MoveOrderLaw", method_9_code, 4, (some .int),
  [(0, .aload_n 2, 1), (1, .iconst 0, 1), (2, .aload_n 0, 1), (3, .iload_n 1, 1), (4, .invokevirtual 36, 3), (7, .i2l, 1), (8, .lastore, 1), (9, .goto 6, 3), (12, .astore_n 3, 1), (13, .iconst 1, 1), (14, .ireturn, 1), (15, .iconst 0, 1), (16, .ireturn, 1)],
  [(36, 20, 22, 1), (13, 31, 0, 0)], false, [(0, 9, 12, 13)], 7, 104)
def pm_Ref_init : px_M := (⟨"MoveOrderModel", "<init>", "(II)V"⟩, "MoveOrderModel", prog_6_method_1_code, 3, none,
  [(0, .aload_n 0, 1), (1, .invokespecial 1, 3), (4, .aload_n 0, 1), (5, .bipush 16, 2), (7, .newarray .int, 2), (9, .putfield 7, 3), (12, .aload_n 0, 1), (13, .bipush 16, 2), (15, .newarray .int, 2), (17, .putfield 13, 3), (20, .aload_n 0, 1), (21, .bipush 16, 2), (23, .newarray .int, 2), (25, .putfield 16, 3), (28, .aload_n 0, 1), (29, .bipush 16, 2), (31, .newarray .int, 2), (33, .putfield 19, 3), (36, .aload_n 0, 1), (37, .sipush 256, 3), (40, .newarray .boolean, 2), (42, .putfield 22, 3), (45, .aload_n 0, 1), (46, .iconst 4, 1), (47, .newarray .int, 2), (49, .putfield 26, 3), (52, .aload_n 0, 1), (53, .iconst 4, 1), (54, .newarray .boolean, 2), (56, .putfield 29, 3), (59, .aload_n 0, 1), (60, .iconst 4, 1), (61, .newarray .int, 2), (63, .putfield 32, 3), (66, .aload_n 0, 1), (67, .iconst 4, 1), (68, .newarray .int, 2), (70, .putfield 35, 3), (73, .aload_n 0, 1), (74, .sipush 160, 3), (77, .newarray .int, 2), (79, .putfield 38, 3), (82, .aload_n 0, 1), (83, .sipush 160, 3), (86, .newarray .int, 2), (88, .putfield 41, 3), (91, .aload_n 0, 1), (92, .sipush 160, 3), (95, .newarray .int, 2), (97, .putfield 44, 3), (100, .aload_n 0, 1), (101, .sipush 2048, 3), (104, .newarray .long, 2), (106, .putfield 47, 3), (109, .aload_n 0, 1), (110, .sipush 2048, 3), (113, .newarray .int, 2), (115, .putfield 51, 3), (118, .aload_n 0, 1), (119, .sipush 2048, 3), (122, .newarray .int, 2), (124, .putfield 54, 3), (127, .aload_n 0, 1), (128, .sipush 4096, 3), (131, .newarray .int, 2), (133, .putfield 57, 3), (136, .aload_n 0, 1), (137, .iconst 4, 1), (138, .newarray .int, 2), (140, .putfield 60, 3), (143, .aload_n 0, 1), (144, .iload_n 1, 1), (145, .iconst 1, 1), (146, .if_icmp .ge 7, 3), (149, .iconst 1, 1), (150, .goto 13, 3), (153, .iload_n 1, 1), (154, .iconst 4, 1), (155, .if_icmp .le 7, 3), (158, .iconst 4, 1), (159, .goto 4, 3), (162, .iload_n 1, 1), (163, .putfield 63, 3), (166, .aload_n 0, 1), (167, .iload_n 2, 1), (168, .iconst 1, 1), (169, .if_icmp .ge 7, 3), (172, .iconst 1, 1), (173, .goto 13, 3), (176, .iload_n 2, 1), (177, .iconst 4, 1), (178, .if_icmp .le 7, 3), (181, .iconst 4, 1), (182, .goto 4, 3), (185, .iload_n 2, 1), (186, .putfield 67, 3), (189, .return_, 1)],
  [(1, 6, 0, 0), (7, 0, 4, 4), (13, 0, 4, 5), (16, 0, 4, 6), (19, 0, 4, 7), (22, 0, 4, 8), (26, 0, 4, 9), (29, 0, 4, 12), (32, 0, 4, 13), (35, 0, 4, 14), (38, 0, 4, 15), (41, 0, 4, 16), (44, 0, 4, 17), (47, 0, 4, 18), (51, 0, 4, 19), (54, 0, 4, 20), (57, 0, 4, 22), (60, 0, 4, 23), (63, 0, 4, 1), (67, 0, 4, 2)], false, [], 1, 20)
def pm_Ref_isBay : px_M := (⟨"MoveOrderModel", "isBay", "(I)Z"⟩, "MoveOrderModel", prog_6_method_5_code, 2, (some .boolean),
  [(0, .iload_n 1, 1), (1, .ifCond .lt 15, 3), (4, .iload_n 1, 1), (5, .aload_n 0, 1), (6, .getfield 63, 3), (9, .if_icmp .ge 7, 3), (12, .iconst 1, 1), (13, .goto 4, 3), (16, .iconst 0, 1), (17, .ireturn, 1)],
  [(63, 0, 4, 1)], false, [], 0, 0)
def pm_Ref_in : px_M := (⟨"MoveOrderModel", "in", "(III)Z"⟩, "MoveOrderModel", prog_6_method_4_code, 3, (some .boolean),
  [(0, .iload_n 0, 1), (1, .iload_n 1, 1), (2, .if_icmp .lt 12, 3), (5, .iload_n 0, 1), (6, .iload_n 2, 1), (7, .if_icmp .gt 7, 3), (10, .iconst 1, 1), (11, .goto 4, 3), (14, .iconst 0, 1), (15, .ireturn, 1)],
  [], false, [], 0, 0)
def pm_Ref_refuse : px_M := (⟨"MoveOrderModel", "refuse", "(I)I"⟩, "MoveOrderModel", prog_6_method_3_code, 2, (some .int),
  [(0, .aload_n 0, 1), (1, .iload_n 1, 1), (2, .putfield 70, 3), (5, .iconst 0, 1), (6, .ireturn, 1)],
  [(70, 0, 4, 0)], false, [], 0, 0)
def pm_Ref_there : px_M := (⟨"MoveOrderModel", "there", "(I)I"⟩, "MoveOrderModel", prog_6_method_8_code, 4, (some .int),
  [(0, .iconst 0, 1), (1, .istore_n 2, 1), (2, .iconst 0, 1), (3, .istore_n 3, 1), (4, .iload_n 3, 1), (5, .aload_n 0, 1), (6, .getfield 73, 3), (9, .if_icmp .ge 37, 3), (12, .iload_n 2, 1), (13, .aload_n 0, 1), (14, .getfield 13, 3), (17, .iload_n 3, 1), (18, .iaload, 1), (19, .iload_n 1, 1), (20, .if_icmp .ne 17, 3), (23, .aload_n 0, 1), (24, .getfield 16, 3), (27, .iload_n 3, 1), (28, .iaload, 1), (29, .iconst 3, 1), (30, .if_icmp .eq 7, 3), (33, .iconst 1, 1), (34, .goto 4, 3), (37, .iconst 0, 1), (38, .iadd, 1), (39, .istore_n 2, 1), (40, .iinc 3 1, 3), (43, .goto (-39), 3), (46, .iload_n 2, 1), (47, .ireturn, 1)],
  [(13, 0, 4, 5), (16, 0, 4, 6), (73, 0, 4, 3)], false, [], 0, 0)
def pm_Ref_height : px_M := (⟨"MoveOrderModel", "height", "(II)I"⟩, "MoveOrderModel", prog_6_method_7_code, 5, (some .int),
  [(0, .iconst 0, 1), (1, .istore_n 3, 1), (2, .iconst 0, 1), (3, .istore 4, 2), (5, .iload 4, 2), (7, .aload_n 0, 1), (8, .getfield 73, 3), (11, .if_icmp .ge 39, 3), (14, .iload_n 3, 1), (15, .aload_n 0, 1), (16, .getfield 13, 3), (19, .iload 4, 2), (21, .iaload, 1), (22, .iload_n 1, 1), (23, .if_icmp .ne 18, 3), (26, .aload_n 0, 1), (27, .getfield 16, 3), (30, .iload 4, 2), (32, .iaload, 1), (33, .iload_n 2, 1), (34, .if_icmp .ne 7, 3), (37, .iconst 1, 1), (38, .goto 4, 3), (41, .iconst 0, 1), (42, .iadd, 1), (43, .istore_n 3, 1), (44, .iinc 4 1, 3), (47, .goto (-42), 3), (50, .iload_n 3, 1), (51, .ireturn, 1)],
  [(13, 0, 4, 5), (16, 0, 4, 6), (73, 0, 4, 3)], false, [], 0, 0)
def pm_Ref_voids : px_M := (⟨"MoveOrderModel", "voids", "(I)V"⟩, "MoveOrderModel", prog_6_method_9_code, 2, none,
  [(0, .aload_n 0, 1), (1, .getfield 29, 3), (4, .iload_n 1, 1), (5, .iconst 0, 1), (6, .bastore, 1), (7, .return_, 1)],
  [(29, 0, 4, 12)], false, [], 0, 0)
def pm_Ref_box : px_M := (⟨"MoveOrderModel", "box", "(III)I"⟩, "MoveOrderModel", prog_6_method_10_code, 4, (some .int),
  [(0, .aload_n 0, 1), (1, .iload_n 1, 1), (2, .invokevirtual 76, 3), (5, .ifCond .eq 21, 3), (8, .iload_n 2, 1), (9, .iconst 0, 1), (10, .iconst 2, 1), (11, .invokestatic 80, 3), (14, .ifCond .eq 12, 3), (17, .iload_n 3, 1), (18, .iconst 0, 1), (19, .iconst 5, 1), (20, .invokestatic 80, 3), (23, .ifCond .ne 9, 3), (26, .aload_n 0, 1), (27, .iconst 1, 1), (28, .invokevirtual 84, 3), (31, .ireturn, 1), (32, .aload_n 0, 1), (33, .getfield 73, 3), (36, .bipush 16, 2), (38, .if_icmp .eq 25, 3), (41, .aload_n 0, 1), (42, .iload_n 1, 1), (43, .invokevirtual 88, 3), (46, .iconst 4, 1), (47, .if_icmp .eq 16, 3), (50, .aload_n 0, 1), (51, .iload_n 1, 1), (52, .iload_n 2, 1), (53, .invokevirtual 91, 3), (56, .aload_n 0, 1), (57, .getfield 67, 3), (60, .if_icmp .ne 9, 3), (63, .aload_n 0, 1), (64, .iconst 2, 1), (65, .invokevirtual 84, 3), (68, .ireturn, 1), (69, .aload_n 0, 1), (70, .iconst 0, 1), (71, .putfield 70, 3), (74, .aload_n 0, 1), (75, .getfield 7, 3), (78, .aload_n 0, 1), (79, .getfield 73, 3), (82, .iload_n 3, 1), (83, .iastore, 1), (84, .aload_n 0, 1), (85, .getfield 13, 3), (88, .aload_n 0, 1), (89, .getfield 73, 3), (92, .iload_n 1, 1), (93, .iastore, 1), (94, .aload_n 0, 1), (95, .getfield 19, 3), (98, .aload_n 0, 1), (99, .getfield 73, 3), (102, .aload_n 0, 1), (103, .iload_n 1, 1), (104, .iload_n 2, 1), (105, .invokevirtual 91, 3), (108, .iastore, 1), (109, .aload_n 0, 1), (110, .getfield 16, 3), (113, .aload_n 0, 1), (114, .getfield 73, 3), (117, .iload_n 2, 1), (118, .iastore, 1), (119, .aload_n 0, 1), (120, .dup, 1), (121, .getfield 73, 3), (124, .iconst 1, 1), (125, .iadd, 1), (126, .putfield 73, 3), (129, .aload_n 0, 1), (130, .iload_n 1, 1), (131, .invokevirtual 95, 3), (134, .aload_n 0, 1), (135, .getfield 73, 3), (138, .iconst 1, 1), (139, .isub, 1), (140, .ireturn, 1)],
  [(7, 0, 4, 4), (13, 0, 4, 5), (16, 0, 4, 6), (19, 0, 4, 7), (67, 0, 4, 2), (70, 0, 4, 0), (73, 0, 4, 3), (76, 14, 56, 1), (80, 5, 57, 3), (84, 14, 58, 1), (88, 14, 59, 1), (91, 14, 60, 2), (95, 14, 61, 1)], false, [], 1, 24)
def pm_Ref_thrown : px_M := (⟨"MoveOrderModel", "thrown", "()I"⟩, "MoveOrderModel", prog_6_method_2_code, 1, (some .int),
  [(0, .aload_n 0, 1), (1, .getfield 70, 3), (4, .ireturn, 1)],
  [(70, 0, 4, 0)], false, [], 0, 0)
def pm_Ref_isBox : px_M := (⟨"MoveOrderModel", "isBox", "(I)Z"⟩, "MoveOrderModel", prog_6_method_6_code, 2, (some .boolean),
  [(0, .iload_n 1, 1), (1, .ifCond .lt 15, 3), (4, .iload_n 1, 1), (5, .aload_n 0, 1), (6, .getfield 73, 3), (9, .if_icmp .ge 7, 3), (12, .iconst 1, 1), (13, .goto 4, 3), (16, .iconst 0, 1), (17, .ireturn, 1)],
  [(73, 0, 4, 3)], false, [], 0, 0)
def pm_Ref_leads : px_M := (⟨"MoveOrderModel", "leads", "(II)Z"⟩, "MoveOrderModel", prog_6_method_11_code, 6, (some .boolean),
  [(0, .iconst 1, 1), (1, .iload_n 1, 1), (2, .ishl, 1), (3, .istore_n 3, 1), (4, .iconst 0, 1), (5, .istore 4, 2), (7, .iload 4, 2), (9, .bipush 16, 2), (11, .if_icmp .ge 63, 3), (14, .iconst 0, 1), (15, .istore 5, 2), (17, .iload 5, 2), (19, .sipush 256, 3), (22, .if_icmp .ge 46, 3), (25, .iload_n 3, 1), (26, .aload_n 0, 1), (27, .getfield 22, 3), (30, .iload 5, 2), (32, .baload, 1), (33, .ifCond .eq 26, 3), (36, .iload_n 3, 1), (37, .iload 5, 2), (39, .bipush 16, 2), (41, .idiv, 1), (42, .ishr, 1), (43, .iconst 1, 1), (44, .iand, 1), (45, .iconst 1, 1), (46, .if_icmp .ne 13, 3), (49, .iconst 1, 1), (50, .iload 5, 2), (52, .bipush 16, 2), (54, .irem, 1), (55, .ishl, 1), (56, .goto 4, 3), (59, .iconst 0, 1), (60, .ior, 1), (61, .istore_n 3, 1), (62, .iinc 5 1, 3), (65, .goto (-48), 3), (68, .iinc 4 1, 3), (71, .goto (-64), 3), (74, .iload_n 3, 1), (75, .iload_n 2, 1), (76, .ishr, 1), (77, .iconst 1, 1), (78, .iand, 1), (79, .iconst 1, 1), (80, .if_icmp .ne 7, 3), (83, .iconst 1, 1), (84, .goto 4, 3), (87, .iconst 0, 1), (88, .ireturn, 1)],
  [(22, 0, 4, 8)], false, [], 0, 0)
def pm_Ref_before : px_M := (⟨"MoveOrderModel", "before", "(II)Z"⟩, "MoveOrderModel", prog_6_method_12_code, 3, (some .boolean),
  [(0, .aload_n 0, 1), (1, .iconst 0, 1), (2, .putfield 70, 3), (5, .aload_n 0, 1), (6, .iload_n 1, 1), (7, .invokevirtual 99, 3), (10, .ifCond .eq 87, 3), (13, .aload_n 0, 1), (14, .iload_n 2, 1), (15, .invokevirtual 99, 3), (18, .ifCond .eq 79, 3), (21, .aload_n 0, 1), (22, .getfield 13, 3), (25, .iload_n 1, 1), (26, .iaload, 1), (27, .aload_n 0, 1), (28, .getfield 13, 3), (31, .iload_n 2, 1), (32, .iaload, 1), (33, .if_icmp .ne 64, 3), (36, .aload_n 0, 1), (37, .getfield 16, 3), (40, .iload_n 1, 1), (41, .iaload, 1), (42, .iconst 3, 1), (43, .if_icmp .eq 54, 3), (46, .aload_n 0, 1), (47, .getfield 16, 3), (50, .iload_n 2, 1), (51, .iaload, 1), (52, .iconst 3, 1), (53, .if_icmp .eq 44, 3), (56, .aload_n 0, 1), (57, .getfield 7, 3), (60, .iload_n 1, 1), (61, .iaload, 1), (62, .ifCond .ne 35, 3), (65, .aload_n 0, 1), (66, .getfield 7, 3), (69, .iload_n 2, 1), (70, .iaload, 1), (71, .ifCond .ne 26, 3), (74, .aload_n 0, 1), (75, .getfield 22, 3), (78, .bipush 16, 2), (80, .iload_n 1, 1), (81, .imul, 1), (82, .iload_n 2, 1), (83, .iadd, 1), (84, .baload, 1), (85, .ifCond .ne 12, 3), (88, .aload_n 0, 1), (89, .iload_n 2, 1), (90, .iload_n 1, 1), (91, .invokevirtual 102, 3), (94, .ifCond .eq 5, 3), (97, .iconst 0, 1), (98, .ireturn, 1), (99, .aload_n 0, 1), (100, .getfield 22, 3), (103, .bipush 16, 2), (105, .iload_n 1, 1), (106, .imul, 1), (107, .iload_n 2, 1), (108, .iadd, 1), (109, .iconst 1, 1), (110, .bastore, 1), (111, .aload_n 0, 1), (112, .aload_n 0, 1), (113, .getfield 13, 3), (116, .iload_n 1, 1), (117, .iaload, 1), (118, .invokevirtual 95, 3), (121, .iconst 1, 1), (122, .ireturn, 1)],
  [(7, 0, 4, 4), (13, 0, 4, 5), (16, 0, 4, 6), (22, 0, 4, 8), (70, 0, 4, 0), (95, 14, 61, 1), (99, 14, 64, 1), (102, 14, 65, 2)], false, [], 1, 25)
def pm_Law_plan : px_M := (⟨"MoveOrderLaw", "plan", "(LMoveOrder;I[J)I"⟩, "MoveOrderLaw", method_4_code, 4, (some .int),
  [(0, .aload_n 2, 1), (1, .iconst 0, 1), (2, .aload_n 0, 1), (3, .iload_n 1, 1), (4, .invokevirtual 17, 3), (7, .i2l, 1), (8, .lastore, 1), (9, .goto 6, 3), (12, .astore_n 3, 1), (13, .iconst 1, 1), (14, .ireturn, 1), (15, .iconst 0, 1), (16, .ireturn, 1)],
  [(17, 20, 48, 1), (13, 31, 0, 0)], false, [(0, 9, 12, 13)], 7, 170)
def pm_Ref_begins : px_M := (⟨"MoveOrderModel", "begins", "(I)J"⟩, "MoveOrderModel", prog_6_method_17_code, 6, (some .long),
  [(0, .aload_n 0, 1), (1, .iconst 0, 1), (2, .putfield 112, 3), (5, .lconst 0, 1), (6, .lstore_n 2, 1), (7, .iconst 0, 1), (8, .istore 4, 2), (10, .iload 4, 2), (12, .aload_n 0, 1), (13, .getfield 73, 3), (16, .if_icmp .ge 105, 3), (19, .aload_n 0, 1), (20, .getfield 13, 3), (23, .iload 4, 2), (25, .iaload, 1), (26, .iload_n 1, 1), (27, .if_icmp .ne 88, 3), (30, .aload_n 0, 1), (31, .getfield 16, 3), (34, .iload 4, 2), (36, .iaload, 1), (37, .iconst 3, 1), (38, .if_icmp .eq 77, 3), (41, .aload_n 0, 1), (42, .getfield 112, 3), (45, .istore 5, 2), (47, .aload_n 0, 1), (48, .getfield 60, 3), (51, .iload 5, 2), (53, .iload 4, 2), (55, .iastore, 1), (56, .aload_n 0, 1), (57, .dup, 1), (58, .getfield 112, 3), (61, .iconst 1, 1), (62, .iadd, 1), (63, .putfield 112, 3), (66, .lload_n 2, 1), (67, .aload_n 0, 1), (68, .getfield 16, 3), (71, .iload 4, 2), (73, .iaload, 1), (74, .iconst 4, 1), (75, .if_icmp .ne 13, 3), (78, .lconst 1, 1), (79, .bipush 36, 2), (81, .iload 5, 2), (83, .iadd, 1), (84, .lshl, 1), (85, .goto 28, 3), (88, .iload 5, 2), (90, .iconst 1, 1), (91, .iadd, 1), (92, .i2l, 1), (93, .iconst 3, 1), (94, .iconst 4, 1), (95, .aload_n 0, 1), (96, .getfield 16, 3), (99, .iload 4, 2), (101, .iaload, 1), (102, .imul, 1), (103, .aload_n 0, 1), (104, .getfield 19, 3), (107, .iload 4, 2), (109, .iaload, 1), (110, .iadd, 1), (111, .imul, 1), (112, .lshl, 1), (113, .lor, 1), (114, .lstore_n 2, 1), (115, .iinc 4 1, 3), (118, .goto (-108), 3), (121, .lload_n 2, 1), (122, .lreturn, 1)],
  [(13, 0, 4, 5), (16, 0, 4, 6), (19, 0, 4, 7), (60, 0, 4, 23), (73, 0, 4, 3), (112, 0, 4, 24)], false, [], 0, 0)
def pm_Ref_comes : px_M := (⟨"MoveOrderModel", "comes", "(JII)V"⟩, "MoveOrderModel", prog_6_method_22_code, 6, none,
  [(0, .lload_n 1, 1), (1, .ldc2_w 134, 3), (4, .lmul, 1), (5, .bipush 40, 2), (7, .lushr, 1), (8, .ldc2_w 136, 3), (11, .land, 1), (12, .l2i, 1), (13, .istore 5, 2), (15, .aload_n 0, 1), (16, .getfield 57, 3), (19, .iload 5, 2), (21, .iaload, 1), (22, .ifCond .le 36, 3), (25, .aload_n 0, 1), (26, .getfield 47, 3), (29, .aload_n 0, 1), (30, .getfield 57, 3), (33, .iload 5, 2), (35, .iaload, 1), (36, .iconst 1, 1), (37, .isub, 1), (38, .laload, 1), (39, .lload_n 1, 1), (40, .lcmp, 1), (41, .ifCond .ne 4, 3), (44, .return_, 1), (45, .iload 5, 2), (47, .iconst 1, 1), (48, .iadd, 1), (49, .sipush 4095, 3), (52, .iand, 1), (53, .istore 5, 2), (55, .goto (-40), 3), (58, .aload_n 0, 1), (59, .getfield 47, 3), (62, .aload_n 0, 1), (63, .getfield 138, 3), (66, .lload_n 1, 1), (67, .lastore, 1), (68, .aload_n 0, 1), (69, .getfield 51, 3), (72, .aload_n 0, 1), (73, .getfield 138, 3), (76, .iload_n 3, 1), (77, .iastore, 1), (78, .aload_n 0, 1), (79, .getfield 54, 3), (82, .aload_n 0, 1), (83, .getfield 138, 3), (86, .iload 4, 2), (88, .iastore, 1), (89, .aload_n 0, 1), (90, .dup, 1), (91, .getfield 138, 3), (94, .iconst 1, 1), (95, .iadd, 1), (96, .putfield 138, 3), (99, .aload_n 0, 1), (100, .getfield 57, 3), (103, .iload 5, 2), (105, .aload_n 0, 1), (106, .getfield 138, 3), (109, .iastore, 1), (110, .return_, 1)],
  [(47, 0, 4, 18), (51, 0, 4, 19), (54, 0, 4, 20), (57, 0, 4, 22), (134, 9, 0, (-7046029254386353131)), (136, 9, 0, 4095), (138, 0, 4, 21)], false, [], 0, 0)
def pm_Ref_isAside : px_M := (⟨"MoveOrderModel", "isAside", "(JI)Z"⟩, "MoveOrderModel", prog_6_method_15_code, 3, (some .boolean),
  [(0, .lload_n 0, 1), (1, .bipush 36, 2), (3, .iload_n 2, 1), (4, .iadd, 1), (5, .lshr, 1), (6, .lconst 1, 1), (7, .land, 1), (8, .lconst 1, 1), (9, .lcmp, 1), (10, .ifCond .ne 7, 3), (13, .iconst 1, 1), (14, .goto 4, 3), (17, .iconst 0, 1), (18, .ireturn, 1)],
  [], false, [], 0, 0)
def pm_Ref_isOut : px_M := (⟨"MoveOrderModel", "isOut", "(JI)Z"⟩, "MoveOrderModel", prog_6_method_16_code, 3, (some .boolean),
  [(0, .lload_n 0, 1), (1, .bipush 40, 2), (3, .iload_n 2, 1), (4, .iadd, 1), (5, .lshr, 1), (6, .lconst 1, 1), (7, .land, 1), (8, .lconst 1, 1), (9, .lcmp, 1), (10, .ifCond .ne 7, 3), (13, .iconst 1, 1), (14, .goto 4, 3), (17, .iconst 0, 1), (18, .ireturn, 1)],
  [], false, [], 0, 0)
def pm_Ref_isEnd : px_M := (⟨"MoveOrderModel", "isEnd", "(J)Z"⟩, "MoveOrderModel", prog_6_method_21_code, 5, (some .boolean),
  [(0, .iconst 1, 1), (1, .istore_n 3, 1), (2, .iconst 0, 1), (3, .istore 4, 2), (5, .iload 4, 2), (7, .aload_n 0, 1), (8, .getfield 112, 3), (11, .if_icmp .ge 52, 3), (14, .iload_n 3, 1), (15, .ifCond .eq 40, 3), (18, .lload_n 1, 1), (19, .iload 4, 2), (21, .invokestatic 123, 3), (24, .ifCond .ne 31, 3), (27, .aload_n 0, 1), (28, .getfield 7, 3), (31, .aload_n 0, 1), (32, .getfield 60, 3), (35, .iload 4, 2), (37, .iaload, 1), (38, .iaload, 1), (39, .ifCond .ne 12, 3), (42, .lload_n 1, 1), (43, .iload 4, 2), (45, .invokestatic 115, 3), (48, .ifCond .eq 7, 3), (51, .iconst 1, 1), (52, .goto 4, 3), (55, .iconst 0, 1), (56, .istore_n 3, 1), (57, .iinc 4 1, 3), (60, .goto (-55), 3), (63, .iload_n 3, 1), (64, .ireturn, 1)],
  [(7, 0, 4, 4), (60, 0, 4, 23), (112, 0, 4, 24), (115, 5, 71, 2), (123, 5, 70, 2)], false, [], 1, 22)
def pm_Ref_at : px_M := (⟨"MoveOrderModel", "at", "(JII)I"⟩, "MoveOrderModel", prog_6_method_13_code, 5, (some .int),
  [(0, .lload_n 1, 1), (1, .iconst 3, 1), (2, .iconst 4, 1), (3, .iload_n 3, 1), (4, .imul, 1), (5, .iload 4, 2), (7, .iadd, 1), (8, .imul, 1), (9, .lshr, 1), (10, .ldc2_w 106, 3), (13, .land, 1), (14, .l2i, 1), (15, .iconst 1, 1), (16, .isub, 1), (17, .ireturn, 1)],
  [(106, 9, 0, 7)], false, [], 0, 0)
def pm_Ref_top : px_M := (⟨"MoveOrderModel", "top", "(JI)I"⟩, "MoveOrderModel", prog_6_method_14_code, 5, (some .int),
  [(0, .iconst 0, 1), (1, .istore 4, 2), (3, .iload 4, 2), (5, .aload_n 0, 1), (6, .getfield 67, 3), (9, .if_icmp .ge 20, 3), (12, .aload_n 0, 1), (13, .lload_n 1, 1), (14, .iload_n 3, 1), (15, .iload 4, 2), (17, .invokevirtual 108, 3), (20, .ifCond .lt 9, 3), (23, .iinc 4 1, 3), (26, .goto (-23), 3), (29, .iload 4, 2), (31, .ireturn, 1)],
  [(67, 0, 4, 2), (108, 14, 73, 3)], false, [], 1, 24)
def pm_Ref_taken : px_M := (⟨"MoveOrderModel", "taken", "(JI)I"⟩, "MoveOrderModel", prog_6_method_19_code, 6, (some .int),
  [(0, .iload_n 3, 1), (1, .iconst 3, 1), (2, .if_icmp .ge 31, 3), (5, .aload_n 0, 1), (6, .lload_n 1, 1), (7, .iload_n 3, 1), (8, .invokevirtual 119, 3), (11, .ifCond .ne 7, 3), (14, .iconst (-1), 1), (15, .goto 17, 3), (18, .aload_n 0, 1), (19, .lload_n 1, 1), (20, .iload_n 3, 1), (21, .aload_n 0, 1), (22, .lload_n 1, 1), (23, .iload_n 3, 1), (24, .invokevirtual 119, 3), (27, .iconst 1, 1), (28, .isub, 1), (29, .invokevirtual 108, 3), (32, .ireturn, 1), (33, .iload_n 3, 1), (34, .iconst 3, 1), (35, .isub, 1), (36, .istore 4, 2), (38, .iconst 0, 1), (39, .istore 5, 2), (41, .iload 5, 2), (43, .aload_n 0, 1), (44, .getfield 112, 3), (47, .if_icmp .ge 45, 3), (50, .lload_n 1, 1), (51, .iload 5, 2), (53, .invokestatic 123, 3), (56, .ifCond .eq 11, 3), (59, .iload 4, 2), (61, .ifCond .ne 6, 3), (64, .iload 5, 2), (66, .ireturn, 1), (67, .iload 4, 2), (69, .lload_n 1, 1), (70, .iload 5, 2), (72, .invokestatic 123, 3), (75, .ifCond .eq 7, 3), (78, .iconst 1, 1), (79, .goto 4, 3), (82, .iconst 0, 1), (83, .isub, 1), (84, .istore 4, 2), (86, .iinc 5 1, 3), (89, .goto (-48), 3), (92, .iconst (-1), 1), (93, .ireturn, 1)],
  [(108, 14, 73, 3), (112, 0, 4, 24), (119, 14, 74, 2), (123, 5, 70, 2)], false, [], 2, 48)
def pm_Ref_mayLeave : px_M := (⟨"MoveOrderModel", "mayLeave", "(JI)Z"⟩, "MoveOrderModel", prog_6_method_18_code, 8, (some .boolean),
  [(0, .aload_n 0, 1), (1, .getfield 7, 3), (4, .aload_n 0, 1), (5, .getfield 60, 3), (8, .iload_n 3, 1), (9, .iaload, 1), (10, .iaload, 1), (11, .ifCond .ne 7, 3), (14, .iconst 1, 1), (15, .goto 4, 3), (18, .iconst 0, 1), (19, .istore 4, 2), (21, .iconst 0, 1), (22, .istore 5, 2), (24, .iload 5, 2), (26, .aload_n 0, 1), (27, .getfield 73, 3), (30, .if_icmp .ge 115, 3), (33, .aload_n 0, 1), (34, .getfield 16, 3), (37, .iload 5, 2), (39, .iaload, 1), (40, .iconst 3, 1), (41, .if_icmp .ne 7, 3), (44, .iconst 1, 1), (45, .goto 4, 3), (48, .iconst 0, 1), (49, .istore 6, 2), (51, .iconst 0, 1), (52, .istore 7, 2), (54, .iload 7, 2), (56, .aload_n 0, 1), (57, .getfield 112, 3), (60, .if_icmp .ge 42, 3), (63, .iload 6, 2), (65, .ifCond .ne 24, 3), (68, .aload_n 0, 1), (69, .getfield 60, 3), (72, .iload 7, 2), (74, .iaload, 1), (75, .iload 5, 2), (77, .if_icmp .ne 16, 3), (80, .lload_n 1, 1), (81, .iload 7, 2), (83, .invokestatic 115, 3), (86, .ifCond .eq 7, 3), (89, .iconst 1, 1), (90, .goto 4, 3), (93, .iconst 0, 1), (94, .istore 6, 2), (96, .iinc 7 1, 3), (99, .goto (-45), 3), (102, .iload 4, 2), (104, .ifCond .eq 32, 3), (107, .aload_n 0, 1), (108, .getfield 22, 3), (111, .bipush 16, 2), (113, .iload 5, 2), (115, .imul, 1), (116, .aload_n 0, 1), (117, .getfield 60, 3), (120, .iload_n 3, 1), (121, .iaload, 1), (122, .iadd, 1), (123, .baload, 1), (124, .ifCond .eq 8, 3), (127, .iload 6, 2), (129, .ifCond .eq 7, 3), (132, .iconst 1, 1), (133, .goto 4, 3), (136, .iconst 0, 1), (137, .istore 4, 2), (139, .iinc 5 1, 3), (142, .goto (-118), 3), (145, .iload 4, 2), (147, .ireturn, 1)],
  [(7, 0, 4, 4), (16, 0, 4, 6), (22, 0, 4, 8), (60, 0, 4, 23), (73, 0, 4, 3), (112, 0, 4, 24), (115, 5, 71, 2)], false, [], 1, 22)
def pm_Ref_moved : px_M := (⟨"MoveOrderModel", "moved", "(JII)J"⟩, "MoveOrderModel", prog_6_method_20_code, 8, (some .long),
  [(0, .aload_n 0, 1), (1, .lload_n 1, 1), (2, .iload_n 3, 1), (3, .invokevirtual 126, 3), (6, .istore 5, 2), (8, .iload 5, 2), (10, .ifCond .lt 66, 3), (13, .iload_n 3, 1), (14, .iload 4, 2), (16, .if_icmp .eq 60, 3), (19, .iload_n 3, 1), (20, .iconst 2, 1), (21, .if_icmp .le 9, 3), (24, .iload 4, 2), (26, .iconst 2, 1), (27, .if_icmp .gt 49, 3), (30, .iload 4, 2), (32, .iconst 3, 1), (33, .if_icmp .ge 27, 3), (36, .aload_n 0, 1), (37, .lload_n 1, 1), (38, .iload 4, 2), (40, .iconst 3, 1), (41, .if_icmp .ge 8, 3), (44, .iload 4, 2), (46, .goto 4, 3), (49, .iconst 0, 1), (50, .invokevirtual 119, 3), (53, .aload_n 0, 1), (54, .getfield 67, 3), (57, .if_icmp .eq 19, 3), (60, .iload 4, 2), (62, .iconst 3, 1), (63, .if_icmp .ne 17, 3), (66, .aload_n 0, 1), (67, .lload_n 1, 1), (68, .iload 5, 2), (70, .invokevirtual 129, 3), (73, .ifCond .ne 7, 3), (76, .ldc2_w 132, 3), (79, .lreturn, 1), (80, .iload_n 3, 1), (81, .iconst 2, 1), (82, .if_icmp .le 19, 3), (85, .lload_n 1, 1), (86, .lconst 1, 1), (87, .bipush 36, 2), (89, .iload 5, 2), (91, .iadd, 1), (92, .lshl, 1), (93, .ldc2_w 132, 3), (96, .lxor, 1), (97, .land, 1), (98, .goto 27, 3), (101, .lload_n 1, 1), (102, .ldc2_w 106, 3), (105, .iconst 3, 1), (106, .iconst 4, 1), (107, .iload_n 3, 1), (108, .imul, 1), (109, .aload_n 0, 1), (110, .lload_n 1, 1), (111, .iload_n 3, 1), (112, .invokevirtual 119, 3), (115, .iadd, 1), (116, .iconst 1, 1), (117, .isub, 1), (118, .imul, 1), (119, .lshl, 1), (120, .ldc2_w 132, 3), (123, .lxor, 1), (124, .land, 1), (125, .lstore 6, 2), (127, .iload 4, 2), (129, .iconst 4, 1), (130, .if_icmp .ne 16, 3), (133, .lload 6, 2), (135, .lconst 1, 1), (136, .bipush 36, 2), (138, .iload 5, 2), (140, .iadd, 1), (141, .lshl, 1), (142, .lor, 1), (143, .goto 45, 3), (146, .iload 4, 2), (148, .iconst 3, 1), (149, .if_icmp .ne 16, 3), (152, .lload 6, 2), (154, .lconst 1, 1), (155, .bipush 40, 2), (157, .iload 5, 2), (159, .iadd, 1), (160, .lshl, 1), (161, .lor, 1), (162, .goto 26, 3), (165, .lload 6, 2), (167, .iload 5, 2), (169, .iconst 1, 1), (170, .iadd, 1), (171, .i2l, 1), (172, .iconst 3, 1), (173, .iconst 4, 1), (174, .iload 4, 2), (176, .imul, 1), (177, .aload_n 0, 1), (178, .lload_n 1, 1), (179, .iload 4, 2), (181, .invokevirtual 119, 3), (184, .iadd, 1), (185, .imul, 1), (186, .lshl, 1), (187, .lor, 1), (188, .lreturn, 1)],
  [(67, 0, 4, 2), (106, 9, 0, 7), (119, 14, 74, 2), (126, 14, 75, 2), (129, 14, 76, 2), (132, 9, 0, (-1))], false, [], 3, 73)
def pm_Ref_search : px_M := (⟨"MoveOrderModel", "search", "(I)I"⟩, "MoveOrderModel", prog_6_method_23_code, 7, (some .int),
  [(0, .iconst 0, 1), (1, .istore_n 2, 1), (2, .iload_n 2, 1), (3, .sipush 4096, 3), (6, .if_icmp .ge 16, 3), (9, .aload_n 0, 1), (10, .getfield 57, 3), (13, .iload_n 2, 1), (14, .iconst 0, 1), (15, .iastore, 1), (16, .iinc 2 1, 3), (19, .goto (-17), 3), (22, .aload_n 0, 1), (23, .iconst 0, 1), (24, .putfield 138, 3), (27, .aload_n 0, 1), (28, .aload_n 0, 1), (29, .iload_n 1, 1), (30, .invokevirtual 141, 3), (33, .iconst (-1), 1), (34, .iconst 0, 1), (35, .invokevirtual 145, 3), (38, .iconst 0, 1), (39, .istore_n 2, 1), (40, .iload_n 2, 1), (41, .aload_n 0, 1), (42, .getfield 138, 3), (45, .if_icmp .ge 101, 3), (48, .aload_n 0, 1), (49, .getfield 138, 3), (52, .sipush 2008, 3), (55, .if_icmp .ge 91, 3), (58, .aload_n 0, 1), (59, .aload_n 0, 1), (60, .getfield 47, 3), (63, .iload_n 2, 1), (64, .laload, 1), (65, .invokevirtual 149, 3), (68, .ifCond .eq 5, 3), (71, .iload_n 2, 1), (72, .ireturn, 1), (73, .iconst 0, 1), (74, .istore_n 3, 1), (75, .iload_n 3, 1), (76, .bipush 7, 2), (78, .if_icmp .ge 62, 3), (81, .iconst 0, 1), (82, .istore 4, 2), (84, .iload 4, 2), (86, .iconst 5, 1), (87, .if_icmp .ge 47, 3), (90, .aload_n 0, 1), (91, .aload_n 0, 1), (92, .getfield 47, 3), (95, .iload_n 2, 1), (96, .laload, 1), (97, .iload_n 3, 1), (98, .iload 4, 2), (100, .invokevirtual 153, 3), (103, .lstore 5, 2), (105, .lload 5, 2), (107, .ldc2_w 132, 3), (110, .lcmp, 1), (111, .ifCond .eq 17, 3), (114, .aload_n 0, 1), (115, .lload 5, 2), (117, .iload_n 2, 1), (118, .bipush 8, 2), (120, .iload_n 3, 1), (121, .imul, 1), (122, .iload 4, 2), (124, .iadd, 1), (125, .invokevirtual 145, 3), (128, .iinc 4 1, 3), (131, .goto (-47), 3), (134, .iinc 3 1, 3), (137, .goto (-62), 3), (140, .iinc 2 1, 3), (143, .goto (-103), 3), (146, .iconst (-1), 1), (147, .ireturn, 1)],
  [(47, 0, 4, 18), (57, 0, 4, 22), (132, 9, 0, (-1)), (138, 0, 4, 21), (141, 14, 68, 1), (145, 14, 69, 3), (149, 14, 72, 1), (153, 14, 77, 3)], false, [], 4, 100)
def pm_Ref_plan : px_M := (⟨"MoveOrderModel", "plan", "(I)I"⟩, "MoveOrderModel", prog_6_method_24_code, 6, (some .int),
  [(0, .aload_n 0, 1), (1, .iload_n 1, 1), (2, .invokevirtual 76, 3), (5, .ifCond .ne 9, 3), (8, .aload_n 0, 1), (9, .iconst 1, 1), (10, .invokevirtual 84, 3), (13, .ireturn, 1), (14, .aload_n 0, 1), (15, .iconst 0, 1), (16, .putfield 70, 3), (19, .aload_n 0, 1), (20, .iload_n 1, 1), (21, .invokevirtual 157, 3), (24, .istore_n 2, 1), (25, .aload_n 0, 1), (26, .getfield 29, 3), (29, .iload_n 1, 1), (30, .iload_n 2, 1), (31, .ifCond .lt 7, 3), (34, .iconst 1, 1), (35, .goto 4, 3), (38, .iconst 0, 1), (39, .bastore, 1), (40, .iload_n 2, 1), (41, .ifCond .ge 5, 3), (44, .iconst (-1), 1), (45, .ireturn, 1), (46, .iconst 0, 1), (47, .istore_n 3, 1), (48, .iload_n 2, 1), (49, .istore 4, 2), (51, .aload_n 0, 1), (52, .getfield 51, 3), (55, .iload 4, 2), (57, .iaload, 1), (58, .ifCond .lt 18, 3), (61, .iinc 3 1, 3), (64, .aload_n 0, 1), (65, .getfield 51, 3), (68, .iload 4, 2), (70, .iaload, 1), (71, .istore 4, 2), (73, .goto (-22), 3), (76, .aload_n 0, 1), (77, .getfield 32, 3), (80, .iload_n 1, 1), (81, .iload_n 3, 1), (82, .iastore, 1), (83, .aload_n 0, 1), (84, .getfield 35, 3), (87, .iload_n 1, 1), (88, .iconst 0, 1), (89, .iastore, 1), (90, .bipush 40, 2), (92, .iload_n 1, 1), (93, .imul, 1), (94, .iload_n 3, 1), (95, .iadd, 1), (96, .istore 4, 2), (98, .iload_n 2, 1), (99, .istore 5, 2), (101, .aload_n 0, 1), (102, .getfield 51, 3), (105, .iload 5, 2), (107, .iaload, 1), (108, .ifCond .lt 90, 3), (111, .iinc 4 (-1), 3), (114, .aload_n 0, 1), (115, .getfield 41, 3), (118, .iload 4, 2), (120, .aload_n 0, 1), (121, .getfield 54, 3), (124, .iload 5, 2), (126, .iaload, 1), (127, .bipush 8, 2), (129, .idiv, 1), (130, .iastore, 1), (131, .aload_n 0, 1), (132, .getfield 44, 3), (135, .iload 4, 2), (137, .aload_n 0, 1), (138, .getfield 54, 3), (141, .iload 5, 2), (143, .iaload, 1), (144, .bipush 8, 2), (146, .irem, 1), (147, .iastore, 1), (148, .aload_n 0, 1), (149, .getfield 38, 3), (152, .iload 4, 2), (154, .aload_n 0, 1), (155, .getfield 60, 3), (158, .aload_n 0, 1), (159, .aload_n 0, 1), (160, .getfield 47, 3), (163, .aload_n 0, 1), (164, .getfield 51, 3), (167, .iload 5, 2), (169, .iaload, 1), (170, .laload, 1), (171, .aload_n 0, 1), (172, .getfield 54, 3), (175, .iload 5, 2), (177, .iaload, 1), (178, .bipush 8, 2), (180, .idiv, 1), (181, .invokevirtual 126, 3), (184, .iaload, 1), (185, .iastore, 1), (186, .aload_n 0, 1), (187, .getfield 51, 3), (190, .iload 5, 2), (192, .iaload, 1), (193, .istore 5, 2), (195, .goto (-94), 3), (198, .iload_n 3, 1), (199, .ireturn, 1)],
  [(29, 0, 4, 12), (32, 0, 4, 13), (35, 0, 4, 14), (38, 0, 4, 15), (41, 0, 4, 16), (44, 0, 4, 17), (47, 0, 4, 18), (51, 0, 4, 19), (54, 0, 4, 20), (60, 0, 4, 23), (70, 0, 4, 0), (76, 14, 56, 1), (84, 14, 58, 1), (126, 14, 75, 2), (157, 14, 78, 1)], false, [], 5, 126)
def pm_Law_move : px_M := (⟨"MoveOrderLaw", "move", "(LMoveOrder;III[J)I"⟩, "MoveOrderLaw", method_5_code, 6, (some .int),
  [(0, .aload 4, 2), (2, .iconst 0, 1), (3, .aload_n 0, 1), (4, .iload_n 1, 1), (5, .iload_n 2, 1), (6, .iload_n 3, 1), (7, .invokevirtual 21, 3), (10, .i2l, 1), (11, .lastore, 1), (12, .goto 7, 3), (15, .astore 5, 2), (17, .iconst 1, 1), (18, .ireturn, 1), (19, .iconst 0, 1), (20, .ireturn, 1)],
  [(21, 20, 30, 3), (24, 33, 0, 0)], false, [(0, 12, 15, 24)], 7, 106)
def pm_Ref_move : px_M := (⟨"MoveOrderModel", "move", "(III)I"⟩, "MoveOrderModel", prog_6_method_25_code, 5, (some .int),
  [(0, .aload_n 0, 1), (1, .iload_n 1, 1), (2, .invokevirtual 76, 3), (5, .ifCond .eq 47, 3), (8, .aload_n 0, 1), (9, .getfield 29, 3), (12, .aload_n 0, 1), (13, .iload_n 1, 1), (14, .invokevirtual 76, 3), (17, .ifCond .eq 7, 3), (20, .iload_n 1, 1), (21, .goto 4, 3), (24, .iconst 0, 1), (25, .baload, 1), (26, .ifCond .eq 26, 3), (29, .iload_n 2, 1), (30, .ifCond .lt 22, 3), (33, .iload_n 2, 1), (34, .aload_n 0, 1), (35, .getfield 32, 3), (38, .iload_n 1, 1), (39, .iaload, 1), (40, .if_icmp .ge 12, 3), (43, .iload_n 3, 1), (44, .iconst 0, 1), (45, .iconst 3, 1), (46, .invokestatic 80, 3), (49, .ifCond .ne 9, 3), (52, .aload_n 0, 1), (53, .iconst 1, 1), (54, .invokevirtual 84, 3), (57, .ireturn, 1), (58, .aload_n 0, 1), (59, .iconst 0, 1), (60, .putfield 70, 3), (63, .bipush 40, 2), (65, .iload_n 1, 1), (66, .imul, 1), (67, .iload_n 2, 1), (68, .iadd, 1), (69, .istore 4, 2), (71, .iload_n 3, 1), (72, .ifCond .ne 13, 3), (75, .aload_n 0, 1), (76, .getfield 38, 3), (79, .iload 4, 2), (81, .iaload, 1), (82, .goto 48, 3), (85, .iload_n 3, 1), (86, .iconst 1, 1), (87, .if_icmp .ne 13, 3), (90, .aload_n 0, 1), (91, .getfield 41, 3), (94, .iload 4, 2), (96, .iaload, 1), (97, .goto 33, 3), (100, .iload_n 3, 1), (101, .iconst 2, 1), (102, .if_icmp .ne 13, 3), (105, .aload_n 0, 1), (106, .getfield 44, 3), (109, .iload 4, 2), (111, .iaload, 1), (112, .goto 18, 3), (115, .iload_n 2, 1), (116, .aload_n 0, 1), (117, .getfield 35, 3), (120, .iload_n 1, 1), (121, .iaload, 1), (122, .if_icmp .ge 7, 3), (125, .iconst 1, 1), (126, .goto 4, 3), (129, .iconst 0, 1), (130, .ireturn, 1)],
  [(29, 0, 4, 12), (32, 0, 4, 13), (35, 0, 4, 14), (38, 0, 4, 15), (41, 0, 4, 16), (44, 0, 4, 17), (70, 0, 4, 0), (76, 14, 56, 1), (80, 5, 57, 3), (84, 14, 58, 1)], false, [], 1, 22)
def pm_Law_work : px_M := (⟨"MoveOrderLaw", "work", "(LMoveOrder;I[J)I"⟩, "MoveOrderLaw", method_6_code, 4, (some .int),
  [(0, .aload_n 2, 1), (1, .iconst 0, 1), (2, .aload_n 0, 1), (3, .iload_n 1, 1), (4, .invokevirtual 26, 3), (7, .i2l, 1), (8, .lastore, 1), (9, .goto 9, 3), (12, .astore_n 3, 1), (13, .iconst 1, 1), (14, .ireturn, 1), (15, .astore_n 3, 1), (16, .iconst 2, 1), (17, .ireturn, 1), (18, .iconst 0, 1), (19, .ireturn, 1)],
  [(26, 20, 51, 1), (13, 31, 0, 0), (15, 32, 0, 0)], false, [(0, 9, 12, 13), (0, 9, 15, 15)], 7, 107)
def pm_Ref_work : px_M := (⟨"MoveOrderModel", "work", "(I)I"⟩, "MoveOrderModel", prog_6_method_26_code, 5, (some .int),
  [(0, .aload_n 0, 1), (1, .iload_n 1, 1), (2, .invokevirtual 76, 3), (5, .ifCond .ne 9, 3), (8, .aload_n 0, 1), (9, .iconst 1, 1), (10, .invokevirtual 84, 3), (13, .ireturn, 1), (14, .aload_n 0, 1), (15, .getfield 29, 3), (18, .iload_n 1, 1), (19, .baload, 1), (20, .ifCond .eq 18, 3), (23, .aload_n 0, 1), (24, .getfield 35, 3), (27, .iload_n 1, 1), (28, .iaload, 1), (29, .aload_n 0, 1), (30, .getfield 32, 3), (33, .iload_n 1, 1), (34, .iaload, 1), (35, .if_icmp .ne 9, 3), (38, .aload_n 0, 1), (39, .iconst 2, 1), (40, .invokevirtual 84, 3), (43, .ireturn, 1), (44, .aload_n 0, 1), (45, .iconst 0, 1), (46, .putfield 70, 3), (49, .bipush 40, 2), (51, .iload_n 1, 1), (52, .imul, 1), (53, .aload_n 0, 1), (54, .getfield 35, 3), (57, .iload_n 1, 1), (58, .iaload, 1), (59, .iadd, 1), (60, .istore_n 2, 1), (61, .aload_n 0, 1), (62, .getfield 38, 3), (65, .iload_n 2, 1), (66, .iaload, 1), (67, .istore_n 3, 1), (68, .aload_n 0, 1), (69, .getfield 44, 3), (72, .iload_n 2, 1), (73, .iaload, 1), (74, .istore 4, 2), (76, .aload_n 0, 1), (77, .getfield 19, 3), (80, .iload_n 3, 1), (81, .iload 4, 2), (83, .iconst 3, 1), (84, .if_icmp .ge 13, 3), (87, .aload_n 0, 1), (88, .iload_n 1, 1), (89, .iload 4, 2), (91, .invokevirtual 91, 3), (94, .goto 4, 3), (97, .iconst (-1), 1), (98, .iastore, 1), (99, .aload_n 0, 1), (100, .getfield 16, 3), (103, .iload_n 3, 1), (104, .iload 4, 2), (106, .iastore, 1), (107, .iload 4, 2), (109, .iconst 3, 1), (110, .if_icmp .ne 32, 3), (113, .aload_n 0, 1), (114, .getfield 26, 3), (117, .iload_n 1, 1), (118, .iaload, 1), (119, .ifCond .le 23, 3), (122, .aload_n 0, 1), (123, .getfield 26, 3), (126, .iload_n 1, 1), (127, .dup2, 1), (128, .iaload, 1), (129, .iconst 1, 1), (130, .isub, 1), (131, .iastore, 1), (132, .aload_n 0, 1), (133, .dup, 1), (134, .getfield 160, 3), (137, .iconst 1, 1), (138, .iadd, 1), (139, .putfield 160, 3), (142, .aload_n 0, 1), (143, .getfield 35, 3), (146, .iload_n 1, 1), (147, .dup2, 1), (148, .iaload, 1), (149, .iconst 1, 1), (150, .iadd, 1), (151, .iastore, 1), (152, .aload_n 0, 1), (153, .dup, 1), (154, .getfield 163, 3), (157, .iconst 1, 1), (158, .iadd, 1), (159, .putfield 163, 3), (162, .aload_n 0, 1), (163, .getfield 32, 3), (166, .iload_n 1, 1), (167, .iaload, 1), (168, .aload_n 0, 1), (169, .getfield 35, 3), (172, .iload_n 1, 1), (173, .iaload, 1), (174, .isub, 1), (175, .ireturn, 1)],
  [(16, 0, 4, 6), (19, 0, 4, 7), (26, 0, 4, 9), (29, 0, 4, 12), (32, 0, 4, 13), (35, 0, 4, 14), (38, 0, 4, 15), (44, 0, 4, 17), (70, 0, 4, 0), (76, 14, 56, 1), (84, 14, 58, 1), (91, 14, 60, 2), (160, 0, 4, 10), (163, 0, 4, 11)], false, [], 1, 24)
def pm_Law_least : px_M := (⟨"MoveOrderLaw", "least", "(LMoveOrder;I[J)I"⟩, "MoveOrderLaw", method_7_code, 4, (some .int),
  [(0, .aload_n 2, 1), (1, .iconst 0, 1), (2, .aload_n 0, 1), (3, .iload_n 1, 1), (4, .invokevirtual 29, 3), (7, .i2l, 1), (8, .lastore, 1), (9, .goto 6, 3), (12, .astore_n 3, 1), (13, .iconst 1, 1), (14, .ireturn, 1), (15, .iconst 0, 1), (16, .ireturn, 1)],
  [(29, 20, 27, 1), (13, 31, 0, 0)], false, [(0, 9, 12, 13)], 7, 106)
def pm_Ref_isAbove : px_M := (⟨"MoveOrderModel", "isAbove", "(I)Z"⟩, "MoveOrderModel", prog_6_method_27_code, 4, (some .boolean),
  [(0, .iconst 0, 1), (1, .istore_n 2, 1), (2, .iconst 0, 1), (3, .istore_n 3, 1), (4, .iload_n 3, 1), (5, .aload_n 0, 1), (6, .getfield 73, 3), (9, .if_icmp .ge 73, 3), (12, .iload_n 2, 1), (13, .ifCond .ne 57, 3), (16, .aload_n 0, 1), (17, .getfield 13, 3), (20, .iload_n 3, 1), (21, .iaload, 1), (22, .aload_n 0, 1), (23, .getfield 13, 3), (26, .iload_n 1, 1), (27, .iaload, 1), (28, .if_icmp .ne 46, 3), (31, .aload_n 0, 1), (32, .getfield 16, 3), (35, .iload_n 3, 1), (36, .iaload, 1), (37, .aload_n 0, 1), (38, .getfield 16, 3), (41, .iload_n 1, 1), (42, .iaload, 1), (43, .if_icmp .ne 31, 3), (46, .aload_n 0, 1), (47, .getfield 19, 3), (50, .iload_n 3, 1), (51, .iaload, 1), (52, .aload_n 0, 1), (53, .getfield 19, 3), (56, .iload_n 1, 1), (57, .iaload, 1), (58, .if_icmp .ge 16, 3), (61, .aload_n 0, 1), (62, .getfield 7, 3), (65, .iload_n 3, 1), (66, .iaload, 1), (67, .ifCond .ne 7, 3), (70, .iconst 1, 1), (71, .goto 4, 3), (74, .iconst 0, 1), (75, .istore_n 2, 1), (76, .iinc 3 1, 3), (79, .goto (-75), 3), (82, .iload_n 2, 1), (83, .ifCond .eq 17, 3), (86, .aload_n 0, 1), (87, .getfield 16, 3), (90, .iload_n 1, 1), (91, .iaload, 1), (92, .iconst 3, 1), (93, .if_icmp .ge 7, 3), (96, .iconst 1, 1), (97, .goto 4, 3), (100, .iconst 0, 1), (101, .ireturn, 1)],
  [(7, 0, 4, 4), (13, 0, 4, 5), (16, 0, 4, 6), (19, 0, 4, 7), (73, 0, 4, 3)], false, [], 0, 0)
def pm_Ref_least : px_M := (⟨"MoveOrderModel", "least", "(I)I"⟩, "MoveOrderModel", prog_6_method_28_code, 5, (some .int),
  [(0, .aload_n 0, 1), (1, .iload_n 1, 1), (2, .invokevirtual 76, 3), (5, .ifCond .ne 9, 3), (8, .aload_n 0, 1), (9, .iconst 1, 1), (10, .invokevirtual 84, 3), (13, .ireturn, 1), (14, .aload_n 0, 1), (15, .iconst 0, 1), (16, .putfield 70, 3), (19, .iconst 0, 1), (20, .istore_n 2, 1), (21, .iconst 0, 1), (22, .istore_n 3, 1), (23, .iload_n 3, 1), (24, .aload_n 0, 1), (25, .getfield 73, 3), (28, .if_icmp .ge 66, 3), (31, .aload_n 0, 1), (32, .getfield 13, 3), (35, .iload_n 3, 1), (36, .iaload, 1), (37, .iload_n 1, 1), (38, .if_icmp .ne 17, 3), (41, .aload_n 0, 1), (42, .getfield 16, 3), (45, .iload_n 3, 1), (46, .iaload, 1), (47, .iconst 3, 1), (48, .if_icmp .eq 7, 3), (51, .iconst 1, 1), (52, .goto 4, 3), (55, .iconst 0, 1), (56, .istore 4, 2), (58, .iload_n 2, 1), (59, .iload 4, 2), (61, .ifCond .eq 24, 3), (64, .aload_n 0, 1), (65, .getfield 7, 3), (68, .iload_n 3, 1), (69, .iaload, 1), (70, .ifCond .eq 11, 3), (73, .aload_n 0, 1), (74, .iload_n 3, 1), (75, .invokevirtual 166, 3), (78, .ifCond .eq 7, 3), (81, .iconst 1, 1), (82, .goto 4, 3), (85, .iconst 0, 1), (86, .iadd, 1), (87, .istore_n 2, 1), (88, .iinc 3 1, 3), (91, .goto (-68), 3), (94, .iload_n 2, 1), (95, .ireturn, 1)],
  [(7, 0, 4, 4), (13, 0, 4, 5), (16, 0, 4, 6), (70, 0, 4, 0), (73, 0, 4, 3), (76, 14, 56, 1), (84, 14, 58, 1), (166, 14, 85, 1)], false, [], 1, 23)
def pm_Law_loads : px_M := (⟨"MoveOrderLaw", "loads", "(LMoveOrder;II[J)I"⟩, "MoveOrderLaw", method_8_code, 5, (some .int),
  [(0, .aload_n 3, 1), (1, .iconst 0, 1), (2, .aload_n 0, 1), (3, .iload_n 1, 1), (4, .iload_n 2, 1), (5, .invokevirtual 32, 3), (8, .i2l, 1), (9, .lastore, 1), (10, .goto 11, 3), (13, .astore 4, 2), (15, .iconst 1, 1), (16, .ireturn, 1), (17, .astore 4, 2), (19, .iconst 2, 1), (20, .ireturn, 1), (21, .iconst 0, 1), (22, .ireturn, 1)],
  [(32, 20, 28, 2), (13, 31, 0, 0), (15, 32, 0, 0)], false, [(0, 10, 13, 13), (0, 10, 17, 15)], 7, 105)
def pm_Ref_loads : px_M := (⟨"MoveOrderModel", "loads", "(II)I"⟩, "MoveOrderModel", prog_6_method_29_code, 3, (some .int),
  [(0, .aload_n 0, 1), (1, .iload_n 1, 1), (2, .invokevirtual 76, 3), (5, .ifCond .eq 13, 3), (8, .iload_n 2, 1), (9, .iconst 1, 1), (10, .bipush 100, 2), (12, .invokestatic 80, 3), (15, .ifCond .ne 9, 3), (18, .aload_n 0, 1), (19, .iconst 1, 1), (20, .invokevirtual 84, 3), (23, .ireturn, 1), (24, .aload_n 0, 1), (25, .getfield 26, 3), (28, .iload_n 1, 1), (29, .iaload, 1), (30, .iload_n 2, 1), (31, .iadd, 1), (32, .bipush 100, 2), (34, .if_icmp .le 9, 3), (37, .aload_n 0, 1), (38, .iconst 2, 1), (39, .invokevirtual 84, 3), (42, .ireturn, 1), (43, .aload_n 0, 1), (44, .iconst 0, 1), (45, .putfield 70, 3), (48, .aload_n 0, 1), (49, .getfield 26, 3), (52, .iload_n 1, 1), (53, .dup2, 1), (54, .iaload, 1), (55, .iload_n 2, 1), (56, .iadd, 1), (57, .iastore, 1), (58, .aload_n 0, 1), (59, .getfield 26, 3), (62, .iload_n 1, 1), (63, .iaload, 1), (64, .ireturn, 1)],
  [(26, 0, 4, 9), (70, 0, 4, 0), (76, 14, 56, 1), (80, 5, 57, 3), (84, 14, 58, 1)], false, [], 1, 22)
def pm_Ref_dual : px_M := (⟨"MoveOrderModel", "dual", "(I)I"⟩, "MoveOrderModel", prog_6_method_30_code, 4, (some .int),
  [(0, .aload_n 0, 1), (1, .iload_n 1, 1), (2, .invokevirtual 76, 3), (5, .ifCond .ne 9, 3), (8, .aload_n 0, 1), (9, .iconst 1, 1), (10, .invokevirtual 84, 3), (13, .ireturn, 1), (14, .aload_n 0, 1), (15, .iconst 0, 1), (16, .putfield 70, 3), (19, .iconst 0, 1), (20, .istore_n 2, 1), (21, .aload_n 0, 1), (22, .getfield 35, 3), (25, .iload_n 1, 1), (26, .iaload, 1), (27, .istore_n 3, 1), (28, .iload_n 3, 1), (29, .aload_n 0, 1), (30, .getfield 32, 3), (33, .iload_n 1, 1), (34, .iaload, 1), (35, .if_icmp .ge 32, 3), (38, .iload_n 2, 1), (39, .aload_n 0, 1), (40, .getfield 44, 3), (43, .bipush 40, 2), (45, .iload_n 1, 1), (46, .imul, 1), (47, .iload_n 3, 1), (48, .iadd, 1), (49, .iaload, 1), (50, .iconst 3, 1), (51, .if_icmp .ne 7, 3), (54, .iconst 1, 1), (55, .goto 4, 3), (58, .iconst 0, 1), (59, .iadd, 1), (60, .istore_n 2, 1), (61, .iinc 3 1, 3), (64, .goto (-36), 3), (67, .aload_n 0, 1), (68, .getfield 29, 3), (71, .iload_n 1, 1), (72, .baload, 1), (73, .ifCond .ne 7, 3), (76, .iconst (-1), 1), (77, .goto 23, 3), (80, .iload_n 2, 1), (81, .aload_n 0, 1), (82, .getfield 26, 3), (85, .iload_n 1, 1), (86, .iaload, 1), (87, .if_icmp .ge 7, 3), (90, .iload_n 2, 1), (91, .goto 9, 3), (94, .aload_n 0, 1), (95, .getfield 26, 3), (98, .iload_n 1, 1), (99, .iaload, 1), (100, .ireturn, 1)],
  [(26, 0, 4, 9), (29, 0, 4, 12), (32, 0, 4, 13), (35, 0, 4, 14), (44, 0, 4, 17), (70, 0, 4, 0), (76, 14, 56, 1), (84, 14, 58, 1)], false, [], 1, 21)
def pm_Law_swap : px_M := (⟨"MoveOrderLaw", "swap", "(LMoveOrder;II[J)I"⟩, "MoveOrderLaw", method_10_code, 5, (some .int),
  [(0, .aload_n 3, 1), (1, .iconst 0, 1), (2, .aload_n 0, 1), (3, .iload_n 1, 1), (4, .iload_n 2, 1), (5, .invokevirtual 39, 3), (8, .i2l, 1), (9, .lastore, 1), (10, .goto 7, 3), (13, .astore 4, 2), (15, .iconst 1, 1), (16, .ireturn, 1), (17, .iconst 0, 1), (18, .ireturn, 1)],
  [(39, 20, 50, 2), (13, 31, 0, 0)], false, [(0, 10, 13, 13)], 7, 106)
def pm_Ref_hasNeeds : px_M := (⟨"MoveOrderModel", "hasNeeds", "(I)Z"⟩, "MoveOrderModel", prog_6_method_31_code, 4, (some .boolean),
  [(0, .iconst 0, 1), (1, .istore_n 2, 1), (2, .iconst 0, 1), (3, .istore_n 3, 1), (4, .iload_n 3, 1), (5, .bipush 16, 2), (7, .if_icmp .ge 47, 3), (10, .iload_n 2, 1), (11, .ifCond .ne 31, 3), (14, .aload_n 0, 1), (15, .getfield 22, 3), (18, .bipush 16, 2), (20, .iload_n 1, 1), (21, .imul, 1), (22, .iload_n 3, 1), (23, .iadd, 1), (24, .baload, 1), (25, .ifCond .ne 17, 3), (28, .aload_n 0, 1), (29, .getfield 22, 3), (32, .bipush 16, 2), (34, .iload_n 3, 1), (35, .imul, 1), (36, .iload_n 1, 1), (37, .iadd, 1), (38, .baload, 1), (39, .ifCond .eq 7, 3), (42, .iconst 1, 1), (43, .goto 4, 3), (46, .iconst 0, 1), (47, .istore_n 2, 1), (48, .iinc 3 1, 3), (51, .goto (-47), 3), (54, .iload_n 2, 1), (55, .ireturn, 1)],
  [(22, 0, 4, 8)], false, [], 0, 0)
def pm_Ref_swap : px_M := (⟨"MoveOrderModel", "swap", "(II)I"⟩, "MoveOrderModel", prog_6_method_32_code, 6, (some .int),
  [(0, .aload_n 0, 1), (1, .iload_n 1, 1), (2, .invokevirtual 99, 3), (5, .ifCond .eq 11, 3), (8, .aload_n 0, 1), (9, .iload_n 2, 1), (10, .invokevirtual 99, 3), (13, .ifCond .ne 9, 3), (16, .aload_n 0, 1), (17, .iconst 1, 1), (18, .invokevirtual 84, 3), (21, .ireturn, 1), (22, .aload_n 0, 1), (23, .iconst 0, 1), (24, .putfield 70, 3), (27, .iload_n 1, 1), (28, .iload_n 2, 1), (29, .if_icmp .eq 54, 3), (32, .aload_n 0, 1), (33, .getfield 7, 3), (36, .iload_n 1, 1), (37, .iaload, 1), (38, .aload_n 0, 1), (39, .getfield 7, 3), (42, .iload_n 2, 1), (43, .iaload, 1), (44, .if_icmp .ne 39, 3), (47, .aload_n 0, 1), (48, .getfield 16, 3), (51, .iload_n 1, 1), (52, .iaload, 1), (53, .iconst 2, 1), (54, .if_icmp .gt 29, 3), (57, .aload_n 0, 1), (58, .getfield 16, 3), (61, .iload_n 2, 1), (62, .iaload, 1), (63, .iconst 2, 1), (64, .if_icmp .gt 19, 3), (67, .aload_n 0, 1), (68, .iload_n 1, 1), (69, .invokevirtual 169, 3), (72, .ifCond .ne 11, 3), (75, .aload_n 0, 1), (76, .iload_n 2, 1), (77, .invokevirtual 169, 3), (80, .ifCond .eq 5, 3), (83, .iconst 0, 1), (84, .ireturn, 1), (85, .aload_n 0, 1), (86, .getfield 13, 3), (89, .iload_n 1, 1), (90, .iaload, 1), (91, .istore_n 3, 1), (92, .aload_n 0, 1), (93, .getfield 16, 3), (96, .iload_n 1, 1), (97, .iaload, 1), (98, .istore 4, 2), (100, .aload_n 0, 1), (101, .getfield 19, 3), (104, .iload_n 1, 1), (105, .iaload, 1), (106, .istore 5, 2), (108, .aload_n 0, 1), (109, .getfield 13, 3), (112, .iload_n 1, 1), (113, .aload_n 0, 1), (114, .getfield 13, 3), (117, .iload_n 2, 1), (118, .iaload, 1), (119, .iastore, 1), (120, .aload_n 0, 1), (121, .getfield 16, 3), (124, .iload_n 1, 1), (125, .aload_n 0, 1), (126, .getfield 16, 3), (129, .iload_n 2, 1), (130, .iaload, 1), (131, .iastore, 1), (132, .aload_n 0, 1), (133, .getfield 19, 3), (136, .iload_n 1, 1), (137, .aload_n 0, 1), (138, .getfield 19, 3), (141, .iload_n 2, 1), (142, .iaload, 1), (143, .iastore, 1), (144, .aload_n 0, 1), (145, .getfield 13, 3), (148, .iload_n 2, 1), (149, .iload_n 3, 1), (150, .iastore, 1), (151, .aload_n 0, 1), (152, .getfield 16, 3), (155, .iload_n 2, 1), (156, .iload 4, 2), (158, .iastore, 1), (159, .aload_n 0, 1), (160, .getfield 19, 3), (163, .iload_n 2, 1), (164, .iload 5, 2), (166, .iastore, 1), (167, .aload_n 0, 1), (168, .aload_n 0, 1), (169, .getfield 13, 3), (172, .iload_n 1, 1), (173, .iaload, 1), (174, .invokevirtual 95, 3), (177, .aload_n 0, 1), (178, .iload_n 3, 1), (179, .invokevirtual 95, 3), (182, .iconst 1, 1), (183, .ireturn, 1)],
  [(7, 0, 4, 4), (13, 0, 4, 5), (16, 0, 4, 6), (19, 0, 4, 7), (70, 0, 4, 0), (84, 14, 58, 1), (95, 14, 61, 1), (99, 14, 64, 1), (169, 14, 91, 1)], false, [], 1, 23)
def pm_Law_look : px_M := (⟨"MoveOrderLaw", "look", "(LMoveOrder;II[J)I"⟩, "MoveOrderLaw", method_11_code, 5, (some .int),
  [(0, .aload_n 3, 1), (1, .iconst 0, 1), (2, .aload_n 0, 1), (3, .iload_n 1, 1), (4, .iload_n 2, 1), (5, .invokevirtual 42, 3), (8, .i2l, 1), (9, .lastore, 1), (10, .goto 7, 3), (13, .astore 4, 2), (15, .iconst 1, 1), (16, .ireturn, 1), (17, .iconst 0, 1), (18, .ireturn, 1)],
  [(42, 20, 29, 2), (24, 33, 0, 0)], false, [(0, 10, 13, 24)], 7, 105)
def pm_Ref_look : px_M := (⟨"MoveOrderModel", "look", "(II)I"⟩, "MoveOrderModel", prog_6_method_33_code, 3, (some .int),
  [(0, .aload_n 0, 1), (1, .iload_n 1, 1), (2, .invokevirtual 99, 3), (5, .ifCond .eq 12, 3), (8, .iload_n 2, 1), (9, .iconst 0, 1), (10, .iconst 3, 1), (11, .invokestatic 80, 3), (14, .ifCond .ne 9, 3), (17, .aload_n 0, 1), (18, .iconst 1, 1), (19, .invokevirtual 84, 3), (22, .ireturn, 1), (23, .aload_n 0, 1), (24, .iconst 0, 1), (25, .putfield 70, 3), (28, .iload_n 2, 1), (29, .ifCond .ne 12, 3), (32, .aload_n 0, 1), (33, .getfield 7, 3), (36, .iload_n 1, 1), (37, .iaload, 1), (38, .goto 37, 3), (41, .iload_n 2, 1), (42, .iconst 1, 1), (43, .if_icmp .ne 12, 3), (46, .aload_n 0, 1), (47, .getfield 13, 3), (50, .iload_n 1, 1), (51, .iaload, 1), (52, .goto 23, 3), (55, .iload_n 2, 1), (56, .iconst 2, 1), (57, .if_icmp .ne 12, 3), (60, .aload_n 0, 1), (61, .getfield 16, 3), (64, .iload_n 1, 1), (65, .iaload, 1), (66, .goto 9, 3), (69, .aload_n 0, 1), (70, .getfield 19, 3), (73, .iload_n 1, 1), (74, .iaload, 1), (75, .ireturn, 1)],
  [(7, 0, 4, 4), (13, 0, 4, 5), (16, 0, 4, 6), (19, 0, 4, 7), (70, 0, 4, 0), (80, 5, 57, 3), (84, 14, 58, 1), (99, 14, 64, 1)], false, [], 1, 22)
def pm_Ref_count : px_M := (⟨"MoveOrderModel", "count", "(I)I"⟩, "MoveOrderModel", prog_6_method_34_code, 5, (some .int),
  [(0, .aload_n 0, 1), (1, .iconst 0, 1), (2, .putfield 70, 3), (5, .iload_n 1, 1), (6, .bipush 20, 2), (8, .if_icmp .lt 65, 3), (11, .aload_n 0, 1), (12, .iload_n 1, 1), (13, .bipush 20, 2), (15, .isub, 1), (16, .invokevirtual 76, 3), (19, .ifCond .eq 52, 3), (22, .aload_n 0, 1), (23, .getfield 29, 3), (26, .aload_n 0, 1), (27, .iload_n 1, 1), (28, .bipush 20, 2), (30, .isub, 1), (31, .invokevirtual 76, 3), (34, .ifCond .eq 10, 3), (37, .iload_n 1, 1), (38, .bipush 20, 2), (40, .isub, 1), (41, .goto 4, 3), (44, .iconst 0, 1), (45, .baload, 1), (46, .ifCond .eq 25, 3), (49, .aload_n 0, 1), (50, .getfield 32, 3), (53, .iload_n 1, 1), (54, .bipush 20, 2), (56, .isub, 1), (57, .iaload, 1), (58, .aload_n 0, 1), (59, .getfield 35, 3), (62, .iload_n 1, 1), (63, .bipush 20, 2), (65, .isub, 1), (66, .iaload, 1), (67, .isub, 1), (68, .goto 4, 3), (71, .iconst (-1), 1), (72, .ireturn, 1), (73, .iload_n 1, 1), (74, .bipush 10, 2), (76, .if_icmp .lt 28, 3), (79, .aload_n 0, 1), (80, .iload_n 1, 1), (81, .bipush 10, 2), (83, .isub, 1), (84, .invokevirtual 76, 3), (87, .ifCond .eq 15, 3), (90, .aload_n 0, 1), (91, .getfield 26, 3), (94, .iload_n 1, 1), (95, .bipush 10, 2), (97, .isub, 1), (98, .iaload, 1), (99, .goto 4, 3), (102, .iconst (-1), 1), (103, .ireturn, 1), (104, .iconst 0, 1), (105, .istore_n 2, 1), (106, .iconst 0, 1), (107, .istore_n 3, 1), (108, .iconst 0, 1), (109, .istore 4, 2), (111, .iload 4, 2), (113, .aload_n 0, 1), (114, .getfield 73, 3), (117, .if_icmp .ge 47, 3), (120, .iload_n 2, 1), (121, .aload_n 0, 1), (122, .getfield 16, 3), (125, .iload 4, 2), (127, .iaload, 1), (128, .iconst 3, 1), (129, .if_icmp .ne 7, 3), (132, .iconst 1, 1), (133, .goto 4, 3), (136, .iconst 0, 1), (137, .iadd, 1), (138, .istore_n 2, 1), (139, .iload_n 3, 1), (140, .aload_n 0, 1), (141, .getfield 16, 3), (144, .iload 4, 2), (146, .iaload, 1), (147, .iconst 4, 1), (148, .if_icmp .ne 7, 3), (151, .iconst 1, 1), (152, .goto 4, 3), (155, .iconst 0, 1), (156, .iadd, 1), (157, .istore_n 3, 1), (158, .iinc 4 1, 3), (161, .goto (-50), 3), (164, .iload_n 1, 1), (165, .tableswitch 54 0 4 #[35, 40, 42, 44, 49], 35), (200, .aload_n 0, 1), (201, .getfield 73, 3), (204, .ireturn, 1), (205, .iload_n 2, 1), (206, .ireturn, 1), (207, .iload_n 3, 1), (208, .ireturn, 1), (209, .aload_n 0, 1), (210, .getfield 163, 3), (213, .ireturn, 1), (214, .aload_n 0, 1), (215, .getfield 160, 3), (218, .ireturn, 1), (219, .iconst (-1), 1), (220, .ireturn, 1)],
  [(16, 0, 4, 6), (26, 0, 4, 9), (29, 0, 4, 12), (32, 0, 4, 13), (35, 0, 4, 14), (70, 0, 4, 0), (73, 0, 4, 3), (76, 14, 56, 1), (160, 0, 4, 10), (163, 0, 4, 11)], false, [], 1, 21)
def pm_Law_law : px_M := (⟨"MoveOrderLaw", "law", "([I)Z"⟩, "MoveOrderLaw", code, 7, (some .boolean),
  [(0, .new 8, 3), (3, .dup, 1), (4, .aload_n 0, 1), (5, .iconst 0, 1), (6, .invokestatic 45, 3), (9, .aload_n 0, 1), (10, .iconst 1, 1), (11, .invokestatic 45, 3), (14, .invokespecial 51, 3), (17, .astore_n 1, 1), (18, .new 54, 3), (21, .dup, 1), (22, .aload_n 0, 1), (23, .iconst 0, 1), (24, .invokestatic 45, 3), (27, .aload_n 0, 1), (28, .iconst 1, 1), (29, .invokestatic 45, 3), (32, .invokespecial 56, 3), (35, .astore_n 2, 1), (36, .iconst 1, 1), (37, .newarray .long, 2), (39, .astore_n 3, 1), (40, .iconst 2, 1), (41, .istore 4, 2), (43, .iload 4, 2), (45, .aload_n 0, 1), (46, .arraylength, 1), (47, .iconst 4, 1), (48, .isub, 1), (49, .if_icmp .gt 723, 3), (52, .aload_n 0, 1), (53, .iload 4, 2), (55, .iaload, 1), (56, .bipush 15, 2), (58, .iand, 1), (59, .tableswitch 707 0 10 #[57, 137, 174, 230, 310, 366, 422, 490, 546, 614, 682], 57), (116, .aload_n 1, 1), (117, .aload_n 0, 1), (118, .iload 4, 2), (120, .iconst 1, 1), (121, .iadd, 1), (122, .iaload, 1), (123, .aload_n 0, 1), (124, .iload 4, 2), (126, .iconst 2, 1), (127, .iadd, 1), (128, .iaload, 1), (129, .aload_n 0, 1), (130, .iload 4, 2), (132, .iconst 3, 1), (133, .iadd, 1), (134, .iaload, 1), (135, .aload_n 3, 1), (136, .invokestatic 57, 3), (139, .istore 5, 2), (141, .aload_n 2, 1), (142, .aload_n 0, 1), (143, .iload 4, 2), (145, .iconst 1, 1), (146, .iadd, 1), (147, .iaload, 1), (148, .aload_n 0, 1), (149, .iload 4, 2), (151, .iconst 2, 1), (152, .iadd, 1), (153, .iaload, 1), (154, .aload_n 0, 1), (155, .iload 4, 2), (157, .iconst 3, 1), (158, .iadd, 1), (159, .iaload, 1), (160, .invokevirtual 60, 3), (163, .istore 6, 2), (165, .aload_n 2, 1), (166, .invokevirtual 61, 3), (169, .iload 5, 2), (171, .if_icmp .eq 5, 3), (174, .iconst 0, 1), (175, .ireturn, 1), (176, .iload 5, 2), (178, .ifCond .ne 15, 3), (181, .aload_n 3, 1), (182, .iconst 0, 1), (183, .laload, 1), (184, .iload 6, 2), (186, .i2l, 1), (187, .lcmp, 1), (188, .ifCond .eq 5, 3), (191, .iconst 0, 1), (192, .ireturn, 1), (193, .goto 573, 3), (196, .aload_n 1, 1), (197, .aload_n 0, 1), (198, .iload 4, 2), (200, .iconst 1, 1), (201, .iadd, 1), (202, .iaload, 1), (203, .aload_n 0, 1), (204, .iload 4, 2), (206, .iconst 2, 1), (207, .iadd, 1), (208, .iaload, 1), (209, .invokevirtual 65, 3), (212, .aload_n 2, 1), (213, .aload_n 0, 1), (214, .iload 4, 2), (216, .iconst 1, 1), (217, .iadd, 1), (218, .iaload, 1), (219, .aload_n 0, 1), (220, .iload 4, 2), (222, .iconst 2, 1), (223, .iadd, 1), (224, .iaload, 1), (225, .invokevirtual 69, 3), (228, .if_icmp .eq 538, 3), (231, .iconst 0, 1), (232, .ireturn, 1), (233, .aload_n 1, 1), (234, .aload_n 0, 1), (235, .iload 4, 2), (237, .iconst 1, 1), (238, .iadd, 1), (239, .iaload, 1), (240, .aload_n 3, 1), (241, .invokestatic 70, 3), (244, .istore 5, 2), (246, .aload_n 2, 1), (247, .aload_n 0, 1), (248, .iload 4, 2), (250, .iconst 1, 1), (251, .iadd, 1), (252, .iaload, 1), (253, .invokevirtual 73, 3), (256, .istore 6, 2), (258, .aload_n 2, 1), (259, .invokevirtual 61, 3), (262, .iload 5, 2), (264, .if_icmp .eq 5, 3), (267, .iconst 0, 1), (268, .ireturn, 1), (269, .iload 5, 2), (271, .ifCond .ne 15, 3), (274, .aload_n 3, 1), (275, .iconst 0, 1), (276, .laload, 1), (277, .iload 6, 2), (279, .i2l, 1), (280, .lcmp, 1), (281, .ifCond .eq 5, 3), (284, .iconst 0, 1), (285, .ireturn, 1), (286, .goto 480, 3), (289, .aload_n 1, 1), (290, .aload_n 0, 1), (291, .iload 4, 2), (293, .iconst 1, 1), (294, .iadd, 1), (295, .iaload, 1), (296, .aload_n 0, 1), (297, .iload 4, 2), (299, .iconst 2, 1), (300, .iadd, 1), (301, .iaload, 1), (302, .aload_n 0, 1), (303, .iload 4, 2), (305, .iconst 3, 1), (306, .iadd, 1), (307, .iaload, 1), (308, .aload_n 3, 1), (309, .invokestatic 74, 3), (312, .istore 5, 2), (314, .aload_n 2, 1), (315, .aload_n 0, 1), (316, .iload 4, 2), (318, .iconst 1, 1), (319, .iadd, 1), (320, .iaload, 1), (321, .aload_n 0, 1), (322, .iload 4, 2), (324, .iconst 2, 1), (325, .iadd, 1), (326, .iaload, 1), (327, .aload_n 0, 1), (328, .iload 4, 2), (330, .iconst 3, 1), (331, .iadd, 1), (332, .iaload, 1), (333, .invokevirtual 76, 3), (336, .istore 6, 2), (338, .aload_n 2, 1), (339, .invokevirtual 61, 3), (342, .iload 5, 2), (344, .if_icmp .eq 5, 3), (347, .iconst 0, 1), (348, .ireturn, 1), (349, .iload 5, 2), (351, .ifCond .ne 15, 3), (354, .aload_n 3, 1), (355, .iconst 0, 1), (356, .laload, 1), (357, .iload 6, 2), (359, .i2l, 1), (360, .lcmp, 1), (361, .ifCond .eq 5, 3), (364, .iconst 0, 1), (365, .ireturn, 1), (366, .goto 400, 3), (369, .aload_n 1, 1), (370, .aload_n 0, 1), (371, .iload 4, 2), (373, .iconst 1, 1), (374, .iadd, 1), (375, .iaload, 1), (376, .aload_n 3, 1), (377, .invokestatic 77, 3), (380, .istore 5, 2), (382, .aload_n 2, 1), (383, .aload_n 0, 1), (384, .iload 4, 2), (386, .iconst 1, 1), (387, .iadd, 1), (388, .iaload, 1), (389, .invokevirtual 79, 3), (392, .istore 6, 2), (394, .aload_n 2, 1), (395, .invokevirtual 61, 3), (398, .iload 5, 2), (400, .if_icmp .eq 5, 3), (403, .iconst 0, 1), (404, .ireturn, 1), (405, .iload 5, 2), (407, .ifCond .ne 15, 3), (410, .aload_n 3, 1), (411, .iconst 0, 1), (412, .laload, 1), (413, .iload 6, 2), (415, .i2l, 1), (416, .lcmp, 1), (417, .ifCond .eq 5, 3), (420, .iconst 0, 1), (421, .ireturn, 1), (422, .goto 344, 3), (425, .aload_n 1, 1), (426, .aload_n 0, 1), (427, .iload 4, 2), (429, .iconst 1, 1), (430, .iadd, 1), (431, .iaload, 1), (432, .aload_n 3, 1), (433, .invokestatic 80, 3), (436, .istore 5, 2), (438, .aload_n 2, 1), (439, .aload_n 0, 1), (440, .iload 4, 2), (442, .iconst 1, 1), (443, .iadd, 1), (444, .iaload, 1), (445, .invokevirtual 82, 3), (448, .istore 6, 2), (450, .aload_n 2, 1), (451, .invokevirtual 61, 3), (454, .iload 5, 2), (456, .if_icmp .eq 5, 3), (459, .iconst 0, 1), (460, .ireturn, 1), (461, .iload 5, 2), (463, .ifCond .ne 15, 3), (466, .aload_n 3, 1), (467, .iconst 0, 1), (468, .laload, 1), (469, .iload 6, 2), (471, .i2l, 1), (472, .lcmp, 1), (473, .ifCond .eq 5, 3), (476, .iconst 0, 1), (477, .ireturn, 1), (478, .goto 288, 3), (481, .aload_n 1, 1), (482, .aload_n 0, 1), (483, .iload 4, 2), (485, .iconst 1, 1), (486, .iadd, 1), (487, .iaload, 1), (488, .aload_n 0, 1), (489, .iload 4, 2), (491, .iconst 2, 1), (492, .iadd, 1), (493, .iaload, 1), (494, .aload_n 3, 1), (495, .invokestatic 83, 3), (498, .istore 5, 2), (500, .aload_n 2, 1), (501, .aload_n 0, 1), (502, .iload 4, 2), (504, .iconst 1, 1), (505, .iadd, 1), (506, .iaload, 1), (507, .aload_n 0, 1), (508, .iload 4, 2), (510, .iconst 2, 1), (511, .iadd, 1), (512, .iaload, 1), (513, .invokevirtual 86, 3), (516, .istore 6, 2), (518, .aload_n 2, 1), (519, .invokevirtual 61, 3), (522, .iload 5, 2), (524, .if_icmp .eq 5, 3), (527, .iconst 0, 1), (528, .ireturn, 1), (529, .iload 5, 2), (531, .ifCond .ne 15, 3), (534, .aload_n 3, 1), (535, .iconst 0, 1), (536, .laload, 1), (537, .iload 6, 2), (539, .i2l, 1), (540, .lcmp, 1), (541, .ifCond .eq 5, 3), (544, .iconst 0, 1), (545, .ireturn, 1), (546, .goto 220, 3), (549, .aload_n 1, 1), (550, .aload_n 0, 1), (551, .iload 4, 2), (553, .iconst 1, 1), (554, .iadd, 1), (555, .iaload, 1), (556, .aload_n 3, 1), (557, .invokestatic 87, 3), (560, .istore 5, 2), (562, .aload_n 2, 1), (563, .aload_n 0, 1), (564, .iload 4, 2), (566, .iconst 1, 1), (567, .iadd, 1), (568, .iaload, 1), (569, .invokevirtual 89, 3), (572, .istore 6, 2), (574, .aload_n 2, 1), (575, .invokevirtual 61, 3), (578, .iload 5, 2), (580, .if_icmp .eq 5, 3), (583, .iconst 0, 1), (584, .ireturn, 1), (585, .iload 5, 2), (587, .ifCond .ne 15, 3), (590, .aload_n 3, 1), (591, .iconst 0, 1), (592, .laload, 1), (593, .iload 6, 2), (595, .i2l, 1), (596, .lcmp, 1), (597, .ifCond .eq 5, 3), (600, .iconst 0, 1), (601, .ireturn, 1), (602, .goto 164, 3), (605, .aload_n 1, 1), (606, .aload_n 0, 1), (607, .iload 4, 2), (609, .iconst 1, 1), (610, .iadd, 1), (611, .iaload, 1), (612, .aload_n 0, 1), (613, .iload 4, 2), (615, .iconst 2, 1), (616, .iadd, 1), (617, .iaload, 1), (618, .aload_n 3, 1), (619, .invokestatic 90, 3), (622, .istore 5, 2), (624, .aload_n 2, 1), (625, .aload_n 0, 1), (626, .iload 4, 2), (628, .iconst 1, 1), (629, .iadd, 1), (630, .iaload, 1), (631, .aload_n 0, 1), (632, .iload 4, 2), (634, .iconst 2, 1), (635, .iadd, 1), (636, .iaload, 1), (637, .invokevirtual 92, 3), (640, .istore 6, 2), (642, .aload_n 2, 1), (643, .invokevirtual 61, 3), (646, .iload 5, 2), (648, .if_icmp .eq 5, 3), (651, .iconst 0, 1), (652, .ireturn, 1), (653, .iload 5, 2), (655, .ifCond .ne 15, 3), (658, .aload_n 3, 1), (659, .iconst 0, 1), (660, .laload, 1), (661, .iload 6, 2), (663, .i2l, 1), (664, .lcmp, 1), (665, .ifCond .eq 5, 3), (668, .iconst 0, 1), (669, .ireturn, 1), (670, .goto 96, 3), (673, .aload_n 1, 1), (674, .aload_n 0, 1), (675, .iload 4, 2), (677, .iconst 1, 1), (678, .iadd, 1), (679, .iaload, 1), (680, .aload_n 0, 1), (681, .iload 4, 2), (683, .iconst 2, 1), (684, .iadd, 1), (685, .iaload, 1), (686, .aload_n 3, 1), (687, .invokestatic 93, 3), (690, .istore 5, 2), (692, .aload_n 2, 1), (693, .aload_n 0, 1), (694, .iload 4, 2), (696, .iconst 1, 1), (697, .iadd, 1), (698, .iaload, 1), (699, .aload_n 0, 1), (700, .iload 4, 2), (702, .iconst 2, 1), (703, .iadd, 1), (704, .iaload, 1), (705, .invokevirtual 95, 3), (708, .istore 6, 2), (710, .aload_n 2, 1), (711, .invokevirtual 61, 3), (714, .iload 5, 2), (716, .if_icmp .eq 5, 3), (719, .iconst 0, 1), (720, .ireturn, 1), (721, .iload 5, 2), (723, .ifCond .ne 15, 3), (726, .aload_n 3, 1), (727, .iconst 0, 1), (728, .laload, 1), (729, .iload 6, 2), (731, .i2l, 1), (732, .lcmp, 1), (733, .ifCond .eq 5, 3), (736, .iconst 0, 1), (737, .ireturn, 1), (738, .goto 28, 3), (741, .aload_n 1, 1), (742, .aload_n 0, 1), (743, .iload 4, 2), (745, .iconst 1, 1), (746, .iadd, 1), (747, .iaload, 1), (748, .invokevirtual 96, 3), (751, .aload_n 2, 1), (752, .aload_n 0, 1), (753, .iload 4, 2), (755, .iconst 1, 1), (756, .iadd, 1), (757, .iaload, 1), (758, .invokevirtual 99, 3), (761, .if_icmp .eq 5, 3), (764, .iconst 0, 1), (765, .ireturn, 1), (766, .iinc 4 4, 3), (769, .goto (-726), 3), (772, .iconst 1, 1), (773, .ireturn, 1)],
  [(8, 2, 0, 7), (45, 5, 53, 2), (51, 1, 2, 2), (54, 2, 4, 25), (56, 1, 55, 2), (57, 5, 52, 5), (60, 14, 62, 3), (61, 14, 63, 0), (65, 10, 10, 2), (69, 14, 66, 2), (70, 5, 67, 3), (73, 14, 79, 1), (74, 5, 80, 5), (76, 14, 81, 3), (77, 5, 82, 3), (79, 14, 83, 1), (80, 5, 84, 3), (82, 14, 86, 1), (83, 5, 87, 4), (86, 14, 88, 2), (87, 5, 54, 3), (89, 14, 89, 1), (90, 5, 90, 4), (92, 14, 92, 2), (93, 5, 93, 4), (95, 14, 94, 2), (96, 10, 19, 1), (99, 14, 95, 1)], true, [], 10, 386)
def ps_P : List px_M := [pm_Bay_init, pm_Sea_init, pm_Mo_init, pm_Mo_bayAt, pm_Mo_boxAt, pm_Box_isToLeave, pm_Box_follows, pm_Mo_comesBefore, pm_Bay_forgetPlan, pm_Mo_forgetPlanOf, pm_Mo_before, pm_Mo_heightOf, pm_Box_isIn, pm_Mo_boxesIn, pm_Box_init, pm_Mo_box, pm_Mo_boxesAt, pm_Bay_movesLeft, pm_Mo_countOfBay, pm_Mo_count, pm_Bay_hasMove, pm_Bay_movesOutLeft, pm_Mo_dual, pm_Mo_hasNeeds, pm_Box_liesInStack, pm_Box_liesBelow, pm_Mo_liesAboveLeaving, pm_Mo_least, pm_Mo_loads, pm_Mo_look, pm_Mo_move, pm_Sea_clear, pm_Sea_add, pm_Sea_isEnd, pm_Sea_reach, pm_Sea_placeOf, pm_Sea_measureStacks, pm_Sea_withPlace, pm_Sea_stepOf, pm_Sea_tryStacks, pm_Sea_mayGoOut, pm_Sea_tryTop, pm_Sea_tryMoves, pm_Bay_startPlan, pm_Bay_setMove, pm_Sea_tellPlan, pm_Sea_forgetSeen, pm_Sea_findPlan, pm_Mo_plan, pm_Box_changePlaces, pm_Mo_swap, pm_Mo_work, pm_Law_box, pm_Law_cell, pm_Law_dual, pm_Ref_init, pm_Ref_isBay, pm_Ref_in, pm_Ref_refuse, pm_Ref_there, pm_Ref_height, pm_Ref_voids, pm_Ref_box, pm_Ref_thrown, pm_Ref_isBox, pm_Ref_leads, pm_Ref_before, pm_Law_plan, pm_Ref_begins, pm_Ref_comes, pm_Ref_isAside, pm_Ref_isOut, pm_Ref_isEnd, pm_Ref_at, pm_Ref_top, pm_Ref_taken, pm_Ref_mayLeave, pm_Ref_moved, pm_Ref_search, pm_Ref_plan, pm_Law_move, pm_Ref_move, pm_Law_work, pm_Ref_work, pm_Law_least, pm_Ref_isAbove, pm_Ref_least, pm_Law_loads, pm_Ref_loads, pm_Ref_dual, pm_Law_swap, pm_Ref_hasNeeds, pm_Ref_swap, pm_Law_look, pm_Ref_look, pm_Ref_count]
end
section
theorem pk_0 {V : px_V} {P : List px_M} {M0 : px_M} {idx ci : Nat} {kf : Int} (h : ∃ C T N, V.1[ci]? = some (C, T, N) ∧ kf.toNat < N ∧ (T kf.toNat).1 = C ∧ (Cond.fieldLink M0.2.1 idx C (T kf.toNat).2.1 (T kf.toNat).2.2.1 ∈ V.2.2.1 ∨ ∃ hs, Cond.fieldLinkNest M0.2.1 idx C (T kf.toNat).2.1 (T kf.toNat).2.2.1 hs ∈ V.2.2.1)) : px_pok V P M0 (idx, 0, ci, kf) := h
theorem pk_1 {V : px_V} {P : List px_M} {M0 : px_M} {idx j : Nat} {np : Int} (h : ∃ M, P[j]? = some M ∧ px_lnk V.2.2.1 M0.2.1 idx M np.toNat (px_fr M0) (px_lo M0) ∧ px_hh M = [] ∧ M.1.name = "<init>" ∧ M.2.2.2.2.1 = none ∧ Cond.instanceMethod M.1 ∈ V.2.2.1) : px_pok V P M0 (idx, 1, j, np) := h
theorem pk_2 {V : px_V} {P : List px_M} {M0 : px_M} {idx ci : Nat} {N : Int} (h : ∃ C T, V.1[ci]? = some (C, T, N.toNat) ∧ Cond.classLink M0.2.1 idx C ∈ V.2.2.1 ∧ Cond.instantiable C N.toNat ∈ V.2.2.1 ∧ Cond.initialized C ∈ V.2.2.1) : px_pok V P M0 (idx, 2, ci, N) := h
theorem pk_3 {V : px_V} {P : List px_M} {M0 : px_M} {idx t : Nat} {z : Int} (h : ∃ C, V.2.1[t]? = some (FieldType.object C) ∧ Cond.classLink M0.2.1 (idx - 65536) C ∈ V.2.2.1) : px_pok V P M0 (idx, 3, t, z) := h
theorem pk_5 {V : px_V} {P : List px_M} {M0 : px_M} {idx j : Nat} {np : Int} (h : ∃ M, P[j]? = some M ∧ px_lnk V.2.2.1 M0.2.1 idx M np.toNat (px_fr M0) (px_lo M0) ∧ Cond.static M.1 ∈ V.2.2.1 ∧ (px_hh M = [] ∨ Cond.methodLink M0.2.1 idx M.1 ∈ V.2.2.1)) : px_pok V P M0 (idx, 5, j, np) := h
theorem pk_6 {V : px_V} {P : List px_M} {M0 : px_M} {idx z : Nat} {w : Int} (h : Cond.methodLink M0.2.1 idx Lib.objectInit ∈ V.2.2.1 ∧ Cond.instanceMethod Lib.objectInit ∈ V.2.2.1 ∧ Cond.code Lib.objectInit ⟨#[0xb1]⟩ 1 none ∈ V.2.2.1 ∧ 1 ≤ px_fr M0 ∧ 20 ≤ px_lo M0) : px_pok V P M0 (idx, 6, z, w) := h
theorem pk_70 {V : px_V} {P : List px_M} {M0 : px_M} {idx : Nat} {w : Int} (h : Cond.methodLink M0.2.1 idx Lib.Math.max.name ∈ V.2.2.1 ∧ Cond.static Lib.Math.max.name ∈ V.2.2.1 ∧ Cond.initialized "java/lang/Math" ∈ V.2.2.1 ∧ Cond.code Lib.Math.max.name Lib.Math.max.code 2 (some .int) ∈ V.2.2.1 ∧ 1 ≤ px_fr M0 ∧ 21 ≤ px_lo M0) : px_pok V P M0 (idx, 7, 0, w) := h
theorem pk_71 {V : px_V} {P : List px_M} {M0 : px_M} {idx : Nat} {w : Int} (h : Cond.methodLink M0.2.1 idx Lib.Math.min.name ∈ V.2.2.1 ∧ Cond.static Lib.Math.min.name ∈ V.2.2.1 ∧ Cond.initialized "java/lang/Math" ∈ V.2.2.1 ∧ Cond.code Lib.Math.min.name Lib.Math.min.code 2 (some .int) ∈ V.2.2.1 ∧ 1 ≤ px_fr M0 ∧ 21 ≤ px_lo M0) : px_pok V P M0 (idx, 7, 1, w) := h
theorem pk_8 {V : px_V} {P : List px_M} {M0 : px_M} {ik kd : Nat} {ic : Int} (h : px_hh M0 = [] ∧ (∀ w ∈ Cond.classLink M0.2.1 ik (px_ex kd) :: Cond.initialized (px_ex kd) :: vx_atS M0.2.1 ic.toNat (px_ex kd) ["java/lang/RuntimeException", "java/lang/Exception"], w ∈ V.2.2.1) ∧ 6 ≤ px_fr M0 ∧ 82 ≤ px_lo M0 ∧
      ∀ q ∈ px_co M0, q.2.1 = .new ik → ∃ is tx, (M0.2.1, is, tx) ∈ V.2.2.2.1 ∧ decode M0.2.2.1 (q.1 + 3) = .ok (.dup, 1) ∧ decode M0.2.2.1 (q.1 + 4) = .ok (.ldc is, 2) ∧ decode M0.2.2.1 (q.1 + 6) = .ok (.invokespecial ic.toNat, 3) ∧ decode M0.2.2.1 (q.1 + 9) = .ok (.athrow, 1)) : px_pok V P M0 (ik, 8, kd, ic) := h
theorem pk_9 {V : px_V} {P : List px_M} {M0 : px_M} {idx z : Nat} {v : Int} (h : Cond.constantLong M0.2.1 idx (px_jc v) ∈ V.2.2.1) : px_pok V P M0 (idx, 9, z, v) := h
/-- the throws of a method, by its rows that make an exception -/
def pk_isn (ik : Nat) (q : Nat × Instr × Nat) : Bool := match q.2.1 with | .new j => Nat.beq j ik | _ => false
theorem pk_thr {co : List (Nat × Instr × Nat)} {ik : Nat} {Z : Nat × Instr × Nat → Prop} (h : ∀ q ∈ co.filter (pk_isn ik), Z q) : ∀ q ∈ co, q.2.1 = .new ik → Z q := fun q hq e => h q (List.mem_filter.mpr ⟨hq, by unfold pk_isn; rw [e]; exact Nat.beq_refl ik⟩)
def pk_isp (q : Nat × Instr × Nat) : Bool := match q.2.1 with | .putfield _ => true | _ => false
theorem pk_fin {V : px_V} {M : px_M} {co : List (Nat × Instr × Nat)} (h : ∀ q ∈ co.filter pk_isp, px_fin V M q.2.1) : ∀ q ∈ co, px_fin V M q.2.1 := by
  rintro ⟨pc, i, len⟩ hq
  by_cases hp : pk_isp (pc, i, len) = true
  · exact h _ (List.mem_filter.mpr ⟨hq, hp⟩)
  · cases i <;> first | trivial | (exact absurd rfl hp)
theorem pk_fn {V : px_V} {M : px_M} {idx ci0 : Nat} {kf0 : Int} {C0 : String} {T0 : u_T} {N0 : Nat} (hp0 : px_pl (px_po M) idx = some (0, ci0, kf0)) (hc0 : V.1[ci0]? = some (C0, T0, N0)) (h : (T0 kf0.toNat).2.2.2 = false) : px_fin V M (.putfield idx) := by
  intro ci kf C T N hp hc
  cases hp0.symm.trans hp
  cases hc0.symm.trans hc
  exact Or.inl h
theorem pk_ff {V : px_V} {M : px_M} {idx ci0 : Nat} {kf0 : Int} {C0 : String} {T0 : u_T} {N0 : Nat} (hp0 : px_pl (px_po M) idx = some (0, ci0, kf0)) (hc0 : V.1[ci0]? = some (C0, T0, N0)) (h : (T0 kf0.toNat).2.2.2 = true) (hn : M.1.name = "<init>") (hC : C0 = M.2.1) (hm : Cond.fieldLink M.2.1 idx C0 (T0 kf0.toNat).2.1 (T0 kf0.toNat).2.2.1 ∈ V.2.2.1) : px_fin V M (.putfield idx) := by
  intro ci kf C T N hp hc
  cases hp0.symm.trans hp
  cases hc0.symm.trans hc
  exact Or.inr ⟨h, hn, hC, hm⟩
def pk_db (M : px_M) : Bool := (px_co M).all fun q => decide (decode M.2.2.1 q.1 = .ok (q.2.1, q.2.2)) && px_chk M.2.2.2.1 q.1 q.2.1 q.2.2
theorem pk_co {V : px_V} {M : px_M} (h : pk_db M = true) (hf : ∀ q ∈ px_co M, px_fin V M q.2.1) : ∀ q ∈ px_co M, decode M.2.2.1 q.1 = .ok (q.2.1, q.2.2) ∧ px_chk M.2.2.2.1 q.1 q.2.1 q.2.2 = true ∧ px_fin V M q.2.1 := fun q hq => by
  have h1 := List.all_eq_true.mp h q hq
  rw [Bool.and_eq_true] at h1
  exact ⟨of_decide_eq_true h1.1, h1.2, hf q hq⟩
theorem pk_nil {α : Type} {Z : α → Prop} : ∀ q ∈ ([] : List α), Z q := fun _ h => nomatch h
theorem pw_all {L : List Cond} (h : L.all (fun w => decide (w ∈ lw_tbl) && px_wb w) = true) : ∀ w ∈ L, w ∈ ps_wl := fun w hw => by
  have h1 := List.all_eq_true.mp h w hw
  rw [Bool.and_eq_true] at h1
  exact List.mem_cons_of_mem _ (List.mem_filter.mpr ⟨of_decide_eq_true h1.1, h1.2⟩)
def pw_L_Mo_61 : List Cond := Cond.classLink "MoveOrder" 57 (px_ex 1) :: Cond.initialized (px_ex 1) :: vx_atS "MoveOrder" 61 (px_ex 1) ["java/lang/RuntimeException", "java/lang/Exception"]
theorem pw_Mo_61 : ∀ w ∈ pw_L_Mo_61, w ∈ ps_wl := pw_all (by decide +kernel)
def pw_L_Mo_75 : List Cond := Cond.classLink "MoveOrder" 71 (px_ex 2) :: Cond.initialized (px_ex 2) :: vx_atS "MoveOrder" 75 (px_ex 2) ["java/lang/RuntimeException", "java/lang/Exception"]
theorem pw_Mo_75 : ∀ w ∈ pw_L_Mo_75, w ∈ ps_wl := pw_all (by decide +kernel)
def pw_L_Mo_137 : List Cond := Cond.classLink "MoveOrder" 133 (px_ex 3) :: Cond.initialized (px_ex 3) :: vx_atS "MoveOrder" 137 (px_ex 3) ["java/lang/RuntimeException", "java/lang/Exception"]
theorem pw_Mo_137 : ∀ w ∈ pw_L_Mo_137, w ∈ ps_wl := pw_all (by decide +kernel)
end
section
set_option maxRecDepth 100000 in
theorem ok_Bay_init : px_okM ps_V ps_P pm_Bay_init := ⟨pk_co (by decide +kernel) (pk_fin (by
    show ∀ q ∈ [(9, Instr.putfield 9, 3), (17, Instr.putfield 15, 3), (25, Instr.putfield 18, 3), (30, Instr.putfield 21, 3), (35, Instr.putfield 25, 3), (40, Instr.putfield 29, 3), (45, Instr.putfield 32, 3)], _
    exact List.forall_mem_cons.mpr ⟨pk_ff rfl rfl rfl rfl rfl (ps_in 89 rfl rfl), List.forall_mem_cons.mpr ⟨pk_ff rfl rfl rfl rfl rfl (ps_in 91 rfl rfl), List.forall_mem_cons.mpr ⟨pk_ff rfl rfl rfl rfl rfl (ps_in 93 rfl rfl), List.forall_mem_cons.mpr ⟨pk_fn rfl rfl rfl, List.forall_mem_cons.mpr ⟨pk_fn rfl rfl rfl, List.forall_mem_cons.mpr ⟨pk_fn rfl rfl rfl, List.forall_mem_cons.mpr ⟨pk_fn rfl rfl rfl, pk_nil⟩⟩⟩⟩⟩⟩⟩)), List.forall_mem_cons.mpr ⟨pk_6 ⟨(ps_in 88 rfl rfl), (ps_in 72 rfl rfl), (ps_in 73 rfl rfl), by decide +kernel, by decide +kernel⟩, List.forall_mem_cons.mpr ⟨pk_0 ⟨_, _, _, rfl, by decide +kernel, rfl, Or.inl (ps_in 89 rfl rfl)⟩, List.forall_mem_cons.mpr ⟨pk_0 ⟨_, _, _, rfl, by decide +kernel, rfl, Or.inl (ps_in 91 rfl rfl)⟩, List.forall_mem_cons.mpr ⟨pk_0 ⟨_, _, _, rfl, by decide +kernel, rfl, Or.inl (ps_in 93 rfl rfl)⟩, List.forall_mem_cons.mpr ⟨pk_0 ⟨_, _, _, rfl, by decide +kernel, rfl, Or.inl (ps_in 95 rfl rfl)⟩, List.forall_mem_cons.mpr ⟨pk_0 ⟨_, _, _, rfl, by decide +kernel, rfl, Or.inl (ps_in 97 rfl rfl)⟩, List.forall_mem_cons.mpr ⟨pk_0 ⟨_, _, _, rfl, by decide +kernel, rfl, Or.inl (ps_in 99 rfl rfl)⟩, List.forall_mem_cons.mpr ⟨pk_0 ⟨_, _, _, rfl, by decide +kernel, rfl, Or.inl (ps_in 101 rfl rfl)⟩, pk_nil⟩⟩⟩⟩⟩⟩⟩⟩, pk_nil, rfl, by decide +kernel, (ps_in 87 rfl rfl)⟩
set_option maxRecDepth 100000 in
theorem ok_Sea_init : px_okM ps_V ps_P pm_Sea_init := ⟨pk_co (by decide +kernel) (pk_fin (by
    show ∀ q ∈ [(8, Instr.putfield 9, 3), (15, Instr.putfield 15, 3), (22, Instr.putfield 18, 3), (29, Instr.putfield 21, 3), (38, Instr.putfield 24, 3), (47, Instr.putfield 27, 3), (56, Instr.putfield 30, 3), (65, Instr.putfield 33, 3), (70, Instr.putfield 37, 3), (75, Instr.putfield 41, 3), (80, Instr.putfield 44, 3), (85, Instr.putfield 47, 3), (90, Instr.putfield 50, 3), (95, Instr.putfield 53, 3)], _
    exact List.forall_mem_cons.mpr ⟨pk_ff rfl rfl rfl rfl rfl (ps_in 126 rfl rfl), List.forall_mem_cons.mpr ⟨pk_ff rfl rfl rfl rfl rfl (ps_in 127 rfl rfl), List.forall_mem_cons.mpr ⟨pk_ff rfl rfl rfl rfl rfl (ps_in 128 rfl rfl), List.forall_mem_cons.mpr ⟨pk_ff rfl rfl rfl rfl rfl (ps_in 129 rfl rfl), List.forall_mem_cons.mpr ⟨pk_ff rfl rfl rfl rfl rfl (ps_in 130 rfl rfl), List.forall_mem_cons.mpr ⟨pk_ff rfl rfl rfl rfl rfl (ps_in 131 rfl rfl), List.forall_mem_cons.mpr ⟨pk_ff rfl rfl rfl rfl rfl (ps_in 132 rfl rfl), List.forall_mem_cons.mpr ⟨pk_ff rfl rfl rfl rfl rfl (ps_in 133 rfl rfl), List.forall_mem_cons.mpr ⟨pk_fn rfl rfl rfl, List.forall_mem_cons.mpr ⟨pk_fn rfl rfl rfl, List.forall_mem_cons.mpr ⟨pk_fn rfl rfl rfl, List.forall_mem_cons.mpr ⟨pk_fn rfl rfl rfl, List.forall_mem_cons.mpr ⟨pk_fn rfl rfl rfl, List.forall_mem_cons.mpr ⟨pk_ff rfl rfl rfl rfl rfl (ps_in 125 rfl rfl), pk_nil⟩⟩⟩⟩⟩⟩⟩⟩⟩⟩⟩⟩⟩⟩)), List.forall_mem_cons.mpr ⟨pk_6 ⟨(ps_in 124 rfl rfl), (ps_in 72 rfl rfl), (ps_in 73 rfl rfl), by decide +kernel, by decide +kernel⟩, List.forall_mem_cons.mpr ⟨pk_0 ⟨_, _, _, rfl, by decide +kernel, rfl, Or.inl (ps_in 126 rfl rfl)⟩, List.forall_mem_cons.mpr ⟨pk_0 ⟨_, _, _, rfl, by decide +kernel, rfl, Or.inl (ps_in 127 rfl rfl)⟩, List.forall_mem_cons.mpr ⟨pk_0 ⟨_, _, _, rfl, by decide +kernel, rfl, Or.inl (ps_in 128 rfl rfl)⟩, List.forall_mem_cons.mpr ⟨pk_0 ⟨_, _, _, rfl, by decide +kernel, rfl, Or.inl (ps_in 129 rfl rfl)⟩, List.forall_mem_cons.mpr ⟨pk_0 ⟨_, _, _, rfl, by decide +kernel, rfl, Or.inl (ps_in 130 rfl rfl)⟩, List.forall_mem_cons.mpr ⟨pk_0 ⟨_, _, _, rfl, by decide +kernel, rfl, Or.inl (ps_in 131 rfl rfl)⟩, List.forall_mem_cons.mpr ⟨pk_0 ⟨_, _, _, rfl, by decide +kernel, rfl, Or.inl (ps_in 132 rfl rfl)⟩, List.forall_mem_cons.mpr ⟨pk_0 ⟨_, _, _, rfl, by decide +kernel, rfl, Or.inl (ps_in 133 rfl rfl)⟩, List.forall_mem_cons.mpr ⟨pk_0 ⟨_, _, _, rfl, by decide +kernel, rfl, Or.inl (ps_in 134 rfl rfl)⟩, List.forall_mem_cons.mpr ⟨pk_0 ⟨_, _, _, rfl, by decide +kernel, rfl, Or.inl (ps_in 135 rfl rfl)⟩, List.forall_mem_cons.mpr ⟨pk_0 ⟨_, _, _, rfl, by decide +kernel, rfl, Or.inl (ps_in 136 rfl rfl)⟩, List.forall_mem_cons.mpr ⟨pk_0 ⟨_, _, _, rfl, by decide +kernel, rfl, Or.inl (ps_in 137 rfl rfl)⟩, List.forall_mem_cons.mpr ⟨pk_0 ⟨_, _, _, rfl, by decide +kernel, rfl, Or.inl (ps_in 138 rfl rfl)⟩, List.forall_mem_cons.mpr ⟨pk_0 ⟨_, _, _, rfl, by decide +kernel, rfl, Or.inl (ps_in 125 rfl rfl)⟩, pk_nil⟩⟩⟩⟩⟩⟩⟩⟩⟩⟩⟩⟩⟩⟩⟩, pk_nil, rfl, by decide +kernel, (ps_in 123 rfl rfl)⟩
set_option maxRecDepth 100000 in
theorem ok_Mo_init : px_okM ps_V ps_P pm_Mo_init := ⟨pk_co (by decide +kernel) (pk_fin (by
    show ∀ q ∈ [(10, Instr.putfield 11, 3), (15, Instr.putfield 15, 3), (20, Instr.putfield 19, 3), (25, Instr.putfield 22, 3), (48, Instr.putfield 34, 3), (56, Instr.putfield 39, 3), (100, Instr.putfield 49, 3)], _
    exact List.forall_mem_cons.mpr ⟨pk_ff rfl rfl rfl rfl rfl (ps_in 171 rfl rfl), List.forall_mem_cons.mpr ⟨pk_fn rfl rfl rfl, List.forall_mem_cons.mpr ⟨pk_fn rfl rfl rfl, List.forall_mem_cons.mpr ⟨pk_fn rfl rfl rfl, List.forall_mem_cons.mpr ⟨pk_ff rfl rfl rfl rfl rfl (ps_in 169 rfl rfl), List.forall_mem_cons.mpr ⟨pk_ff rfl rfl rfl rfl rfl (ps_in 170 rfl rfl), List.forall_mem_cons.mpr ⟨pk_ff rfl rfl rfl rfl rfl (ps_in 172 rfl rfl), pk_nil⟩⟩⟩⟩⟩⟩⟩)), List.forall_mem_cons.mpr ⟨pk_6 ⟨(ps_in 71 rfl rfl), (ps_in 72 rfl rfl), (ps_in 73 rfl rfl), by decide +kernel, by decide +kernel⟩, List.forall_mem_cons.mpr ⟨pk_0 ⟨_, _, _, rfl, by decide +kernel, rfl, Or.inl (ps_in 171 rfl rfl)⟩, List.forall_mem_cons.mpr ⟨pk_0 ⟨_, _, _, rfl, by decide +kernel, rfl, Or.inl (ps_in 173 rfl rfl)⟩, List.forall_mem_cons.mpr ⟨pk_0 ⟨_, _, _, rfl, by decide +kernel, rfl, Or.inl (ps_in 174 rfl rfl)⟩, List.forall_mem_cons.mpr ⟨pk_0 ⟨_, _, _, rfl, by decide +kernel, rfl, Or.inl (ps_in 175 rfl rfl)⟩, List.forall_mem_cons.mpr ⟨pk_71 ⟨(ps_in 76 rfl rfl), (ps_in 77 rfl rfl), (ps_in 55 rfl rfl), (ps_in 78 rfl rfl), by decide +kernel, by decide +kernel⟩, List.forall_mem_cons.mpr ⟨pk_70 ⟨(ps_in 79 rfl rfl), (ps_in 80 rfl rfl), (ps_in 55 rfl rfl), (ps_in 81 rfl rfl), by decide +kernel, by decide +kernel⟩, List.forall_mem_cons.mpr ⟨pk_0 ⟨_, _, _, rfl, by decide +kernel, rfl, Or.inl (ps_in 169 rfl rfl)⟩, List.forall_mem_cons.mpr ⟨pk_2 ⟨_, _, rfl, (ps_in 82 rfl rfl), (ps_in 84 rfl rfl), (ps_in 56 rfl rfl)⟩, List.forall_mem_cons.mpr ⟨pk_0 ⟨_, _, _, rfl, by decide +kernel, rfl, Or.inl (ps_in 170 rfl rfl)⟩, List.forall_mem_cons.mpr ⟨pk_1 ⟨_, rfl, ⟨Or.inr ⟨_, (ps_in 85 rfl rfl)⟩, (ps_in 56 rfl rfl), ⟨by decide +kernel, by decide +kernel, by decide +kernel⟩, by decide +kernel, by decide +kernel⟩, rfl, rfl, rfl, (ps_in 86 rfl rfl)⟩, List.forall_mem_cons.mpr ⟨pk_2 ⟨_, _, rfl, (ps_in 119 rfl rfl), (ps_in 120 rfl rfl), (ps_in 57 rfl rfl)⟩, List.forall_mem_cons.mpr ⟨pk_1 ⟨_, rfl, ⟨Or.inr ⟨_, (ps_in 121 rfl rfl)⟩, (ps_in 57 rfl rfl), ⟨by decide +kernel, by decide +kernel, by decide +kernel⟩, by decide +kernel, by decide +kernel⟩, rfl, rfl, rfl, (ps_in 122 rfl rfl)⟩, List.forall_mem_cons.mpr ⟨pk_0 ⟨_, _, _, rfl, by decide +kernel, rfl, Or.inl (ps_in 172 rfl rfl)⟩, List.forall_mem_cons.mpr ⟨pk_3 ⟨_, rfl, (ps_in 74 rfl rfl)⟩, List.forall_mem_cons.mpr ⟨pk_3 ⟨_, rfl, (ps_in 82 rfl rfl)⟩, pk_nil⟩⟩⟩⟩⟩⟩⟩⟩⟩⟩⟩⟩⟩⟩⟩⟩, pk_nil, rfl, by decide +kernel, (ps_in 70 rfl rfl)⟩
set_option maxRecDepth 100000 in
theorem ok_Mo_bayAt : px_okM ps_V ps_P pm_Mo_bayAt := ⟨pk_co (by decide +kernel) (pk_fin (by
    show ∀ q ∈ [], _
    exact pk_nil)), List.forall_mem_cons.mpr ⟨pk_0 ⟨_, _, _, rfl, by decide +kernel, rfl, Or.inl (ps_in 170 rfl rfl)⟩, pk_nil⟩, pk_nil, rfl, by decide +kernel, (ps_in 219 rfl rfl)⟩
set_option maxRecDepth 100000 in
theorem ok_Mo_boxAt : px_okM ps_V ps_P pm_Mo_boxAt := ⟨pk_co (by decide +kernel) (pk_fin (by
    show ∀ q ∈ [], _
    exact pk_nil)), List.forall_mem_cons.mpr ⟨pk_0 ⟨_, _, _, rfl, by decide +kernel, rfl, Or.inl (ps_in 171 rfl rfl)⟩, List.forall_mem_cons.mpr ⟨pk_0 ⟨_, _, _, rfl, by decide +kernel, rfl, Or.inl (ps_in 173 rfl rfl)⟩, pk_nil⟩⟩, pk_nil, rfl, by decide +kernel, (ps_in 198 rfl rfl)⟩
set_option maxRecDepth 100000 in
theorem ok_Box_isToLeave : px_okM ps_V ps_P pm_Box_isToLeave := ⟨pk_co (by decide +kernel) (pk_fin (by
    show ∀ q ∈ [], _
    exact pk_nil)), List.forall_mem_cons.mpr ⟨pk_0 ⟨_, _, _, rfl, by decide +kernel, rfl, Or.inl (ps_in 352 rfl rfl)⟩, List.forall_mem_cons.mpr ⟨pk_0 ⟨_, _, _, rfl, by decide +kernel, rfl, Or.inl (ps_in 357 rfl rfl)⟩, pk_nil⟩⟩, pk_nil, rfl, by decide +kernel, (ps_in 203 rfl rfl)⟩
set_option maxRecDepth 100000 in
theorem ok_Box_follows : px_okM ps_V ps_P pm_Box_follows := ⟨pk_co (by decide +kernel) (pk_fin (by
    show ∀ q ∈ [], _
    exact pk_nil)), List.forall_mem_cons.mpr ⟨pk_0 ⟨_, _, _, rfl, by decide +kernel, rfl, Or.inl (ps_in 363 rfl rfl)⟩, pk_nil⟩, pk_nil, rfl, by decide +kernel, (ps_in 207 rfl rfl)⟩
set_option maxRecDepth 100000 in
theorem ok_Mo_comesBefore : px_okM ps_V ps_P pm_Mo_comesBefore := ⟨pk_co (by decide +kernel) (pk_fin (by
    show ∀ q ∈ [], _
    exact pk_nil)), List.forall_mem_cons.mpr ⟨pk_0 ⟨_, _, _, rfl, by decide +kernel, rfl, Or.inl (ps_in 173 rfl rfl)⟩, List.forall_mem_cons.mpr ⟨(⟨_, _, _, rfl, ⟨Or.inl (ps_in 195 rfl rfl), (ps_in 54 rfl rfl), ⟨by decide +kernel, by decide +kernel, by decide +kernel⟩, by decide +kernel, by decide +kernel⟩, rfl, (ps_in 197 rfl rfl), (ps_in 0 rfl rfl), rfl⟩ : ∃ M T N, ps_P[4]? = some M ∧ px_lnk ps_wl "MoveOrder" 82 M 1 (px_fr pm_Mo_comesBefore) (px_lo pm_Mo_comesBefore) ∧ px_hh M = [] ∧ Cond.instanceMethod M.1 ∈ ps_wl ∧ Cond.selects M.1.cls M.1 M.1 ∈ ps_wl ∧ ps_cl[0]? = some (M.1.cls, T, N)), List.forall_mem_cons.mpr ⟨pk_0 ⟨_, _, _, rfl, by decide +kernel, rfl, Or.inr ⟨_, (ps_in 364 rfl rfl)⟩⟩, pk_nil⟩⟩⟩, pk_nil, rfl, by decide +kernel, (ps_in 211 rfl rfl)⟩
set_option maxRecDepth 100000 in
theorem ok_Bay_forgetPlan : px_okM ps_V ps_P pm_Bay_forgetPlan := ⟨pk_co (by decide +kernel) (pk_fin (by
    show ∀ q ∈ [(2, Instr.putfield 21, 3), (7, Instr.putfield 25, 3), (12, Instr.putfield 29, 3)], _
    exact List.forall_mem_cons.mpr ⟨pk_fn rfl rfl rfl, List.forall_mem_cons.mpr ⟨pk_fn rfl rfl rfl, List.forall_mem_cons.mpr ⟨pk_fn rfl rfl rfl, pk_nil⟩⟩⟩)), List.forall_mem_cons.mpr ⟨pk_0 ⟨_, _, _, rfl, by decide +kernel, rfl, Or.inl (ps_in 95 rfl rfl)⟩, List.forall_mem_cons.mpr ⟨pk_0 ⟨_, _, _, rfl, by decide +kernel, rfl, Or.inl (ps_in 97 rfl rfl)⟩, List.forall_mem_cons.mpr ⟨pk_0 ⟨_, _, _, rfl, by decide +kernel, rfl, Or.inl (ps_in 99 rfl rfl)⟩, pk_nil⟩⟩⟩, pk_nil, rfl, by decide +kernel, (ps_in 223 rfl rfl)⟩
set_option maxRecDepth 100000 in
theorem ok_Mo_forgetPlanOf : px_okM ps_V ps_P pm_Mo_forgetPlanOf := ⟨pk_co (by decide +kernel) (pk_fin (by
    show ∀ q ∈ [], _
    exact pk_nil)), List.forall_mem_cons.mpr ⟨(⟨_, _, _, rfl, ⟨Or.inl (ps_in 216 rfl rfl), (ps_in 54 rfl rfl), ⟨by decide +kernel, by decide +kernel, by decide +kernel⟩, by decide +kernel, by decide +kernel⟩, rfl, (ps_in 218 rfl rfl), (ps_in 5 rfl rfl), rfl⟩ : ∃ M T N, ps_P[3]? = some M ∧ px_lnk ps_wl "MoveOrder" 53 M 1 (px_fr pm_Mo_forgetPlanOf) (px_lo pm_Mo_forgetPlanOf) ∧ px_hh M = [] ∧ Cond.instanceMethod M.1 ∈ ps_wl ∧ Cond.selects M.1.cls M.1 M.1 ∈ ps_wl ∧ ps_cl[0]? = some (M.1.cls, T, N)), List.forall_mem_cons.mpr ⟨(⟨_, _, _, rfl, ⟨Or.inr ⟨_, (ps_in 220 rfl rfl)⟩, (ps_in 56 rfl rfl), ⟨by decide +kernel, by decide +kernel, by decide +kernel⟩, by decide +kernel, by decide +kernel⟩, rfl, (ps_in 222 rfl rfl), (ps_in 6 rfl rfl), rfl⟩ : ∃ M T N, ps_P[8]? = some M ∧ px_lnk ps_wl "MoveOrder" 79 M 0 (px_fr pm_Mo_forgetPlanOf) (px_lo pm_Mo_forgetPlanOf) ∧ px_hh M = [] ∧ Cond.instanceMethod M.1 ∈ ps_wl ∧ Cond.selects M.1.cls M.1 M.1 ∈ ps_wl ∧ ps_cl[1]? = some (M.1.cls, T, N)), pk_nil⟩⟩, pk_nil, rfl, by decide +kernel, (ps_in 215 rfl rfl)⟩
set_option maxRecDepth 100000 in
theorem ok_Mo_before : px_okM ps_V ps_P pm_Mo_before := ⟨pk_co (by decide +kernel) (pk_fin (by
    show ∀ q ∈ [(88, Instr.putfield 101, 3)], _
    exact List.forall_mem_cons.mpr ⟨pk_fn rfl rfl rfl, pk_nil⟩)), List.forall_mem_cons.mpr ⟨(⟨_, _, _, rfl, ⟨Or.inl (ps_in 195 rfl rfl), (ps_in 54 rfl rfl), ⟨by decide +kernel, by decide +kernel, by decide +kernel⟩, by decide +kernel, by decide +kernel⟩, rfl, (ps_in 197 rfl rfl), (ps_in 0 rfl rfl), rfl⟩ : ∃ M T N, ps_P[4]? = some M ∧ px_lnk ps_wl "MoveOrder" 82 M 1 (px_fr pm_Mo_before) (px_lo pm_Mo_before) ∧ px_hh M = [] ∧ Cond.instanceMethod M.1 ∈ ps_wl ∧ Cond.selects M.1.cls M.1 M.1 ∈ ps_wl ∧ ps_cl[0]? = some (M.1.cls, T, N)), List.forall_mem_cons.mpr ⟨pk_0 ⟨_, _, _, rfl, by decide +kernel, rfl, Or.inr ⟨_, (ps_in 356 rfl rfl)⟩⟩, List.forall_mem_cons.mpr ⟨(⟨_, _, _, rfl, ⟨Or.inr ⟨_, (ps_in 199 rfl rfl)⟩, (ps_in 64 rfl rfl), ⟨by decide +kernel, by decide +kernel, by decide +kernel⟩, by decide +kernel, by decide +kernel⟩, rfl, (ps_in 201 rfl rfl), (ps_in 1 rfl rfl), rfl⟩ : ∃ M T N, ps_P[5]? = some M ∧ px_lnk ps_wl "MoveOrder" 89 M 0 (px_fr pm_Mo_before) (px_lo pm_Mo_before) ∧ px_hh M = [] ∧ Cond.instanceMethod M.1 ∈ ps_wl ∧ Cond.selects M.1.cls M.1 M.1 ∈ ps_wl ∧ ps_cl[2]? = some (M.1.cls, T, N)), List.forall_mem_cons.mpr ⟨(⟨_, _, _, rfl, ⟨Or.inr ⟨_, (ps_in 204 rfl rfl)⟩, (ps_in 64 rfl rfl), ⟨by decide +kernel, by decide +kernel, by decide +kernel⟩, by decide +kernel, by decide +kernel⟩, rfl, (ps_in 206 rfl rfl), (ps_in 2 rfl rfl), rfl⟩ : ∃ M T N, ps_P[6]? = some M ∧ px_lnk ps_wl "MoveOrder" 93 M 1 (px_fr pm_Mo_before) (px_lo pm_Mo_before) ∧ px_hh M = [] ∧ Cond.instanceMethod M.1 ∈ ps_wl ∧ Cond.selects M.1.cls M.1 M.1 ∈ ps_wl ∧ ps_cl[2]? = some (M.1.cls, T, N)), List.forall_mem_cons.mpr ⟨(⟨_, _, _, rfl, ⟨Or.inl (ps_in 208 rfl rfl), (ps_in 54 rfl rfl), ⟨by decide +kernel, by decide +kernel, by decide +kernel⟩, by decide +kernel, by decide +kernel⟩, rfl, (ps_in 210 rfl rfl), (ps_in 3 rfl rfl), rfl⟩ : ∃ M T N, ps_P[7]? = some M ∧ px_lnk ps_wl "MoveOrder" 97 M 2 (px_fr pm_Mo_before) (px_lo pm_Mo_before) ∧ px_hh M = [] ∧ Cond.instanceMethod M.1 ∈ ps_wl ∧ Cond.selects M.1.cls M.1 M.1 ∈ ps_wl ∧ ps_cl[0]? = some (M.1.cls, T, N)), List.forall_mem_cons.mpr ⟨pk_0 ⟨_, _, _, rfl, by decide +kernel, rfl, Or.inr ⟨_, (ps_in 364 rfl rfl)⟩⟩, List.forall_mem_cons.mpr ⟨(⟨_, _, _, rfl, ⟨Or.inl (ps_in 212 rfl rfl), (ps_in 54 rfl rfl), ⟨by decide +kernel, by decide +kernel, by decide +kernel⟩, by decide +kernel, by decide +kernel⟩, rfl, (ps_in 214 rfl rfl), (ps_in 4 rfl rfl), rfl⟩ : ∃ M T N, ps_P[9]? = some M ∧ px_lnk ps_wl "MoveOrder" 104 M 1 (px_fr pm_Mo_before) (px_lo pm_Mo_before) ∧ px_hh M = [] ∧ Cond.instanceMethod M.1 ∈ ps_wl ∧ Cond.selects M.1.cls M.1 M.1 ∈ ps_wl ∧ ps_cl[0]? = some (M.1.cls, T, N)), pk_nil⟩⟩⟩⟩⟩⟩⟩, pk_nil, rfl, by decide +kernel, (ps_in 194 rfl rfl)⟩
set_option maxRecDepth 100000 in
theorem ok_Mo_heightOf : px_okM ps_V ps_P pm_Mo_heightOf := ⟨pk_co (by decide +kernel) (pk_fin (by
    show ∀ q ∈ [], _
    exact pk_nil)), List.forall_mem_cons.mpr ⟨pk_0 ⟨_, _, _, rfl, by decide +kernel, rfl, Or.inl (ps_in 173 rfl rfl)⟩, List.forall_mem_cons.mpr ⟨(⟨_, _, _, rfl, ⟨Or.inl (ps_in 195 rfl rfl), (ps_in 54 rfl rfl), ⟨by decide +kernel, by decide +kernel, by decide +kernel⟩, by decide +kernel, by decide +kernel⟩, rfl, (ps_in 197 rfl rfl), (ps_in 0 rfl rfl), rfl⟩ : ∃ M T N, ps_P[4]? = some M ∧ px_lnk ps_wl "MoveOrder" 82 M 1 (px_fr pm_Mo_heightOf) (px_lo pm_Mo_heightOf) ∧ px_hh M = [] ∧ Cond.instanceMethod M.1 ∈ ps_wl ∧ Cond.selects M.1.cls M.1 M.1 ∈ ps_wl ∧ ps_cl[0]? = some (M.1.cls, T, N)), List.forall_mem_cons.mpr ⟨pk_0 ⟨_, _, _, rfl, by decide +kernel, rfl, Or.inr ⟨_, (ps_in 356 rfl rfl)⟩⟩, List.forall_mem_cons.mpr ⟨pk_0 ⟨_, _, _, rfl, by decide +kernel, rfl, Or.inr ⟨_, (ps_in 359 rfl rfl)⟩⟩, pk_nil⟩⟩⟩⟩, pk_nil, rfl, by decide +kernel, (ps_in 323 rfl rfl)⟩
set_option maxRecDepth 100000 in
theorem ok_Box_isIn : px_okM ps_V ps_P pm_Box_isIn := ⟨pk_co (by decide +kernel) (pk_fin (by
    show ∀ q ∈ [], _
    exact pk_nil)), List.forall_mem_cons.mpr ⟨pk_0 ⟨_, _, _, rfl, by decide +kernel, rfl, Or.inl (ps_in 355 rfl rfl)⟩, List.forall_mem_cons.mpr ⟨pk_0 ⟨_, _, _, rfl, by decide +kernel, rfl, Or.inl (ps_in 357 rfl rfl)⟩, pk_nil⟩⟩, pk_nil, rfl, by decide +kernel, (ps_in 331 rfl rfl)⟩
set_option maxRecDepth 100000 in
theorem ok_Mo_boxesIn : px_okM ps_V ps_P pm_Mo_boxesIn := ⟨pk_co (by decide +kernel) (pk_fin (by
    show ∀ q ∈ [], _
    exact pk_nil)), List.forall_mem_cons.mpr ⟨pk_0 ⟨_, _, _, rfl, by decide +kernel, rfl, Or.inl (ps_in 173 rfl rfl)⟩, List.forall_mem_cons.mpr ⟨(⟨_, _, _, rfl, ⟨Or.inl (ps_in 195 rfl rfl), (ps_in 54 rfl rfl), ⟨by decide +kernel, by decide +kernel, by decide +kernel⟩, by decide +kernel, by decide +kernel⟩, rfl, (ps_in 197 rfl rfl), (ps_in 0 rfl rfl), rfl⟩ : ∃ M T N, ps_P[4]? = some M ∧ px_lnk ps_wl "MoveOrder" 82 M 1 (px_fr pm_Mo_boxesIn) (px_lo pm_Mo_boxesIn) ∧ px_hh M = [] ∧ Cond.instanceMethod M.1 ∈ ps_wl ∧ Cond.selects M.1.cls M.1 M.1 ∈ ps_wl ∧ ps_cl[0]? = some (M.1.cls, T, N)), List.forall_mem_cons.mpr ⟨(⟨_, _, _, rfl, ⟨Or.inr ⟨_, (ps_in 328 rfl rfl)⟩, (ps_in 64 rfl rfl), ⟨by decide +kernel, by decide +kernel, by decide +kernel⟩, by decide +kernel, by decide +kernel⟩, rfl, (ps_in 330 rfl rfl), (ps_in 13 rfl rfl), rfl⟩ : ∃ M T N, ps_P[12]? = some M ∧ px_lnk ps_wl "MoveOrder" 112 M 1 (px_fr pm_Mo_boxesIn) (px_lo pm_Mo_boxesIn) ∧ px_hh M = [] ∧ Cond.instanceMethod M.1 ∈ ps_wl ∧ Cond.selects M.1.cls M.1 M.1 ∈ ps_wl ∧ ps_cl[2]? = some (M.1.cls, T, N)), pk_nil⟩⟩⟩, pk_nil, rfl, by decide +kernel, (ps_in 327 rfl rfl)⟩
set_option maxRecDepth 100000 in
theorem ok_Box_init : px_okM ps_V ps_P pm_Box_init := ⟨pk_co (by decide +kernel) (pk_fin (by
    show ∀ q ∈ [(6, Instr.putfield 9, 3), (11, Instr.putfield 15, 3), (16, Instr.putfield 18, 3), (21, Instr.putfield 21, 3), (27, Instr.putfield 24, 3)], _
    exact List.forall_mem_cons.mpr ⟨pk_fn rfl rfl rfl, List.forall_mem_cons.mpr ⟨pk_ff rfl rfl rfl rfl rfl (ps_in 352 rfl rfl), List.forall_mem_cons.mpr ⟨pk_fn rfl rfl rfl, List.forall_mem_cons.mpr ⟨pk_fn rfl rfl rfl, List.forall_mem_cons.mpr ⟨pk_fn rfl rfl rfl, pk_nil⟩⟩⟩⟩⟩)), List.forall_mem_cons.mpr ⟨pk_6 ⟨(ps_in 351 rfl rfl), (ps_in 72 rfl rfl), (ps_in 73 rfl rfl), by decide +kernel, by decide +kernel⟩, List.forall_mem_cons.mpr ⟨pk_0 ⟨_, _, _, rfl, by decide +kernel, rfl, Or.inl (ps_in 363 rfl rfl)⟩, List.forall_mem_cons.mpr ⟨pk_0 ⟨_, _, _, rfl, by decide +kernel, rfl, Or.inl (ps_in 352 rfl rfl)⟩, List.forall_mem_cons.mpr ⟨pk_0 ⟨_, _, _, rfl, by decide +kernel, rfl, Or.inl (ps_in 355 rfl rfl)⟩, List.forall_mem_cons.mpr ⟨pk_0 ⟨_, _, _, rfl, by decide +kernel, rfl, Or.inl (ps_in 357 rfl rfl)⟩, List.forall_mem_cons.mpr ⟨pk_0 ⟨_, _, _, rfl, by decide +kernel, rfl, Or.inl (ps_in 360 rfl rfl)⟩, pk_nil⟩⟩⟩⟩⟩⟩, pk_nil, rfl, by decide +kernel, (ps_in 350 rfl rfl)⟩
set_option maxRecDepth 100000 in
theorem ok_Mo_box : px_okM ps_V ps_P pm_Mo_box := ⟨pk_co (by decide +kernel) (pk_fin (by
    show ∀ q ∈ [(117, Instr.putfield 15, 3)], _
    exact List.forall_mem_cons.mpr ⟨pk_fn rfl rfl rfl, pk_nil⟩)), List.forall_mem_cons.mpr ⟨pk_2 ⟨_, _, rfl, (ps_in 74 rfl rfl), (ps_in 202 rfl rfl), (ps_in 64 rfl rfl)⟩, List.forall_mem_cons.mpr ⟨pk_0 ⟨_, _, _, rfl, by decide +kernel, rfl, Or.inl (ps_in 171 rfl rfl)⟩, List.forall_mem_cons.mpr ⟨pk_0 ⟨_, _, _, rfl, by decide +kernel, rfl, Or.inl (ps_in 173 rfl rfl)⟩, List.forall_mem_cons.mpr ⟨pk_0 ⟨_, _, _, rfl, by decide +kernel, rfl, Or.inl (ps_in 169 rfl rfl)⟩, List.forall_mem_cons.mpr ⟨(⟨_, _, _, rfl, ⟨Or.inl (ps_in 216 rfl rfl), (ps_in 54 rfl rfl), ⟨by decide +kernel, by decide +kernel, by decide +kernel⟩, by decide +kernel, by decide +kernel⟩, rfl, (ps_in 218 rfl rfl), (ps_in 5 rfl rfl), rfl⟩ : ∃ M T N, ps_P[3]? = some M ∧ px_lnk ps_wl "MoveOrder" 53 M 1 (px_fr pm_Mo_box) (px_lo pm_Mo_box) ∧ px_hh M = [] ∧ Cond.instanceMethod M.1 ∈ ps_wl ∧ Cond.selects M.1.cls M.1 M.1 ∈ ps_wl ∧ ps_cl[0]? = some (M.1.cls, T, N)), List.forall_mem_cons.mpr ⟨pk_8 ⟨rfl, pw_Mo_61, by decide +kernel, by decide +kernel, pk_thr (by
    show ∀ q ∈ [(30, Instr.new 57, 3)], _
    exact List.forall_mem_cons.mpr ⟨⟨59, "no such bay, stack or port", List.mem_of_getElem? (i := 0) rfl, by decide +kernel, by decide +kernel, by decide +kernel, by decide +kernel⟩, pk_nil⟩)⟩, List.forall_mem_cons.mpr ⟨(⟨_, _, _, rfl, ⟨Or.inl (ps_in 320 rfl rfl), (ps_in 54 rfl rfl), ⟨by decide +kernel, by decide +kernel, by decide +kernel⟩, by decide +kernel, by decide +kernel⟩, rfl, (ps_in 322 rfl rfl), (ps_in 11 rfl rfl), rfl⟩ : ∃ M T N, ps_P[11]? = some M ∧ px_lnk ps_wl "MoveOrder" 64 M 2 (px_fr pm_Mo_box) (px_lo pm_Mo_box) ∧ px_hh M = [] ∧ Cond.instanceMethod M.1 ∈ ps_wl ∧ Cond.selects M.1.cls M.1 M.1 ∈ ps_wl ∧ ps_cl[0]? = some (M.1.cls, T, N)), List.forall_mem_cons.mpr ⟨(⟨_, _, _, rfl, ⟨Or.inl (ps_in 324 rfl rfl), (ps_in 54 rfl rfl), ⟨by decide +kernel, by decide +kernel, by decide +kernel⟩, by decide +kernel, by decide +kernel⟩, rfl, (ps_in 326 rfl rfl), (ps_in 12 rfl rfl), rfl⟩ : ∃ M T N, ps_P[13]? = some M ∧ px_lnk ps_wl "MoveOrder" 67 M 1 (px_fr pm_Mo_box) (px_lo pm_Mo_box) ∧ px_hh M = [] ∧ Cond.instanceMethod M.1 ∈ ps_wl ∧ Cond.selects M.1.cls M.1 M.1 ∈ ps_wl ∧ ps_cl[0]? = some (M.1.cls, T, N)), List.forall_mem_cons.mpr ⟨pk_8 ⟨rfl, pw_Mo_75, by decide +kernel, by decide +kernel, pk_thr (by
    show ∀ q ∈ [(75, Instr.new 71, 3)], _
    exact List.forall_mem_cons.mpr ⟨⟨73, "no room for one more box", List.mem_of_getElem? (i := 1) rfl, by decide +kernel, by decide +kernel, by decide +kernel, by decide +kernel⟩, pk_nil⟩)⟩, List.forall_mem_cons.mpr ⟨pk_1 ⟨_, rfl, ⟨Or.inr ⟨_, (ps_in 348 rfl rfl)⟩, (ps_in 64 rfl rfl), ⟨by decide +kernel, by decide +kernel, by decide +kernel⟩, by decide +kernel, by decide +kernel⟩, rfl, rfl, rfl, (ps_in 349 rfl rfl)⟩, List.forall_mem_cons.mpr ⟨(⟨_, _, _, rfl, ⟨Or.inr ⟨_, (ps_in 220 rfl rfl)⟩, (ps_in 56 rfl rfl), ⟨by decide +kernel, by decide +kernel, by decide +kernel⟩, by decide +kernel, by decide +kernel⟩, rfl, (ps_in 222 rfl rfl), (ps_in 6 rfl rfl), rfl⟩ : ∃ M T N, ps_P[8]? = some M ∧ px_lnk ps_wl "MoveOrder" 79 M 0 (px_fr pm_Mo_box) (px_lo pm_Mo_box) ∧ px_hh M = [] ∧ Cond.instanceMethod M.1 ∈ ps_wl ∧ Cond.selects M.1.cls M.1 M.1 ∈ ps_wl ∧ ps_cl[1]? = some (M.1.cls, T, N)), pk_nil⟩⟩⟩⟩⟩⟩⟩⟩⟩⟩⟩, pk_nil, rfl, by decide +kernel, (ps_in 251 rfl rfl)⟩
set_option maxRecDepth 100000 in
theorem ok_Mo_boxesAt : px_okM ps_V ps_P pm_Mo_boxesAt := ⟨pk_co (by decide +kernel) (pk_fin (by
    show ∀ q ∈ [], _
    exact pk_nil)), List.forall_mem_cons.mpr ⟨pk_0 ⟨_, _, _, rfl, by decide +kernel, rfl, Or.inl (ps_in 173 rfl rfl)⟩, List.forall_mem_cons.mpr ⟨(⟨_, _, _, rfl, ⟨Or.inl (ps_in 195 rfl rfl), (ps_in 54 rfl rfl), ⟨by decide +kernel, by decide +kernel, by decide +kernel⟩, by decide +kernel, by decide +kernel⟩, rfl, (ps_in 197 rfl rfl), (ps_in 0 rfl rfl), rfl⟩ : ∃ M T N, ps_P[4]? = some M ∧ px_lnk ps_wl "MoveOrder" 82 M 1 (px_fr pm_Mo_boxesAt) (px_lo pm_Mo_boxesAt) ∧ px_hh M = [] ∧ Cond.instanceMethod M.1 ∈ ps_wl ∧ Cond.selects M.1.cls M.1 M.1 ∈ ps_wl ∧ ps_cl[0]? = some (M.1.cls, T, N)), List.forall_mem_cons.mpr ⟨pk_0 ⟨_, _, _, rfl, by decide +kernel, rfl, Or.inr ⟨_, (ps_in 359 rfl rfl)⟩⟩, pk_nil⟩⟩⟩, pk_nil, rfl, by decide +kernel, (ps_in 231 rfl rfl)⟩
set_option maxRecDepth 100000 in
theorem ok_Bay_movesLeft : px_okM ps_V ps_P pm_Bay_movesLeft := ⟨pk_co (by decide +kernel) (pk_fin (by
    show ∀ q ∈ [], _
    exact pk_nil)), List.forall_mem_cons.mpr ⟨pk_0 ⟨_, _, _, rfl, by decide +kernel, rfl, Or.inl (ps_in 95 rfl rfl)⟩, List.forall_mem_cons.mpr ⟨pk_0 ⟨_, _, _, rfl, by decide +kernel, rfl, Or.inl (ps_in 97 rfl rfl)⟩, List.forall_mem_cons.mpr ⟨pk_0 ⟨_, _, _, rfl, by decide +kernel, rfl, Or.inl (ps_in 99 rfl rfl)⟩, pk_nil⟩⟩⟩, pk_nil, rfl, by decide +kernel, (ps_in 239 rfl rfl)⟩
set_option maxRecDepth 100000 in
theorem ok_Mo_countOfBay : px_okM ps_V ps_P pm_Mo_countOfBay := ⟨pk_co (by decide +kernel) (pk_fin (by
    show ∀ q ∈ [], _
    exact pk_nil)), List.forall_mem_cons.mpr ⟨(⟨_, _, _, rfl, ⟨Or.inl (ps_in 216 rfl rfl), (ps_in 54 rfl rfl), ⟨by decide +kernel, by decide +kernel, by decide +kernel⟩, by decide +kernel, by decide +kernel⟩, rfl, (ps_in 218 rfl rfl), (ps_in 5 rfl rfl), rfl⟩ : ∃ M T N, ps_P[3]? = some M ∧ px_lnk ps_wl "MoveOrder" 53 M 1 (px_fr pm_Mo_countOfBay) (px_lo pm_Mo_countOfBay) ∧ px_hh M = [] ∧ Cond.instanceMethod M.1 ∈ ps_wl ∧ Cond.selects M.1.cls M.1 M.1 ∈ ps_wl ∧ ps_cl[0]? = some (M.1.cls, T, N)), List.forall_mem_cons.mpr ⟨pk_0 ⟨_, _, _, rfl, by decide +kernel, rfl, Or.inr ⟨_, (ps_in 102 rfl rfl)⟩⟩, List.forall_mem_cons.mpr ⟨(⟨_, _, _, rfl, ⟨Or.inr ⟨_, (ps_in 236 rfl rfl)⟩, (ps_in 56 rfl rfl), ⟨by decide +kernel, by decide +kernel, by decide +kernel⟩, by decide +kernel, by decide +kernel⟩, rfl, (ps_in 238 rfl rfl), (ps_in 9 rfl rfl), rfl⟩ : ∃ M T N, ps_P[17]? = some M ∧ px_lnk ps_wl "MoveOrder" 162 M 0 (px_fr pm_Mo_countOfBay) (px_lo pm_Mo_countOfBay) ∧ px_hh M = [] ∧ Cond.instanceMethod M.1 ∈ ps_wl ∧ Cond.selects M.1.cls M.1 M.1 ∈ ps_wl ∧ ps_cl[1]? = some (M.1.cls, T, N)), pk_nil⟩⟩⟩, pk_nil, rfl, by decide +kernel, (ps_in 235 rfl rfl)⟩
set_option maxRecDepth 100000 in
theorem ok_Mo_count : px_okM ps_V ps_P pm_Mo_count := ⟨pk_co (by decide +kernel) (pk_fin (by
    show ∀ q ∈ [], _
    exact pk_nil)), List.forall_mem_cons.mpr ⟨pk_0 ⟨_, _, _, rfl, by decide +kernel, rfl, Or.inl (ps_in 173 rfl rfl)⟩, List.forall_mem_cons.mpr ⟨pk_0 ⟨_, _, _, rfl, by decide +kernel, rfl, Or.inl (ps_in 174 rfl rfl)⟩, List.forall_mem_cons.mpr ⟨pk_0 ⟨_, _, _, rfl, by decide +kernel, rfl, Or.inl (ps_in 175 rfl rfl)⟩, List.forall_mem_cons.mpr ⟨(⟨_, _, _, rfl, ⟨Or.inl (ps_in 228 rfl rfl), (ps_in 54 rfl rfl), ⟨by decide +kernel, by decide +kernel, by decide +kernel⟩, by decide +kernel, by decide +kernel⟩, rfl, (ps_in 230 rfl rfl), (ps_in 7 rfl rfl), rfl⟩ : ∃ M T N, ps_P[16]? = some M ∧ px_lnk ps_wl "MoveOrder" 194 M 1 (px_fr pm_Mo_count) (px_lo pm_Mo_count) ∧ px_hh M = [] ∧ Cond.instanceMethod M.1 ∈ ps_wl ∧ Cond.selects M.1.cls M.1 M.1 ∈ ps_wl ∧ ps_cl[0]? = some (M.1.cls, T, N)), List.forall_mem_cons.mpr ⟨(⟨_, _, _, rfl, ⟨Or.inl (ps_in 232 rfl rfl), (ps_in 54 rfl rfl), ⟨by decide +kernel, by decide +kernel, by decide +kernel⟩, by decide +kernel, by decide +kernel⟩, rfl, (ps_in 234 rfl rfl), (ps_in 8 rfl rfl), rfl⟩ : ∃ M T N, ps_P[18]? = some M ∧ px_lnk ps_wl "MoveOrder" 197 M 1 (px_fr pm_Mo_count) (px_lo pm_Mo_count) ∧ px_hh M = [] ∧ Cond.instanceMethod M.1 ∈ ps_wl ∧ Cond.selects M.1.cls M.1 M.1 ∈ ps_wl ∧ ps_cl[0]? = some (M.1.cls, T, N)), pk_nil⟩⟩⟩⟩⟩, pk_nil, rfl, by decide +kernel, (ps_in 227 rfl rfl)⟩
set_option maxRecDepth 100000 in
theorem ok_Bay_hasMove : px_okM ps_V ps_P pm_Bay_hasMove := ⟨pk_co (by decide +kernel) (pk_fin (by
    show ∀ q ∈ [], _
    exact pk_nil)), List.forall_mem_cons.mpr ⟨pk_0 ⟨_, _, _, rfl, by decide +kernel, rfl, Or.inl (ps_in 95 rfl rfl)⟩, List.forall_mem_cons.mpr ⟨pk_0 ⟨_, _, _, rfl, by decide +kernel, rfl, Or.inl (ps_in 97 rfl rfl)⟩, pk_nil⟩⟩, pk_nil, rfl, by decide +kernel, (ps_in 451 rfl rfl)⟩
set_option maxRecDepth 100000 in
theorem ok_Bay_movesOutLeft : px_okM ps_V ps_P pm_Bay_movesOutLeft := ⟨pk_co (by decide +kernel) (pk_fin (by
    show ∀ q ∈ [], _
    exact pk_nil)), List.forall_mem_cons.mpr ⟨pk_0 ⟨_, _, _, rfl, by decide +kernel, rfl, Or.inl (ps_in 93 rfl rfl)⟩, List.forall_mem_cons.mpr ⟨pk_0 ⟨_, _, _, rfl, by decide +kernel, rfl, Or.inl (ps_in 97 rfl rfl)⟩, List.forall_mem_cons.mpr ⟨pk_0 ⟨_, _, _, rfl, by decide +kernel, rfl, Or.inl (ps_in 99 rfl rfl)⟩, List.forall_mem_cons.mpr ⟨(⟨_, _, _, rfl, ⟨Or.inl (ps_in 448 rfl rfl), (ps_in 56 rfl rfl), ⟨by decide +kernel, by decide +kernel, by decide +kernel⟩, by decide +kernel, by decide +kernel⟩, rfl, (ps_in 450 rfl rfl), (ps_in 27 rfl rfl), rfl⟩ : ∃ M T N, ps_P[20]? = some M ∧ px_lnk ps_wl "MoveOrder$Bay" 38 M 1 (px_fr pm_Bay_movesOutLeft) (px_lo pm_Bay_movesOutLeft) ∧ px_hh M = [] ∧ Cond.instanceMethod M.1 ∈ ps_wl ∧ Cond.selects M.1.cls M.1 M.1 ∈ ps_wl ∧ ps_cl[1]? = some (M.1.cls, T, N)), pk_nil⟩⟩⟩⟩, pk_nil, rfl, by decide +kernel, (ps_in 527 rfl rfl)⟩
set_option maxRecDepth 100000 in
theorem ok_Mo_dual : px_okM ps_V ps_P pm_Mo_dual := ⟨pk_co (by decide +kernel) (pk_fin (by
    show ∀ q ∈ [], _
    exact pk_nil)), List.forall_mem_cons.mpr ⟨pk_71 ⟨(ps_in 76 rfl rfl), (ps_in 77 rfl rfl), (ps_in 55 rfl rfl), (ps_in 78 rfl rfl), by decide +kernel, by decide +kernel⟩, List.forall_mem_cons.mpr ⟨(⟨_, _, _, rfl, ⟨Or.inl (ps_in 216 rfl rfl), (ps_in 54 rfl rfl), ⟨by decide +kernel, by decide +kernel, by decide +kernel⟩, by decide +kernel, by decide +kernel⟩, rfl, (ps_in 218 rfl rfl), (ps_in 5 rfl rfl), rfl⟩ : ∃ M T N, ps_P[3]? = some M ∧ px_lnk ps_wl "MoveOrder" 53 M 1 (px_fr pm_Mo_dual) (px_lo pm_Mo_dual) ∧ px_hh M = [] ∧ Cond.instanceMethod M.1 ∈ ps_wl ∧ Cond.selects M.1.cls M.1 M.1 ∈ ps_wl ∧ ps_cl[0]? = some (M.1.cls, T, N)), List.forall_mem_cons.mpr ⟨pk_8 ⟨rfl, pw_Mo_61, by decide +kernel, by decide +kernel, pk_thr (by
    show ∀ q ∈ [(10, Instr.new 57, 3)], _
    exact List.forall_mem_cons.mpr ⟨⟨107, "no such bay", List.mem_of_getElem? (i := 2) rfl, by decide +kernel, by decide +kernel, by decide +kernel, by decide +kernel⟩, pk_nil⟩)⟩, List.forall_mem_cons.mpr ⟨pk_0 ⟨_, _, _, rfl, by decide +kernel, rfl, Or.inr ⟨_, (ps_in 96 rfl rfl)⟩⟩, List.forall_mem_cons.mpr ⟨pk_0 ⟨_, _, _, rfl, by decide +kernel, rfl, Or.inr ⟨_, (ps_in 102 rfl rfl)⟩⟩, List.forall_mem_cons.mpr ⟨(⟨_, _, _, rfl, ⟨Or.inr ⟨_, (ps_in 524 rfl rfl)⟩, (ps_in 56 rfl rfl), ⟨by decide +kernel, by decide +kernel, by decide +kernel⟩, by decide +kernel, by decide +kernel⟩, rfl, (ps_in 526 rfl rfl), (ps_in 32 rfl rfl), rfl⟩ : ∃ M T N, ps_P[21]? = some M ∧ px_lnk ps_wl "MoveOrder" 177 M 0 (px_fr pm_Mo_dual) (px_lo pm_Mo_dual) ∧ px_hh M = [] ∧ Cond.instanceMethod M.1 ∈ ps_wl ∧ Cond.selects M.1.cls M.1 M.1 ∈ ps_wl ∧ ps_cl[1]? = some (M.1.cls, T, N)), pk_nil⟩⟩⟩⟩⟩⟩, pk_nil, rfl, by decide +kernel, (ps_in 523 rfl rfl)⟩
set_option maxRecDepth 100000 in
theorem ok_Mo_hasNeeds : px_okM ps_V ps_P pm_Mo_hasNeeds := ⟨pk_co (by decide +kernel) (pk_fin (by
    show ∀ q ∈ [], _
    exact pk_nil)), List.forall_mem_cons.mpr ⟨pk_0 ⟨_, _, _, rfl, by decide +kernel, rfl, Or.inl (ps_in 173 rfl rfl)⟩, List.forall_mem_cons.mpr ⟨(⟨_, _, _, rfl, ⟨Or.inl (ps_in 195 rfl rfl), (ps_in 54 rfl rfl), ⟨by decide +kernel, by decide +kernel, by decide +kernel⟩, by decide +kernel, by decide +kernel⟩, rfl, (ps_in 197 rfl rfl), (ps_in 0 rfl rfl), rfl⟩ : ∃ M T N, ps_P[4]? = some M ∧ px_lnk ps_wl "MoveOrder" 82 M 1 (px_fr pm_Mo_hasNeeds) (px_lo pm_Mo_hasNeeds) ∧ px_hh M = [] ∧ Cond.instanceMethod M.1 ∈ ps_wl ∧ Cond.selects M.1.cls M.1 M.1 ∈ ps_wl ∧ ps_cl[0]? = some (M.1.cls, T, N)), List.forall_mem_cons.mpr ⟨(⟨_, _, _, rfl, ⟨Or.inr ⟨_, (ps_in 204 rfl rfl)⟩, (ps_in 64 rfl rfl), ⟨by decide +kernel, by decide +kernel, by decide +kernel⟩, by decide +kernel, by decide +kernel⟩, rfl, (ps_in 206 rfl rfl), (ps_in 2 rfl rfl), rfl⟩ : ∃ M T N, ps_P[6]? = some M ∧ px_lnk ps_wl "MoveOrder" 93 M 1 (px_fr pm_Mo_hasNeeds) (px_lo pm_Mo_hasNeeds) ∧ px_hh M = [] ∧ Cond.instanceMethod M.1 ∈ ps_wl ∧ Cond.selects M.1.cls M.1 M.1 ∈ ps_wl ∧ ps_cl[2]? = some (M.1.cls, T, N)), List.forall_mem_cons.mpr ⟨pk_0 ⟨_, _, _, rfl, by decide +kernel, rfl, Or.inr ⟨_, (ps_in 364 rfl rfl)⟩⟩, pk_nil⟩⟩⟩⟩, pk_nil, rfl, by decide +kernel, (ps_in 539 rfl rfl)⟩
set_option maxRecDepth 100000 in
theorem ok_Box_liesInStack : px_okM ps_V ps_P pm_Box_liesInStack := ⟨pk_co (by decide +kernel) (pk_fin (by
    show ∀ q ∈ [], _
    exact pk_nil)), List.forall_mem_cons.mpr ⟨pk_0 ⟨_, _, _, rfl, by decide +kernel, rfl, Or.inl (ps_in 357 rfl rfl)⟩, pk_nil⟩, pk_nil, rfl, by decide +kernel, (ps_in 503 rfl rfl)⟩
end
section
set_option maxRecDepth 100000 in
theorem ok_Box_liesBelow : px_okM ps_V ps_P pm_Box_liesBelow := ⟨pk_co (by decide +kernel) (pk_fin (by
    show ∀ q ∈ [], _
    exact pk_nil)), List.forall_mem_cons.mpr ⟨pk_0 ⟨_, _, _, rfl, by decide +kernel, rfl, Or.inl (ps_in 355 rfl rfl)⟩, List.forall_mem_cons.mpr ⟨pk_0 ⟨_, _, _, rfl, by decide +kernel, rfl, Or.inl (ps_in 357 rfl rfl)⟩, List.forall_mem_cons.mpr ⟨pk_0 ⟨_, _, _, rfl, by decide +kernel, rfl, Or.inl (ps_in 360 rfl rfl)⟩, pk_nil⟩⟩⟩, pk_nil, rfl, by decide +kernel, (ps_in 507 rfl rfl)⟩
set_option maxRecDepth 100000 in
theorem ok_Mo_liesAboveLeaving : px_okM ps_V ps_P pm_Mo_liesAboveLeaving := ⟨pk_co (by decide +kernel) (pk_fin (by
    show ∀ q ∈ [], _
    exact pk_nil)), List.forall_mem_cons.mpr ⟨pk_0 ⟨_, _, _, rfl, by decide +kernel, rfl, Or.inl (ps_in 173 rfl rfl)⟩, List.forall_mem_cons.mpr ⟨(⟨_, _, _, rfl, ⟨Or.inl (ps_in 195 rfl rfl), (ps_in 54 rfl rfl), ⟨by decide +kernel, by decide +kernel, by decide +kernel⟩, by decide +kernel, by decide +kernel⟩, rfl, (ps_in 197 rfl rfl), (ps_in 0 rfl rfl), rfl⟩ : ∃ M T N, ps_P[4]? = some M ∧ px_lnk ps_wl "MoveOrder" 82 M 1 (px_fr pm_Mo_liesAboveLeaving) (px_lo pm_Mo_liesAboveLeaving) ∧ px_hh M = [] ∧ Cond.instanceMethod M.1 ∈ ps_wl ∧ Cond.selects M.1.cls M.1 M.1 ∈ ps_wl ∧ ps_cl[0]? = some (M.1.cls, T, N)), List.forall_mem_cons.mpr ⟨pk_0 ⟨_, _, _, rfl, by decide +kernel, rfl, Or.inr ⟨_, (ps_in 354 rfl rfl)⟩⟩, List.forall_mem_cons.mpr ⟨(⟨_, _, _, rfl, ⟨Or.inr ⟨_, (ps_in 500 rfl rfl)⟩, (ps_in 64 rfl rfl), ⟨by decide +kernel, by decide +kernel, by decide +kernel⟩, by decide +kernel, by decide +kernel⟩, rfl, (ps_in 502 rfl rfl), (ps_in 30 rfl rfl), rfl⟩ : ∃ M T N, ps_P[24]? = some M ∧ px_lnk ps_wl "MoveOrder" 182 M 0 (px_fr pm_Mo_liesAboveLeaving) (px_lo pm_Mo_liesAboveLeaving) ∧ px_hh M = [] ∧ Cond.instanceMethod M.1 ∈ ps_wl ∧ Cond.selects M.1.cls M.1 M.1 ∈ ps_wl ∧ ps_cl[2]? = some (M.1.cls, T, N)), List.forall_mem_cons.mpr ⟨(⟨_, _, _, rfl, ⟨Or.inr ⟨_, (ps_in 504 rfl rfl)⟩, (ps_in 64 rfl rfl), ⟨by decide +kernel, by decide +kernel, by decide +kernel⟩, by decide +kernel, by decide +kernel⟩, rfl, (ps_in 506 rfl rfl), (ps_in 31 rfl rfl), rfl⟩ : ∃ M T N, ps_P[25]? = some M ∧ px_lnk ps_wl "MoveOrder" 200 M 1 (px_fr pm_Mo_liesAboveLeaving) (px_lo pm_Mo_liesAboveLeaving) ∧ px_hh M = [] ∧ Cond.instanceMethod M.1 ∈ ps_wl ∧ Cond.selects M.1.cls M.1 M.1 ∈ ps_wl ∧ ps_cl[2]? = some (M.1.cls, T, N)), pk_nil⟩⟩⟩⟩⟩, pk_nil, rfl, by decide +kernel, (ps_in 499 rfl rfl)⟩
set_option maxRecDepth 100000 in
theorem ok_Mo_least : px_okM ps_V ps_P pm_Mo_least := ⟨pk_co (by decide +kernel) (pk_fin (by
    show ∀ q ∈ [], _
    exact pk_nil)), List.forall_mem_cons.mpr ⟨pk_0 ⟨_, _, _, rfl, by decide +kernel, rfl, Or.inl (ps_in 173 rfl rfl)⟩, List.forall_mem_cons.mpr ⟨(⟨_, _, _, rfl, ⟨Or.inl (ps_in 216 rfl rfl), (ps_in 54 rfl rfl), ⟨by decide +kernel, by decide +kernel, by decide +kernel⟩, by decide +kernel, by decide +kernel⟩, rfl, (ps_in 218 rfl rfl), (ps_in 5 rfl rfl), rfl⟩ : ∃ M T N, ps_P[3]? = some M ∧ px_lnk ps_wl "MoveOrder" 53 M 1 (px_fr pm_Mo_least) (px_lo pm_Mo_least) ∧ px_hh M = [] ∧ Cond.instanceMethod M.1 ∈ ps_wl ∧ Cond.selects M.1.cls M.1 M.1 ∈ ps_wl ∧ ps_cl[0]? = some (M.1.cls, T, N)), List.forall_mem_cons.mpr ⟨pk_8 ⟨rfl, pw_Mo_61, by decide +kernel, by decide +kernel, pk_thr (by
    show ∀ q ∈ [(8, Instr.new 57, 3)], _
    exact List.forall_mem_cons.mpr ⟨⟨107, "no such bay", List.mem_of_getElem? (i := 2) rfl, by decide +kernel, by decide +kernel, by decide +kernel, by decide +kernel⟩, pk_nil⟩)⟩, List.forall_mem_cons.mpr ⟨(⟨_, _, _, rfl, ⟨Or.inl (ps_in 195 rfl rfl), (ps_in 54 rfl rfl), ⟨by decide +kernel, by decide +kernel, by decide +kernel⟩, by decide +kernel, by decide +kernel⟩, rfl, (ps_in 197 rfl rfl), (ps_in 0 rfl rfl), rfl⟩ : ∃ M T N, ps_P[4]? = some M ∧ px_lnk ps_wl "MoveOrder" 82 M 1 (px_fr pm_Mo_least) (px_lo pm_Mo_least) ∧ px_hh M = [] ∧ Cond.instanceMethod M.1 ∈ ps_wl ∧ Cond.selects M.1.cls M.1 M.1 ∈ ps_wl ∧ ps_cl[0]? = some (M.1.cls, T, N)), List.forall_mem_cons.mpr ⟨(⟨_, _, _, rfl, ⟨Or.inr ⟨_, (ps_in 328 rfl rfl)⟩, (ps_in 64 rfl rfl), ⟨by decide +kernel, by decide +kernel, by decide +kernel⟩, by decide +kernel, by decide +kernel⟩, rfl, (ps_in 330 rfl rfl), (ps_in 13 rfl rfl), rfl⟩ : ∃ M T N, ps_P[12]? = some M ∧ px_lnk ps_wl "MoveOrder" 112 M 1 (px_fr pm_Mo_least) (px_lo pm_Mo_least) ∧ px_hh M = [] ∧ Cond.instanceMethod M.1 ∈ ps_wl ∧ Cond.selects M.1.cls M.1 M.1 ∈ ps_wl ∧ ps_cl[2]? = some (M.1.cls, T, N)), List.forall_mem_cons.mpr ⟨pk_0 ⟨_, _, _, rfl, by decide +kernel, rfl, Or.inr ⟨_, (ps_in 354 rfl rfl)⟩⟩, List.forall_mem_cons.mpr ⟨(⟨_, _, _, rfl, ⟨Or.inl (ps_in 496 rfl rfl), (ps_in 54 rfl rfl), ⟨by decide +kernel, by decide +kernel, by decide +kernel⟩, by decide +kernel, by decide +kernel⟩, rfl, (ps_in 498 rfl rfl), (ps_in 29 rfl rfl), rfl⟩ : ∃ M T N, ps_P[26]? = some M ∧ px_lnk ps_wl "MoveOrder" 169 M 1 (px_fr pm_Mo_least) (px_lo pm_Mo_least) ∧ px_hh M = [] ∧ Cond.instanceMethod M.1 ∈ ps_wl ∧ Cond.selects M.1.cls M.1 M.1 ∈ ps_wl ∧ ps_cl[0]? = some (M.1.cls, T, N)), pk_nil⟩⟩⟩⟩⟩⟩⟩, pk_nil, rfl, by decide +kernel, (ps_in 495 rfl rfl)⟩
set_option maxRecDepth 100000 in
theorem ok_Mo_loads : px_okM ps_V ps_P pm_Mo_loads := ⟨pk_co (by decide +kernel) (pk_fin (by
    show ∀ q ∈ [(59, Instr.putfield 159, 3)], _
    exact List.forall_mem_cons.mpr ⟨pk_fn rfl rfl rfl, pk_nil⟩)), List.forall_mem_cons.mpr ⟨(⟨_, _, _, rfl, ⟨Or.inl (ps_in 216 rfl rfl), (ps_in 54 rfl rfl), ⟨by decide +kernel, by decide +kernel, by decide +kernel⟩, by decide +kernel, by decide +kernel⟩, rfl, (ps_in 218 rfl rfl), (ps_in 5 rfl rfl), rfl⟩ : ∃ M T N, ps_P[3]? = some M ∧ px_lnk ps_wl "MoveOrder" 53 M 1 (px_fr pm_Mo_loads) (px_lo pm_Mo_loads) ∧ px_hh M = [] ∧ Cond.instanceMethod M.1 ∈ ps_wl ∧ Cond.selects M.1.cls M.1 M.1 ∈ ps_wl ∧ ps_cl[0]? = some (M.1.cls, T, N)), List.forall_mem_cons.mpr ⟨pk_8 ⟨rfl, pw_Mo_61, by decide +kernel, by decide +kernel, pk_thr (by
    show ∀ q ∈ [(21, Instr.new 57, 3)], _
    exact List.forall_mem_cons.mpr ⟨⟨173, "no such bay, or not 1 to 100 loads", List.mem_of_getElem? (i := 5) rfl, by decide +kernel, by decide +kernel, by decide +kernel, by decide +kernel⟩, pk_nil⟩)⟩, List.forall_mem_cons.mpr ⟨pk_8 ⟨rfl, pw_Mo_75, by decide +kernel, by decide +kernel, pk_thr (by
    show ∀ q ∈ [(42, Instr.new 71, 3)], _
    exact List.forall_mem_cons.mpr ⟨⟨175, "more than 100 loads would wait", List.mem_of_getElem? (i := 6) rfl, by decide +kernel, by decide +kernel, by decide +kernel, by decide +kernel⟩, pk_nil⟩)⟩, List.forall_mem_cons.mpr ⟨pk_0 ⟨_, _, _, rfl, by decide +kernel, rfl, Or.inr ⟨_, (ps_in 102 rfl rfl)⟩⟩, pk_nil⟩⟩⟩⟩, pk_nil, rfl, by decide +kernel, (ps_in 514 rfl rfl)⟩
set_option maxRecDepth 100000 in
theorem ok_Mo_look : px_okM ps_V ps_P pm_Mo_look := ⟨pk_co (by decide +kernel) (pk_fin (by
    show ∀ q ∈ [], _
    exact pk_nil)), List.forall_mem_cons.mpr ⟨(⟨_, _, _, rfl, ⟨Or.inl (ps_in 195 rfl rfl), (ps_in 54 rfl rfl), ⟨by decide +kernel, by decide +kernel, by decide +kernel⟩, by decide +kernel, by decide +kernel⟩, rfl, (ps_in 197 rfl rfl), (ps_in 0 rfl rfl), rfl⟩ : ∃ M T N, ps_P[4]? = some M ∧ px_lnk ps_wl "MoveOrder" 82 M 1 (px_fr pm_Mo_look) (px_lo pm_Mo_look) ∧ px_hh M = [] ∧ Cond.instanceMethod M.1 ∈ ps_wl ∧ Cond.selects M.1.cls M.1 M.1 ∈ ps_wl ∧ ps_cl[0]? = some (M.1.cls, T, N)), List.forall_mem_cons.mpr ⟨pk_0 ⟨_, _, _, rfl, by decide +kernel, rfl, Or.inr ⟨_, (ps_in 356 rfl rfl)⟩⟩, List.forall_mem_cons.mpr ⟨pk_8 ⟨rfl, pw_Mo_137, by decide +kernel, by decide +kernel, pk_thr (by
    show ∀ q ∈ [(19, Instr.new 133, 3)], _
    exact List.forall_mem_cons.mpr ⟨⟨192, "no such box or what", List.mem_of_getElem? (i := 8) rfl, by decide +kernel, by decide +kernel, by decide +kernel, by decide +kernel⟩, pk_nil⟩)⟩, List.forall_mem_cons.mpr ⟨pk_0 ⟨_, _, _, rfl, by decide +kernel, rfl, Or.inr ⟨_, (ps_in 362 rfl rfl)⟩⟩, List.forall_mem_cons.mpr ⟨pk_0 ⟨_, _, _, rfl, by decide +kernel, rfl, Or.inr ⟨_, (ps_in 359 rfl rfl)⟩⟩, List.forall_mem_cons.mpr ⟨pk_0 ⟨_, _, _, rfl, by decide +kernel, rfl, Or.inr ⟨_, (ps_in 354 rfl rfl)⟩⟩, pk_nil⟩⟩⟩⟩⟩⟩, pk_nil, rfl, by decide +kernel, (ps_in 550 rfl rfl)⟩
set_option maxRecDepth 100000 in
theorem ok_Mo_move : px_okM ps_V ps_P pm_Mo_move := ⟨pk_co (by decide +kernel) (pk_fin (by
    show ∀ q ∈ [], _
    exact pk_nil)), List.forall_mem_cons.mpr ⟨(⟨_, _, _, rfl, ⟨Or.inl (ps_in 216 rfl rfl), (ps_in 54 rfl rfl), ⟨by decide +kernel, by decide +kernel, by decide +kernel⟩, by decide +kernel, by decide +kernel⟩, rfl, (ps_in 218 rfl rfl), (ps_in 5 rfl rfl), rfl⟩ : ∃ M T N, ps_P[3]? = some M ∧ px_lnk ps_wl "MoveOrder" 53 M 1 (px_fr pm_Mo_move) (px_lo pm_Mo_move) ∧ px_hh M = [] ∧ Cond.instanceMethod M.1 ∈ ps_wl ∧ Cond.selects M.1.cls M.1 M.1 ∈ ps_wl ∧ ps_cl[0]? = some (M.1.cls, T, N)), List.forall_mem_cons.mpr ⟨(⟨_, _, _, rfl, ⟨Or.inr ⟨_, (ps_in 464 rfl rfl)⟩, (ps_in 56 rfl rfl), ⟨by decide +kernel, by decide +kernel, by decide +kernel⟩, by decide +kernel, by decide +kernel⟩, rfl, (ps_in 450 rfl rfl), (ps_in 27 rfl rfl), rfl⟩ : ∃ M T N, ps_P[20]? = some M ∧ px_lnk ps_wl "MoveOrder" 130 M 1 (px_fr pm_Mo_move) (px_lo pm_Mo_move) ∧ px_hh M = [] ∧ Cond.instanceMethod M.1 ∈ ps_wl ∧ Cond.selects M.1.cls M.1 M.1 ∈ ps_wl ∧ ps_cl[1]? = some (M.1.cls, T, N)), List.forall_mem_cons.mpr ⟨pk_8 ⟨rfl, pw_Mo_137, by decide +kernel, by decide +kernel, pk_thr (by
    show ∀ q ∈ [(30, Instr.new 133, 3)], _
    exact List.forall_mem_cons.mpr ⟨⟨135, "no such bay, plan, move or what", List.mem_of_getElem? (i := 3) rfl, by decide +kernel, by decide +kernel, by decide +kernel, by decide +kernel⟩, pk_nil⟩)⟩, List.forall_mem_cons.mpr ⟨pk_0 ⟨_, _, _, rfl, by decide +kernel, rfl, Or.inr ⟨_, (ps_in 90 rfl rfl)⟩⟩, List.forall_mem_cons.mpr ⟨pk_0 ⟨_, _, _, rfl, by decide +kernel, rfl, Or.inr ⟨_, (ps_in 92 rfl rfl)⟩⟩, List.forall_mem_cons.mpr ⟨pk_0 ⟨_, _, _, rfl, by decide +kernel, rfl, Or.inr ⟨_, (ps_in 94 rfl rfl)⟩⟩, List.forall_mem_cons.mpr ⟨pk_0 ⟨_, _, _, rfl, by decide +kernel, rfl, Or.inr ⟨_, (ps_in 100 rfl rfl)⟩⟩, pk_nil⟩⟩⟩⟩⟩⟩⟩, pk_nil, rfl, by decide +kernel, (ps_in 463 rfl rfl)⟩
set_option maxRecDepth 100000 in
theorem ok_Sea_clear : px_okM ps_V ps_P pm_Sea_clear := ⟨pk_co (by decide +kernel) (pk_fin (by
    show ∀ q ∈ [(2, Instr.putfield 37, 3), (7, Instr.putfield 41, 3), (12, Instr.putfield 44, 3)], _
    exact List.forall_mem_cons.mpr ⟨pk_fn rfl rfl rfl, List.forall_mem_cons.mpr ⟨pk_fn rfl rfl rfl, List.forall_mem_cons.mpr ⟨pk_fn rfl rfl rfl, pk_nil⟩⟩⟩)), List.forall_mem_cons.mpr ⟨pk_0 ⟨_, _, _, rfl, by decide +kernel, rfl, Or.inl (ps_in 134 rfl rfl)⟩, List.forall_mem_cons.mpr ⟨pk_0 ⟨_, _, _, rfl, by decide +kernel, rfl, Or.inl (ps_in 135 rfl rfl)⟩, List.forall_mem_cons.mpr ⟨pk_0 ⟨_, _, _, rfl, by decide +kernel, rfl, Or.inl (ps_in 136 rfl rfl)⟩, pk_nil⟩⟩⟩, pk_nil, rfl, by decide +kernel, (ps_in 388 rfl rfl)⟩
set_option maxRecDepth 100000 in
theorem ok_Sea_add : px_okM ps_V ps_P pm_Sea_add := ⟨pk_co (by decide +kernel) (pk_fin (by
    show ∀ q ∈ [(51, Instr.putfield 44, 3), (77, Instr.putfield 41, 3), (110, Instr.putfield 37, 3)], _
    exact List.forall_mem_cons.mpr ⟨pk_fn rfl rfl rfl, List.forall_mem_cons.mpr ⟨pk_fn rfl rfl rfl, List.forall_mem_cons.mpr ⟨pk_fn rfl rfl rfl, pk_nil⟩⟩⟩)), List.forall_mem_cons.mpr ⟨pk_0 ⟨_, _, _, rfl, by decide +kernel, rfl, Or.inl (ps_in 126 rfl rfl)⟩, List.forall_mem_cons.mpr ⟨pk_0 ⟨_, _, _, rfl, by decide +kernel, rfl, Or.inl (ps_in 127 rfl rfl)⟩, List.forall_mem_cons.mpr ⟨pk_0 ⟨_, _, _, rfl, by decide +kernel, rfl, Or.inl (ps_in 134 rfl rfl)⟩, List.forall_mem_cons.mpr ⟨pk_0 ⟨_, _, _, rfl, by decide +kernel, rfl, Or.inl (ps_in 135 rfl rfl)⟩, List.forall_mem_cons.mpr ⟨pk_0 ⟨_, _, _, rfl, by decide +kernel, rfl, Or.inl (ps_in 136 rfl rfl)⟩, List.forall_mem_cons.mpr ⟨pk_0 ⟨_, _, _, rfl, by decide +kernel, rfl, Or.inr ⟨_, (ps_in 358 rfl rfl)⟩⟩, List.forall_mem_cons.mpr ⟨pk_0 ⟨_, _, _, rfl, by decide +kernel, rfl, Or.inr ⟨_, (ps_in 361 rfl rfl)⟩⟩, List.forall_mem_cons.mpr ⟨pk_0 ⟨_, _, _, rfl, by decide +kernel, rfl, Or.inr ⟨_, (ps_in 353 rfl rfl)⟩⟩, List.forall_mem_cons.mpr ⟨pk_0 ⟨_, _, _, rfl, by decide +kernel, rfl, Or.inr ⟨_, (ps_in 365 rfl rfl)⟩⟩, pk_nil⟩⟩⟩⟩⟩⟩⟩⟩⟩, pk_nil, rfl, by decide +kernel, (ps_in 392 rfl rfl)⟩
set_option maxRecDepth 100000 in
theorem ok_Sea_isEnd : px_okM ps_V ps_P pm_Sea_isEnd := ⟨pk_co (by decide +kernel) (pk_fin (by
    show ∀ q ∈ [], _
    exact pk_nil)), List.forall_mem_cons.mpr ⟨pk_0 ⟨_, _, _, rfl, by decide +kernel, rfl, Or.inl (ps_in 134 rfl rfl)⟩, List.forall_mem_cons.mpr ⟨pk_0 ⟨_, _, _, rfl, by decide +kernel, rfl, Or.inl (ps_in 135 rfl rfl)⟩, pk_nil⟩⟩, pk_nil, rfl, by decide +kernel, (ps_in 404 rfl rfl)⟩
set_option maxRecDepth 100000 in
theorem ok_Sea_reach : px_okM ps_V ps_P pm_Sea_reach := ⟨pk_co (by decide +kernel) (pk_fin (by
    show ∀ q ∈ [(107, Instr.putfield 50, 3), (117, Instr.putfield 47, 3)], _
    exact List.forall_mem_cons.mpr ⟨pk_fn rfl rfl rfl, List.forall_mem_cons.mpr ⟨pk_fn rfl rfl rfl, pk_nil⟩⟩)), List.forall_mem_cons.mpr ⟨pk_0 ⟨_, _, _, rfl, by decide +kernel, rfl, Or.inl (ps_in 130 rfl rfl)⟩, List.forall_mem_cons.mpr ⟨pk_0 ⟨_, _, _, rfl, by decide +kernel, rfl, Or.inl (ps_in 131 rfl rfl)⟩, List.forall_mem_cons.mpr ⟨pk_0 ⟨_, _, _, rfl, by decide +kernel, rfl, Or.inl (ps_in 132 rfl rfl)⟩, List.forall_mem_cons.mpr ⟨pk_0 ⟨_, _, _, rfl, by decide +kernel, rfl, Or.inl (ps_in 133 rfl rfl)⟩, List.forall_mem_cons.mpr ⟨pk_0 ⟨_, _, _, rfl, by decide +kernel, rfl, Or.inl (ps_in 137 rfl rfl)⟩, List.forall_mem_cons.mpr ⟨pk_0 ⟨_, _, _, rfl, by decide +kernel, rfl, Or.inl (ps_in 138 rfl rfl)⟩, List.forall_mem_cons.mpr ⟨(⟨_, _, _, rfl, ⟨Or.inl (ps_in 401 rfl rfl), (ps_in 57 rfl rfl), ⟨by decide +kernel, by decide +kernel, by decide +kernel⟩, by decide +kernel, by decide +kernel⟩, rfl, (ps_in 403 rfl rfl), (ps_in 18 rfl rfl), rfl⟩ : ∃ M T N, ps_P[33]? = some M ∧ px_lnk ps_wl "MoveOrder$Search" 114 M 1 (px_fr pm_Sea_reach) (px_lo pm_Sea_reach) ∧ px_hh M = [] ∧ Cond.instanceMethod M.1 ∈ ps_wl ∧ Cond.selects M.1.cls M.1 M.1 ∈ ps_wl ∧ ps_cl[3]? = some (M.1.cls, T, N)), pk_nil⟩⟩⟩⟩⟩⟩⟩, pk_nil, rfl, by decide +kernel, (ps_in 400 rfl rfl)⟩
set_option maxRecDepth 100000 in
theorem ok_Sea_placeOf : px_okM ps_V ps_P pm_Sea_placeOf := ⟨pk_co (by decide +kernel) (pk_fin (by
    show ∀ q ∈ [], _
    exact pk_nil)), pk_nil, pk_nil, rfl, by decide +kernel, (ps_in 415 rfl rfl)⟩
set_option maxRecDepth 100000 in
theorem ok_Sea_measureStacks : px_okM ps_V ps_P pm_Sea_measureStacks := ⟨pk_co (by decide +kernel) (pk_fin (by
    show ∀ q ∈ [], _
    exact pk_nil)), List.forall_mem_cons.mpr ⟨pk_0 ⟨_, _, _, rfl, by decide +kernel, rfl, Or.inl (ps_in 128 rfl rfl)⟩, List.forall_mem_cons.mpr ⟨pk_0 ⟨_, _, _, rfl, by decide +kernel, rfl, Or.inl (ps_in 129 rfl rfl)⟩, List.forall_mem_cons.mpr ⟨pk_0 ⟨_, _, _, rfl, by decide +kernel, rfl, Or.inl (ps_in 134 rfl rfl)⟩, List.forall_mem_cons.mpr ⟨pk_5 ⟨_, rfl, ⟨Or.inl (ps_in 413 rfl rfl), (ps_in 57 rfl rfl), ⟨by decide +kernel, by decide +kernel, by decide +kernel⟩, by decide +kernel, by decide +kernel⟩, (ps_in 414 rfl rfl), Or.inl rfl⟩, pk_nil⟩⟩⟩⟩, pk_nil, rfl, by decide +kernel, (ps_in 412 rfl rfl)⟩
set_option maxRecDepth 100000 in
theorem ok_Sea_withPlace : px_okM ps_V ps_P pm_Sea_withPlace := ⟨pk_co (by decide +kernel) (pk_fin (by
    show ∀ q ∈ [], _
    exact pk_nil)), pk_nil, pk_nil, rfl, by decide +kernel, (ps_in 426 rfl rfl)⟩
set_option maxRecDepth 100000 in
theorem ok_Sea_stepOf : px_okM ps_V ps_P pm_Sea_stepOf := ⟨pk_co (by decide +kernel) (pk_fin (by
    show ∀ q ∈ [], _
    exact pk_nil)), pk_nil, pk_nil, rfl, by decide +kernel, (ps_in 429 rfl rfl)⟩
set_option maxRecDepth 100000 in
theorem ok_Sea_tryStacks : px_okM ps_V ps_P pm_Sea_tryStacks := ⟨pk_co (by decide +kernel) (pk_fin (by
    show ∀ q ∈ [], _
    exact pk_nil)), List.forall_mem_cons.mpr ⟨pk_0 ⟨_, _, _, rfl, by decide +kernel, rfl, Or.inl (ps_in 128 rfl rfl)⟩, List.forall_mem_cons.mpr ⟨pk_0 ⟨_, _, _, rfl, by decide +kernel, rfl, Or.inl (ps_in 125 rfl rfl)⟩, List.forall_mem_cons.mpr ⟨(⟨_, _, _, rfl, ⟨Or.inl (ps_in 397 rfl rfl), (ps_in 57 rfl rfl), ⟨by decide +kernel, by decide +kernel, by decide +kernel⟩, by decide +kernel, by decide +kernel⟩, rfl, (ps_in 399 rfl rfl), (ps_in 17 rfl rfl), rfl⟩ : ∃ M T N, ps_P[34]? = some M ∧ px_lnk ps_wl "MoveOrder$Search" 69 M 3 (px_fr pm_Sea_tryStacks) (px_lo pm_Sea_tryStacks) ∧ px_hh M = [] ∧ Cond.instanceMethod M.1 ∈ ps_wl ∧ Cond.selects M.1.cls M.1 M.1 ∈ ps_wl ∧ ps_cl[3]? = some (M.1.cls, T, N)), List.forall_mem_cons.mpr ⟨pk_5 ⟨_, rfl, ⟨Or.inl (ps_in 424 rfl rfl), (ps_in 57 rfl rfl), ⟨by decide +kernel, by decide +kernel, by decide +kernel⟩, by decide +kernel, by decide +kernel⟩, (ps_in 425 rfl rfl), Or.inl rfl⟩, List.forall_mem_cons.mpr ⟨pk_5 ⟨_, rfl, ⟨Or.inl (ps_in 427 rfl rfl), (ps_in 57 rfl rfl), ⟨by decide +kernel, by decide +kernel, by decide +kernel⟩, by decide +kernel, by decide +kernel⟩, (ps_in 428 rfl rfl), Or.inl rfl⟩, pk_nil⟩⟩⟩⟩⟩, pk_nil, rfl, by decide +kernel, (ps_in 423 rfl rfl)⟩
set_option maxRecDepth 100000 in
theorem ok_Sea_mayGoOut : px_okM ps_V ps_P pm_Sea_mayGoOut := ⟨pk_co (by decide +kernel) (pk_fin (by
    show ∀ q ∈ [], _
    exact pk_nil)), List.forall_mem_cons.mpr ⟨pk_0 ⟨_, _, _, rfl, by decide +kernel, rfl, Or.inl (ps_in 126 rfl rfl)⟩, List.forall_mem_cons.mpr ⟨pk_0 ⟨_, _, _, rfl, by decide +kernel, rfl, Or.inl (ps_in 127 rfl rfl)⟩, List.forall_mem_cons.mpr ⟨pk_0 ⟨_, _, _, rfl, by decide +kernel, rfl, Or.inl (ps_in 134 rfl rfl)⟩, List.forall_mem_cons.mpr ⟨pk_0 ⟨_, _, _, rfl, by decide +kernel, rfl, Or.inl (ps_in 135 rfl rfl)⟩, List.forall_mem_cons.mpr ⟨pk_5 ⟨_, rfl, ⟨Or.inl (ps_in 413 rfl rfl), (ps_in 57 rfl rfl), ⟨by decide +kernel, by decide +kernel, by decide +kernel⟩, by decide +kernel, by decide +kernel⟩, (ps_in 414 rfl rfl), Or.inl rfl⟩, pk_nil⟩⟩⟩⟩⟩, pk_nil, rfl, by decide +kernel, (ps_in 433 rfl rfl)⟩
set_option maxRecDepth 100000 in
theorem ok_Sea_tryTop : px_okM ps_V ps_P pm_Sea_tryTop := ⟨pk_co (by decide +kernel) (pk_fin (by
    show ∀ q ∈ [], _
    exact pk_nil)), List.forall_mem_cons.mpr ⟨pk_0 ⟨_, _, _, rfl, by decide +kernel, rfl, Or.inl (ps_in 129 rfl rfl)⟩, List.forall_mem_cons.mpr ⟨(⟨_, _, _, rfl, ⟨Or.inl (ps_in 397 rfl rfl), (ps_in 57 rfl rfl), ⟨by decide +kernel, by decide +kernel, by decide +kernel⟩, by decide +kernel, by decide +kernel⟩, rfl, (ps_in 399 rfl rfl), (ps_in 17 rfl rfl), rfl⟩ : ∃ M T N, ps_P[34]? = some M ∧ px_lnk ps_wl "MoveOrder$Search" 69 M 3 (px_fr pm_Sea_tryTop) (px_lo pm_Sea_tryTop) ∧ px_hh M = [] ∧ Cond.instanceMethod M.1 ∈ ps_wl ∧ Cond.selects M.1.cls M.1 M.1 ∈ ps_wl ∧ ps_cl[3]? = some (M.1.cls, T, N)), List.forall_mem_cons.mpr ⟨(⟨_, _, _, rfl, ⟨Or.inl (ps_in 420 rfl rfl), (ps_in 57 rfl rfl), ⟨by decide +kernel, by decide +kernel, by decide +kernel⟩, by decide +kernel, by decide +kernel⟩, rfl, (ps_in 422 rfl rfl), (ps_in 22 rfl rfl), rfl⟩ : ∃ M T N, ps_P[39]? = some M ∧ px_lnk ps_wl "MoveOrder$Search" 99 M 4 (px_fr pm_Sea_tryTop) (px_lo pm_Sea_tryTop) ∧ px_hh M = [] ∧ Cond.instanceMethod M.1 ∈ ps_wl ∧ Cond.selects M.1.cls M.1 M.1 ∈ ps_wl ∧ ps_cl[3]? = some (M.1.cls, T, N)), List.forall_mem_cons.mpr ⟨(⟨_, _, _, rfl, ⟨Or.inl (ps_in 430 rfl rfl), (ps_in 57 rfl rfl), ⟨by decide +kernel, by decide +kernel, by decide +kernel⟩, by decide +kernel, by decide +kernel⟩, rfl, (ps_in 432 rfl rfl), (ps_in 23 rfl rfl), rfl⟩ : ∃ M T N, ps_P[40]? = some M ∧ px_lnk ps_wl "MoveOrder$Search" 103 M 2 (px_fr pm_Sea_tryTop) (px_lo pm_Sea_tryTop) ∧ px_hh M = [] ∧ Cond.instanceMethod M.1 ∈ ps_wl ∧ Cond.selects M.1.cls M.1 M.1 ∈ ps_wl ∧ ps_cl[3]? = some (M.1.cls, T, N)), List.forall_mem_cons.mpr ⟨pk_5 ⟨_, rfl, ⟨Or.inl (ps_in 424 rfl rfl), (ps_in 57 rfl rfl), ⟨by decide +kernel, by decide +kernel, by decide +kernel⟩, by decide +kernel, by decide +kernel⟩, (ps_in 425 rfl rfl), Or.inl rfl⟩, List.forall_mem_cons.mpr ⟨pk_5 ⟨_, rfl, ⟨Or.inl (ps_in 427 rfl rfl), (ps_in 57 rfl rfl), ⟨by decide +kernel, by decide +kernel, by decide +kernel⟩, by decide +kernel, by decide +kernel⟩, (ps_in 428 rfl rfl), Or.inl rfl⟩, pk_nil⟩⟩⟩⟩⟩⟩, pk_nil, rfl, by decide +kernel, (ps_in 419 rfl rfl)⟩
set_option maxRecDepth 100000 in
theorem ok_Sea_tryMoves : px_okM ps_V ps_P pm_Sea_tryMoves := ⟨pk_co (by decide +kernel) (pk_fin (by
    show ∀ q ∈ [], _
    exact pk_nil)), List.forall_mem_cons.mpr ⟨pk_0 ⟨_, _, _, rfl, by decide +kernel, rfl, Or.inl (ps_in 129 rfl rfl)⟩, List.forall_mem_cons.mpr ⟨pk_0 ⟨_, _, _, rfl, by decide +kernel, rfl, Or.inl (ps_in 130 rfl rfl)⟩, List.forall_mem_cons.mpr ⟨pk_0 ⟨_, _, _, rfl, by decide +kernel, rfl, Or.inl (ps_in 134 rfl rfl)⟩, List.forall_mem_cons.mpr ⟨(⟨_, _, _, rfl, ⟨Or.inl (ps_in 409 rfl rfl), (ps_in 57 rfl rfl), ⟨by decide +kernel, by decide +kernel, by decide +kernel⟩, by decide +kernel, by decide +kernel⟩, rfl, (ps_in 411 rfl rfl), (ps_in 20 rfl rfl), rfl⟩ : ∃ M T N, ps_P[36]? = some M ∧ px_lnk ps_wl "MoveOrder$Search" 89 M 1 (px_fr pm_Sea_tryMoves) (px_lo pm_Sea_tryMoves) ∧ px_hh M = [] ∧ Cond.instanceMethod M.1 ∈ ps_wl ∧ Cond.selects M.1.cls M.1 M.1 ∈ ps_wl ∧ ps_cl[3]? = some (M.1.cls, T, N)), List.forall_mem_cons.mpr ⟨(⟨_, _, _, rfl, ⟨Or.inl (ps_in 416 rfl rfl), (ps_in 57 rfl rfl), ⟨by decide +kernel, by decide +kernel, by decide +kernel⟩, by decide +kernel, by decide +kernel⟩, rfl, (ps_in 418 rfl rfl), (ps_in 21 rfl rfl), rfl⟩ : ∃ M T N, ps_P[41]? = some M ∧ px_lnk ps_wl "MoveOrder$Search" 92 M 3 (px_fr pm_Sea_tryMoves) (px_lo pm_Sea_tryMoves) ∧ px_hh M = [] ∧ Cond.instanceMethod M.1 ∈ ps_wl ∧ Cond.selects M.1.cls M.1 M.1 ∈ ps_wl ∧ ps_cl[3]? = some (M.1.cls, T, N)), List.forall_mem_cons.mpr ⟨pk_5 ⟨_, rfl, ⟨Or.inl (ps_in 413 rfl rfl), (ps_in 57 rfl rfl), ⟨by decide +kernel, by decide +kernel, by decide +kernel⟩, by decide +kernel, by decide +kernel⟩, (ps_in 414 rfl rfl), Or.inl rfl⟩, List.forall_mem_cons.mpr ⟨(⟨_, _, _, rfl, ⟨Or.inl (ps_in 420 rfl rfl), (ps_in 57 rfl rfl), ⟨by decide +kernel, by decide +kernel, by decide +kernel⟩, by decide +kernel, by decide +kernel⟩, rfl, (ps_in 422 rfl rfl), (ps_in 22 rfl rfl), rfl⟩ : ∃ M T N, ps_P[39]? = some M ∧ px_lnk ps_wl "MoveOrder$Search" 99 M 4 (px_fr pm_Sea_tryMoves) (px_lo pm_Sea_tryMoves) ∧ px_hh M = [] ∧ Cond.instanceMethod M.1 ∈ ps_wl ∧ Cond.selects M.1.cls M.1 M.1 ∈ ps_wl ∧ ps_cl[3]? = some (M.1.cls, T, N)), pk_nil⟩⟩⟩⟩⟩⟩⟩, pk_nil, rfl, by decide +kernel, (ps_in 408 rfl rfl)⟩
set_option maxRecDepth 100000 in
theorem ok_Bay_startPlan : px_okM ps_V ps_P pm_Bay_startPlan := ⟨pk_co (by decide +kernel) (pk_fin (by
    show ∀ q ∈ [(6, Instr.putfield 21, 3), (11, Instr.putfield 25, 3)], _
    exact List.forall_mem_cons.mpr ⟨pk_fn rfl rfl rfl, List.forall_mem_cons.mpr ⟨pk_fn rfl rfl rfl, pk_nil⟩⟩)), List.forall_mem_cons.mpr ⟨pk_0 ⟨_, _, _, rfl, by decide +kernel, rfl, Or.inl (ps_in 95 rfl rfl)⟩, List.forall_mem_cons.mpr ⟨pk_0 ⟨_, _, _, rfl, by decide +kernel, rfl, Or.inl (ps_in 97 rfl rfl)⟩, List.forall_mem_cons.mpr ⟨(⟨_, _, _, rfl, ⟨Or.inl (ps_in 443 rfl rfl), (ps_in 56 rfl rfl), ⟨by decide +kernel, by decide +kernel, by decide +kernel⟩, by decide +kernel, by decide +kernel⟩, rfl, (ps_in 222 rfl rfl), (ps_in 6 rfl rfl), rfl⟩ : ∃ M T N, ps_P[8]? = some M ∧ px_lnk ps_wl "MoveOrder$Bay" 35 M 0 (px_fr pm_Bay_startPlan) (px_lo pm_Bay_startPlan) ∧ px_hh M = [] ∧ Cond.instanceMethod M.1 ∈ ps_wl ∧ Cond.selects M.1.cls M.1 M.1 ∈ ps_wl ∧ ps_cl[1]? = some (M.1.cls, T, N)), pk_nil⟩⟩⟩, pk_nil, rfl, by decide +kernel, (ps_in 442 rfl rfl)⟩
set_option maxRecDepth 100000 in
theorem ok_Bay_setMove : px_okM ps_V ps_P pm_Bay_setMove := ⟨pk_co (by decide +kernel) (pk_fin (by
    show ∀ q ∈ [], _
    exact pk_nil)), List.forall_mem_cons.mpr ⟨pk_0 ⟨_, _, _, rfl, by decide +kernel, rfl, Or.inl (ps_in 89 rfl rfl)⟩, List.forall_mem_cons.mpr ⟨pk_0 ⟨_, _, _, rfl, by decide +kernel, rfl, Or.inl (ps_in 91 rfl rfl)⟩, List.forall_mem_cons.mpr ⟨pk_0 ⟨_, _, _, rfl, by decide +kernel, rfl, Or.inl (ps_in 93 rfl rfl)⟩, List.forall_mem_cons.mpr ⟨(⟨_, _, _, rfl, ⟨Or.inl (ps_in 448 rfl rfl), (ps_in 56 rfl rfl), ⟨by decide +kernel, by decide +kernel, by decide +kernel⟩, by decide +kernel, by decide +kernel⟩, rfl, (ps_in 450 rfl rfl), (ps_in 27 rfl rfl), rfl⟩ : ∃ M T N, ps_P[20]? = some M ∧ px_lnk ps_wl "MoveOrder$Bay" 38 M 1 (px_fr pm_Bay_setMove) (px_lo pm_Bay_setMove) ∧ px_hh M = [] ∧ Cond.instanceMethod M.1 ∈ ps_wl ∧ Cond.selects M.1.cls M.1 M.1 ∈ ps_wl ∧ ps_cl[1]? = some (M.1.cls, T, N)), pk_nil⟩⟩⟩⟩, pk_nil, rfl, by decide +kernel, (ps_in 447 rfl rfl)⟩
set_option maxRecDepth 100000 in
theorem ok_Sea_tellPlan : px_okM ps_V ps_P pm_Sea_tellPlan := ⟨pk_co (by decide +kernel) (pk_fin (by
    show ∀ q ∈ [], _
    exact pk_nil)), List.forall_mem_cons.mpr ⟨pk_0 ⟨_, _, _, rfl, by decide +kernel, rfl, Or.inl (ps_in 126 rfl rfl)⟩, List.forall_mem_cons.mpr ⟨pk_0 ⟨_, _, _, rfl, by decide +kernel, rfl, Or.inl (ps_in 131 rfl rfl)⟩, List.forall_mem_cons.mpr ⟨pk_0 ⟨_, _, _, rfl, by decide +kernel, rfl, Or.inl (ps_in 132 rfl rfl)⟩, List.forall_mem_cons.mpr ⟨pk_0 ⟨_, _, _, rfl, by decide +kernel, rfl, Or.inl (ps_in 138 rfl rfl)⟩, List.forall_mem_cons.mpr ⟨(⟨_, _, _, rfl, ⟨Or.inr ⟨_, (ps_in 439 rfl rfl)⟩, (ps_in 56 rfl rfl), ⟨by decide +kernel, by decide +kernel, by decide +kernel⟩, by decide +kernel, by decide +kernel⟩, rfl, (ps_in 441 rfl rfl), (ps_in 25 rfl rfl), rfl⟩ : ∃ M T N, ps_P[43]? = some M ∧ px_lnk ps_wl "MoveOrder$Search" 118 M 1 (px_fr pm_Sea_tellPlan) (px_lo pm_Sea_tellPlan) ∧ px_hh M = [] ∧ Cond.instanceMethod M.1 ∈ ps_wl ∧ Cond.selects M.1.cls M.1 M.1 ∈ ps_wl ∧ ps_cl[1]? = some (M.1.cls, T, N)), List.forall_mem_cons.mpr ⟨(⟨_, _, _, rfl, ⟨Or.inr ⟨_, (ps_in 444 rfl rfl)⟩, (ps_in 56 rfl rfl), ⟨by decide +kernel, by decide +kernel, by decide +kernel⟩, by decide +kernel, by decide +kernel⟩, rfl, (ps_in 446 rfl rfl), (ps_in 26 rfl rfl), rfl⟩ : ∃ M T N, ps_P[44]? = some M ∧ px_lnk ps_wl "MoveOrder$Search" 121 M 4 (px_fr pm_Sea_tellPlan) (px_lo pm_Sea_tellPlan) ∧ px_hh M = [] ∧ Cond.instanceMethod M.1 ∈ ps_wl ∧ Cond.selects M.1.cls M.1 M.1 ∈ ps_wl ∧ ps_cl[1]? = some (M.1.cls, T, N)), pk_nil⟩⟩⟩⟩⟩⟩, pk_nil, rfl, by decide +kernel, (ps_in 438 rfl rfl)⟩
set_option maxRecDepth 100000 in
theorem ok_Sea_forgetSeen : px_okM ps_V ps_P pm_Sea_forgetSeen := ⟨pk_co (by decide +kernel) (pk_fin (by
    show ∀ q ∈ [], _
    exact pk_nil)), List.forall_mem_cons.mpr ⟨pk_0 ⟨_, _, _, rfl, by decide +kernel, rfl, Or.inl (ps_in 130 rfl rfl)⟩, List.forall_mem_cons.mpr ⟨pk_0 ⟨_, _, _, rfl, by decide +kernel, rfl, Or.inl (ps_in 133 rfl rfl)⟩, List.forall_mem_cons.mpr ⟨pk_0 ⟨_, _, _, rfl, by decide +kernel, rfl, Or.inl (ps_in 137 rfl rfl)⟩, pk_nil⟩⟩⟩, pk_nil, rfl, by decide +kernel, (ps_in 455 rfl rfl)⟩
set_option maxRecDepth 100000 in
theorem ok_Sea_findPlan : px_okM ps_V ps_P pm_Sea_findPlan := ⟨pk_co (by decide +kernel) (pk_fin (by
    show ∀ q ∈ [(2, Instr.putfield 47, 3), (7, Instr.putfield 50, 3)], _
    exact List.forall_mem_cons.mpr ⟨pk_fn rfl rfl rfl, List.forall_mem_cons.mpr ⟨pk_fn rfl rfl rfl, pk_nil⟩⟩)), List.forall_mem_cons.mpr ⟨pk_0 ⟨_, _, _, rfl, by decide +kernel, rfl, Or.inl (ps_in 136 rfl rfl)⟩, List.forall_mem_cons.mpr ⟨pk_0 ⟨_, _, _, rfl, by decide +kernel, rfl, Or.inl (ps_in 137 rfl rfl)⟩, List.forall_mem_cons.mpr ⟨pk_0 ⟨_, _, _, rfl, by decide +kernel, rfl, Or.inl (ps_in 138 rfl rfl)⟩, List.forall_mem_cons.mpr ⟨(⟨_, _, _, rfl, ⟨Or.inl (ps_in 397 rfl rfl), (ps_in 57 rfl rfl), ⟨by decide +kernel, by decide +kernel, by decide +kernel⟩, by decide +kernel, by decide +kernel⟩, rfl, (ps_in 399 rfl rfl), (ps_in 17 rfl rfl), rfl⟩ : ∃ M T N, ps_P[34]? = some M ∧ px_lnk ps_wl "MoveOrder$Search" 69 M 3 (px_fr pm_Sea_findPlan) (px_lo pm_Sea_findPlan) ∧ px_hh M = [] ∧ Cond.instanceMethod M.1 ∈ ps_wl ∧ Cond.selects M.1.cls M.1 M.1 ∈ ps_wl ∧ ps_cl[3]? = some (M.1.cls, T, N)), List.forall_mem_cons.mpr ⟨(⟨_, _, _, rfl, ⟨Or.inl (ps_in 405 rfl rfl), (ps_in 57 rfl rfl), ⟨by decide +kernel, by decide +kernel, by decide +kernel⟩, by decide +kernel, by decide +kernel⟩, rfl, (ps_in 407 rfl rfl), (ps_in 19 rfl rfl), rfl⟩ : ∃ M T N, ps_P[42]? = some M ∧ px_lnk ps_wl "MoveOrder$Search" 73 M 1 (px_fr pm_Sea_findPlan) (px_lo pm_Sea_findPlan) ∧ px_hh M = [] ∧ Cond.instanceMethod M.1 ∈ ps_wl ∧ Cond.selects M.1.cls M.1 M.1 ∈ ps_wl ∧ ps_cl[3]? = some (M.1.cls, T, N)), List.forall_mem_cons.mpr ⟨(⟨_, _, _, rfl, ⟨Or.inr ⟨_, (ps_in 434 rfl rfl)⟩, (ps_in 56 rfl rfl), ⟨by decide +kernel, by decide +kernel, by decide +kernel⟩, by decide +kernel, by decide +kernel⟩, rfl, (ps_in 222 rfl rfl), (ps_in 6 rfl rfl), rfl⟩ : ∃ M T N, ps_P[8]? = some M ∧ px_lnk ps_wl "MoveOrder$Search" 77 M 0 (px_fr pm_Sea_findPlan) (px_lo pm_Sea_findPlan) ∧ px_hh M = [] ∧ Cond.instanceMethod M.1 ∈ ps_wl ∧ Cond.selects M.1.cls M.1 M.1 ∈ ps_wl ∧ ps_cl[1]? = some (M.1.cls, T, N)), List.forall_mem_cons.mpr ⟨(⟨_, _, _, rfl, ⟨Or.inl (ps_in 435 rfl rfl), (ps_in 57 rfl rfl), ⟨by decide +kernel, by decide +kernel, by decide +kernel⟩, by decide +kernel, by decide +kernel⟩, rfl, (ps_in 437 rfl rfl), (ps_in 24 rfl rfl), rfl⟩ : ∃ M T N, ps_P[45]? = some M ∧ px_lnk ps_wl "MoveOrder$Search" 82 M 1 (px_fr pm_Sea_findPlan) (px_lo pm_Sea_findPlan) ∧ px_hh M = [] ∧ Cond.instanceMethod M.1 ∈ ps_wl ∧ Cond.selects M.1.cls M.1 M.1 ∈ ps_wl ∧ ps_cl[3]? = some (M.1.cls, T, N)), List.forall_mem_cons.mpr ⟨(⟨_, _, _, rfl, ⟨Or.inl (ps_in 452 rfl rfl), (ps_in 57 rfl rfl), ⟨by decide +kernel, by decide +kernel, by decide +kernel⟩, by decide +kernel, by decide +kernel⟩, rfl, (ps_in 454 rfl rfl), (ps_in 28 rfl rfl), rfl⟩ : ∃ M T N, ps_P[46]? = some M ∧ px_lnk ps_wl "MoveOrder$Search" 86 M 0 (px_fr pm_Sea_findPlan) (px_lo pm_Sea_findPlan) ∧ px_hh M = [] ∧ Cond.instanceMethod M.1 ∈ ps_wl ∧ Cond.selects M.1.cls M.1 M.1 ∈ ps_wl ∧ ps_cl[3]? = some (M.1.cls, T, N)), pk_nil⟩⟩⟩⟩⟩⟩⟩⟩, pk_nil, rfl, by decide +kernel, (ps_in 396 rfl rfl)⟩
set_option maxRecDepth 100000 in
theorem ok_Mo_plan : px_okM ps_V ps_P pm_Mo_plan := ⟨pk_co (by decide +kernel) (pk_fin (by
    show ∀ q ∈ [], _
    exact pk_nil)), List.forall_mem_cons.mpr ⟨pk_0 ⟨_, _, _, rfl, by decide +kernel, rfl, Or.inl (ps_in 173 rfl rfl)⟩, List.forall_mem_cons.mpr ⟨pk_0 ⟨_, _, _, rfl, by decide +kernel, rfl, Or.inl (ps_in 172 rfl rfl)⟩, List.forall_mem_cons.mpr ⟨(⟨_, _, _, rfl, ⟨Or.inl (ps_in 216 rfl rfl), (ps_in 54 rfl rfl), ⟨by decide +kernel, by decide +kernel, by decide +kernel⟩, by decide +kernel, by decide +kernel⟩, rfl, (ps_in 218 rfl rfl), (ps_in 5 rfl rfl), rfl⟩ : ∃ M T N, ps_P[3]? = some M ∧ px_lnk ps_wl "MoveOrder" 53 M 1 (px_fr pm_Mo_plan) (px_lo pm_Mo_plan) ∧ px_hh M = [] ∧ Cond.instanceMethod M.1 ∈ ps_wl ∧ Cond.selects M.1.cls M.1 M.1 ∈ ps_wl ∧ ps_cl[0]? = some (M.1.cls, T, N)), List.forall_mem_cons.mpr ⟨pk_8 ⟨rfl, pw_Mo_61, by decide +kernel, by decide +kernel, pk_thr (by
    show ∀ q ∈ [(10, Instr.new 57, 3)], _
    exact List.forall_mem_cons.mpr ⟨⟨107, "no such bay", List.mem_of_getElem? (i := 2) rfl, by decide +kernel, by decide +kernel, by decide +kernel, by decide +kernel⟩, pk_nil⟩)⟩, List.forall_mem_cons.mpr ⟨(⟨_, _, _, rfl, ⟨Or.inl (ps_in 195 rfl rfl), (ps_in 54 rfl rfl), ⟨by decide +kernel, by decide +kernel, by decide +kernel⟩, by decide +kernel, by decide +kernel⟩, rfl, (ps_in 197 rfl rfl), (ps_in 0 rfl rfl), rfl⟩ : ∃ M T N, ps_P[4]? = some M ∧ px_lnk ps_wl "MoveOrder" 82 M 1 (px_fr pm_Mo_plan) (px_lo pm_Mo_plan) ∧ px_hh M = [] ∧ Cond.instanceMethod M.1 ∈ ps_wl ∧ Cond.selects M.1.cls M.1 M.1 ∈ ps_wl ∧ ps_cl[0]? = some (M.1.cls, T, N)), List.forall_mem_cons.mpr ⟨(⟨_, _, _, rfl, ⟨Or.inr ⟨_, (ps_in 385 rfl rfl)⟩, (ps_in 57 rfl rfl), ⟨by decide +kernel, by decide +kernel, by decide +kernel⟩, by decide +kernel, by decide +kernel⟩, rfl, (ps_in 387 rfl rfl), (ps_in 14 rfl rfl), rfl⟩ : ∃ M T N, ps_P[31]? = some M ∧ px_lnk ps_wl "MoveOrder" 109 M 0 (px_fr pm_Mo_plan) (px_lo pm_Mo_plan) ∧ px_hh M = [] ∧ Cond.instanceMethod M.1 ∈ ps_wl ∧ Cond.selects M.1.cls M.1 M.1 ∈ ps_wl ∧ ps_cl[3]? = some (M.1.cls, T, N)), List.forall_mem_cons.mpr ⟨(⟨_, _, _, rfl, ⟨Or.inr ⟨_, (ps_in 328 rfl rfl)⟩, (ps_in 64 rfl rfl), ⟨by decide +kernel, by decide +kernel, by decide +kernel⟩, by decide +kernel, by decide +kernel⟩, rfl, (ps_in 330 rfl rfl), (ps_in 13 rfl rfl), rfl⟩ : ∃ M T N, ps_P[12]? = some M ∧ px_lnk ps_wl "MoveOrder" 112 M 1 (px_fr pm_Mo_plan) (px_lo pm_Mo_plan) ∧ px_hh M = [] ∧ Cond.instanceMethod M.1 ∈ ps_wl ∧ Cond.selects M.1.cls M.1 M.1 ∈ ps_wl ∧ ps_cl[2]? = some (M.1.cls, T, N)), List.forall_mem_cons.mpr ⟨(⟨_, _, _, rfl, ⟨Or.inr ⟨_, (ps_in 389 rfl rfl)⟩, (ps_in 57 rfl rfl), ⟨by decide +kernel, by decide +kernel, by decide +kernel⟩, by decide +kernel, by decide +kernel⟩, rfl, (ps_in 391 rfl rfl), (ps_in 15 rfl rfl), rfl⟩ : ∃ M T N, ps_P[32]? = some M ∧ px_lnk ps_wl "MoveOrder" 115 M 2 (px_fr pm_Mo_plan) (px_lo pm_Mo_plan) ∧ px_hh M = [] ∧ Cond.instanceMethod M.1 ∈ ps_wl ∧ Cond.selects M.1.cls M.1 M.1 ∈ ps_wl ∧ ps_cl[3]? = some (M.1.cls, T, N)), List.forall_mem_cons.mpr ⟨(⟨_, _, _, rfl, ⟨Or.inr ⟨_, (ps_in 393 rfl rfl)⟩, (ps_in 57 rfl rfl), ⟨by decide +kernel, by decide +kernel, by decide +kernel⟩, by decide +kernel, by decide +kernel⟩, rfl, (ps_in 395 rfl rfl), (ps_in 16 rfl rfl), rfl⟩ : ∃ M T N, ps_P[47]? = some M ∧ px_lnk ps_wl "MoveOrder" 119 M 1 (px_fr pm_Mo_plan) (px_lo pm_Mo_plan) ∧ px_hh M = [] ∧ Cond.instanceMethod M.1 ∈ ps_wl ∧ Cond.selects M.1.cls M.1 M.1 ∈ ps_wl ∧ ps_cl[3]? = some (M.1.cls, T, N)), List.forall_mem_cons.mpr ⟨pk_0 ⟨_, _, _, rfl, by decide +kernel, rfl, Or.inr ⟨_, (ps_in 96 rfl rfl)⟩⟩, List.forall_mem_cons.mpr ⟨pk_0 ⟨_, _, _, rfl, by decide +kernel, rfl, Or.inr ⟨_, (ps_in 98 rfl rfl)⟩⟩, pk_nil⟩⟩⟩⟩⟩⟩⟩⟩⟩⟩⟩, pk_nil, rfl, by decide +kernel, (ps_in 383 rfl rfl)⟩
set_option maxRecDepth 100000 in
theorem ok_Box_changePlaces : px_okM ps_V ps_P pm_Box_changePlaces := ⟨pk_co (by decide +kernel) (pk_fin (by
    show ∀ q ∈ [(21, Instr.putfield 18, 3), (29, Instr.putfield 21, 3), (37, Instr.putfield 24, 3), (42, Instr.putfield 18, 3), (47, Instr.putfield 21, 3), (53, Instr.putfield 24, 3)], _
    exact List.forall_mem_cons.mpr ⟨pk_fn rfl rfl rfl, List.forall_mem_cons.mpr ⟨pk_fn rfl rfl rfl, List.forall_mem_cons.mpr ⟨pk_fn rfl rfl rfl, List.forall_mem_cons.mpr ⟨pk_fn rfl rfl rfl, List.forall_mem_cons.mpr ⟨pk_fn rfl rfl rfl, List.forall_mem_cons.mpr ⟨pk_fn rfl rfl rfl, pk_nil⟩⟩⟩⟩⟩⟩)), List.forall_mem_cons.mpr ⟨pk_0 ⟨_, _, _, rfl, by decide +kernel, rfl, Or.inl (ps_in 355 rfl rfl)⟩, List.forall_mem_cons.mpr ⟨pk_0 ⟨_, _, _, rfl, by decide +kernel, rfl, Or.inl (ps_in 357 rfl rfl)⟩, List.forall_mem_cons.mpr ⟨pk_0 ⟨_, _, _, rfl, by decide +kernel, rfl, Or.inl (ps_in 360 rfl rfl)⟩, pk_nil⟩⟩⟩, pk_nil, rfl, by decide +kernel, (ps_in 543 rfl rfl)⟩
set_option maxRecDepth 100000 in
theorem ok_Mo_swap : px_okM ps_V ps_P pm_Mo_swap := ⟨pk_co (by decide +kernel) (pk_fin (by
    show ∀ q ∈ [], _
    exact pk_nil)), List.forall_mem_cons.mpr ⟨pk_8 ⟨rfl, pw_Mo_61, by decide +kernel, by decide +kernel, pk_thr (by
    show ∀ q ∈ [(22, Instr.new 57, 3)], _
    exact List.forall_mem_cons.mpr ⟨⟨180, "no such box", List.mem_of_getElem? (i := 7) rfl, by decide +kernel, by decide +kernel, by decide +kernel, by decide +kernel⟩, pk_nil⟩)⟩, List.forall_mem_cons.mpr ⟨(⟨_, _, _, rfl, ⟨Or.inl (ps_in 195 rfl rfl), (ps_in 54 rfl rfl), ⟨by decide +kernel, by decide +kernel, by decide +kernel⟩, by decide +kernel, by decide +kernel⟩, rfl, (ps_in 197 rfl rfl), (ps_in 0 rfl rfl), rfl⟩ : ∃ M T N, ps_P[4]? = some M ∧ px_lnk ps_wl "MoveOrder" 82 M 1 (px_fr pm_Mo_swap) (px_lo pm_Mo_swap) ∧ px_hh M = [] ∧ Cond.instanceMethod M.1 ∈ ps_wl ∧ Cond.selects M.1.cls M.1 M.1 ∈ ps_wl ∧ ps_cl[0]? = some (M.1.cls, T, N)), List.forall_mem_cons.mpr ⟨pk_0 ⟨_, _, _, rfl, by decide +kernel, rfl, Or.inr ⟨_, (ps_in 356 rfl rfl)⟩⟩, List.forall_mem_cons.mpr ⟨(⟨_, _, _, rfl, ⟨Or.inl (ps_in 212 rfl rfl), (ps_in 54 rfl rfl), ⟨by decide +kernel, by decide +kernel, by decide +kernel⟩, by decide +kernel, by decide +kernel⟩, rfl, (ps_in 214 rfl rfl), (ps_in 4 rfl rfl), rfl⟩ : ∃ M T N, ps_P[9]? = some M ∧ px_lnk ps_wl "MoveOrder" 104 M 1 (px_fr pm_Mo_swap) (px_lo pm_Mo_swap) ∧ px_hh M = [] ∧ Cond.instanceMethod M.1 ∈ ps_wl ∧ Cond.selects M.1.cls M.1 M.1 ∈ ps_wl ∧ ps_cl[0]? = some (M.1.cls, T, N)), List.forall_mem_cons.mpr ⟨pk_0 ⟨_, _, _, rfl, by decide +kernel, rfl, Or.inr ⟨_, (ps_in 354 rfl rfl)⟩⟩, List.forall_mem_cons.mpr ⟨(⟨_, _, _, rfl, ⟨Or.inr ⟨_, (ps_in 500 rfl rfl)⟩, (ps_in 64 rfl rfl), ⟨by decide +kernel, by decide +kernel, by decide +kernel⟩, by decide +kernel, by decide +kernel⟩, rfl, (ps_in 502 rfl rfl), (ps_in 30 rfl rfl), rfl⟩ : ∃ M T N, ps_P[24]? = some M ∧ px_lnk ps_wl "MoveOrder" 182 M 0 (px_fr pm_Mo_swap) (px_lo pm_Mo_swap) ∧ px_hh M = [] ∧ Cond.instanceMethod M.1 ∈ ps_wl ∧ Cond.selects M.1.cls M.1 M.1 ∈ ps_wl ∧ ps_cl[2]? = some (M.1.cls, T, N)), List.forall_mem_cons.mpr ⟨(⟨_, _, _, rfl, ⟨Or.inl (ps_in 536 rfl rfl), (ps_in 54 rfl rfl), ⟨by decide +kernel, by decide +kernel, by decide +kernel⟩, by decide +kernel, by decide +kernel⟩, rfl, (ps_in 538 rfl rfl), (ps_in 33 rfl rfl), rfl⟩ : ∃ M T N, ps_P[23]? = some M ∧ px_lnk ps_wl "MoveOrder" 185 M 2 (px_fr pm_Mo_swap) (px_lo pm_Mo_swap) ∧ px_hh M = [] ∧ Cond.instanceMethod M.1 ∈ ps_wl ∧ Cond.selects M.1.cls M.1 M.1 ∈ ps_wl ∧ ps_cl[0]? = some (M.1.cls, T, N)), List.forall_mem_cons.mpr ⟨(⟨_, _, _, rfl, ⟨Or.inr ⟨_, (ps_in 540 rfl rfl)⟩, (ps_in 64 rfl rfl), ⟨by decide +kernel, by decide +kernel, by decide +kernel⟩, by decide +kernel, by decide +kernel⟩, rfl, (ps_in 542 rfl rfl), (ps_in 34 rfl rfl), rfl⟩ : ∃ M T N, ps_P[49]? = some M ∧ px_lnk ps_wl "MoveOrder" 188 M 1 (px_fr pm_Mo_swap) (px_lo pm_Mo_swap) ∧ px_hh M = [] ∧ Cond.instanceMethod M.1 ∈ ps_wl ∧ Cond.selects M.1.cls M.1 M.1 ∈ ps_wl ∧ ps_cl[2]? = some (M.1.cls, T, N)), pk_nil⟩⟩⟩⟩⟩⟩⟩⟩, pk_nil, rfl, by decide +kernel, (ps_in 534 rfl rfl)⟩
set_option maxRecDepth 100000 in
theorem ok_Mo_work : px_okM ps_V ps_P pm_Mo_work := ⟨pk_co (by decide +kernel) (pk_fin (by
    show ∀ q ∈ [(91, Instr.putfield 153, 3), (98, Instr.putfield 156, 3), (108, Instr.putfield 148, 3), (118, Instr.putfield 19, 3), (141, Instr.putfield 159, 3), (151, Instr.putfield 22, 3)], _
    exact List.forall_mem_cons.mpr ⟨pk_fn rfl rfl rfl, List.forall_mem_cons.mpr ⟨pk_fn rfl rfl rfl, List.forall_mem_cons.mpr ⟨pk_fn rfl rfl rfl, List.forall_mem_cons.mpr ⟨pk_fn rfl rfl rfl, List.forall_mem_cons.mpr ⟨pk_fn rfl rfl rfl, List.forall_mem_cons.mpr ⟨pk_fn rfl rfl rfl, pk_nil⟩⟩⟩⟩⟩⟩)), List.forall_mem_cons.mpr ⟨pk_0 ⟨_, _, _, rfl, by decide +kernel, rfl, Or.inl (ps_in 174 rfl rfl)⟩, List.forall_mem_cons.mpr ⟨pk_0 ⟨_, _, _, rfl, by decide +kernel, rfl, Or.inl (ps_in 175 rfl rfl)⟩, List.forall_mem_cons.mpr ⟨(⟨_, _, _, rfl, ⟨Or.inl (ps_in 216 rfl rfl), (ps_in 54 rfl rfl), ⟨by decide +kernel, by decide +kernel, by decide +kernel⟩, by decide +kernel, by decide +kernel⟩, rfl, (ps_in 218 rfl rfl), (ps_in 5 rfl rfl), rfl⟩ : ∃ M T N, ps_P[3]? = some M ∧ px_lnk ps_wl "MoveOrder" 53 M 1 (px_fr pm_Mo_work) (px_lo pm_Mo_work) ∧ px_hh M = [] ∧ Cond.instanceMethod M.1 ∈ ps_wl ∧ Cond.selects M.1.cls M.1 M.1 ∈ ps_wl ∧ ps_cl[0]? = some (M.1.cls, T, N)), List.forall_mem_cons.mpr ⟨pk_8 ⟨rfl, pw_Mo_61, by decide +kernel, by decide +kernel, pk_thr (by
    show ∀ q ∈ [(10, Instr.new 57, 3)], _
    exact List.forall_mem_cons.mpr ⟨⟨107, "no such bay", List.mem_of_getElem? (i := 2) rfl, by decide +kernel, by decide +kernel, by decide +kernel, by decide +kernel⟩, pk_nil⟩)⟩, List.forall_mem_cons.mpr ⟨(⟨_, _, _, rfl, ⟨Or.inl (ps_in 320 rfl rfl), (ps_in 54 rfl rfl), ⟨by decide +kernel, by decide +kernel, by decide +kernel⟩, by decide +kernel, by decide +kernel⟩, rfl, (ps_in 322 rfl rfl), (ps_in 11 rfl rfl), rfl⟩ : ∃ M T N, ps_P[11]? = some M ∧ px_lnk ps_wl "MoveOrder" 64 M 2 (px_fr pm_Mo_work) (px_lo pm_Mo_work) ∧ px_hh M = [] ∧ Cond.instanceMethod M.1 ∈ ps_wl ∧ Cond.selects M.1.cls M.1 M.1 ∈ ps_wl ∧ ps_cl[0]? = some (M.1.cls, T, N)), List.forall_mem_cons.mpr ⟨pk_8 ⟨rfl, pw_Mo_75, by decide +kernel, by decide +kernel, pk_thr (by
    show ∀ q ∈ [(54, Instr.new 71, 3)], _
    exact List.forall_mem_cons.mpr ⟨⟨151, "no plan, or no move left of it", List.mem_of_getElem? (i := 4) rfl, by decide +kernel, by decide +kernel, by decide +kernel, by decide +kernel⟩, pk_nil⟩)⟩, List.forall_mem_cons.mpr ⟨(⟨_, _, _, rfl, ⟨Or.inl (ps_in 195 rfl rfl), (ps_in 54 rfl rfl), ⟨by decide +kernel, by decide +kernel, by decide +kernel⟩, by decide +kernel, by decide +kernel⟩, rfl, (ps_in 197 rfl rfl), (ps_in 0 rfl rfl), rfl⟩ : ∃ M T N, ps_P[4]? = some M ∧ px_lnk ps_wl "MoveOrder" 82 M 1 (px_fr pm_Mo_work) (px_lo pm_Mo_work) ∧ px_hh M = [] ∧ Cond.instanceMethod M.1 ∈ ps_wl ∧ Cond.selects M.1.cls M.1 M.1 ∈ ps_wl ∧ ps_cl[0]? = some (M.1.cls, T, N)), List.forall_mem_cons.mpr ⟨(⟨_, _, _, rfl, ⟨Or.inr ⟨_, (ps_in 464 rfl rfl)⟩, (ps_in 56 rfl rfl), ⟨by decide +kernel, by decide +kernel, by decide +kernel⟩, by decide +kernel, by decide +kernel⟩, rfl, (ps_in 450 rfl rfl), (ps_in 27 rfl rfl), rfl⟩ : ∃ M T N, ps_P[20]? = some M ∧ px_lnk ps_wl "MoveOrder" 130 M 1 (px_fr pm_Mo_work) (px_lo pm_Mo_work) ∧ px_hh M = [] ∧ Cond.instanceMethod M.1 ∈ ps_wl ∧ Cond.selects M.1.cls M.1 M.1 ∈ ps_wl ∧ ps_cl[1]? = some (M.1.cls, T, N)), List.forall_mem_cons.mpr ⟨pk_0 ⟨_, _, _, rfl, by decide +kernel, rfl, Or.inr ⟨_, (ps_in 90 rfl rfl)⟩⟩, List.forall_mem_cons.mpr ⟨pk_0 ⟨_, _, _, rfl, by decide +kernel, rfl, Or.inr ⟨_, (ps_in 94 rfl rfl)⟩⟩, List.forall_mem_cons.mpr ⟨pk_0 ⟨_, _, _, rfl, by decide +kernel, rfl, Or.inr ⟨_, (ps_in 100 rfl rfl)⟩⟩, List.forall_mem_cons.mpr ⟨pk_0 ⟨_, _, _, rfl, by decide +kernel, rfl, Or.inr ⟨_, (ps_in 362 rfl rfl)⟩⟩, List.forall_mem_cons.mpr ⟨pk_0 ⟨_, _, _, rfl, by decide +kernel, rfl, Or.inr ⟨_, (ps_in 359 rfl rfl)⟩⟩, List.forall_mem_cons.mpr ⟨pk_0 ⟨_, _, _, rfl, by decide +kernel, rfl, Or.inr ⟨_, (ps_in 102 rfl rfl)⟩⟩, List.forall_mem_cons.mpr ⟨(⟨_, _, _, rfl, ⟨Or.inr ⟨_, (ps_in 236 rfl rfl)⟩, (ps_in 56 rfl rfl), ⟨by decide +kernel, by decide +kernel, by decide +kernel⟩, by decide +kernel, by decide +kernel⟩, rfl, (ps_in 238 rfl rfl), (ps_in 9 rfl rfl), rfl⟩ : ∃ M T N, ps_P[17]? = some M ∧ px_lnk ps_wl "MoveOrder" 162 M 0 (px_fr pm_Mo_work) (px_lo pm_Mo_work) ∧ px_hh M = [] ∧ Cond.instanceMethod M.1 ∈ ps_wl ∧ Cond.selects M.1.cls M.1 M.1 ∈ ps_wl ∧ ps_cl[1]? = some (M.1.cls, T, N)), pk_nil⟩⟩⟩⟩⟩⟩⟩⟩⟩⟩⟩⟩⟩⟩⟩, pk_nil, rfl, by decide +kernel, (ps_in 487 rfl rfl)⟩
end
section
set_option maxRecDepth 100000 in
theorem ok_Law_box : px_okM ps_V ps_P pm_Law_box := ⟨pk_co (by decide +kernel) (pk_fin (by
    show ∀ q ∈ [], _
    exact pk_nil)), List.forall_mem_cons.mpr ⟨(⟨_, _, _, rfl, ⟨Or.inl (ps_in 248 rfl rfl), (ps_in 54 rfl rfl), ⟨by decide +kernel, by decide +kernel, by decide +kernel⟩, by decide +kernel, by decide +kernel⟩, rfl, (ps_in 248 rfl rfl), (ps_in 249 rfl rfl), (ps_in 250 rfl rfl), rfl⟩ : ∃ M T N, ps_P[15]? = some M ∧ px_lnk ps_wl "MoveOrderLaw" 7 M 3 (px_fr pm_Law_box) (px_lo pm_Law_box) ∧ px_hh M = [] ∧ Cond.methodLink "MoveOrderLaw" 7 M.1 ∈ ps_wl ∧ Cond.instanceMethod M.1 ∈ ps_wl ∧ Cond.selects M.1.cls M.1 M.1 ∈ ps_wl ∧ ps_cl[0]? = some (M.1.cls, T, N)), List.forall_mem_cons.mpr ⟨((ps_in 246 rfl rfl) : px_pok ps_V ps_P pm_Law_box (13, 31, 0, 0)), List.forall_mem_cons.mpr ⟨((ps_in 247 rfl rfl) : px_pok ps_V ps_P pm_Law_box (15, 32, 0, 0)), pk_nil⟩⟩⟩, List.forall_mem_cons.mpr ⟨⟨by decide +kernel, 1, rfl, by decide +kernel⟩, List.forall_mem_cons.mpr ⟨⟨by decide +kernel, 2, rfl, by decide +kernel⟩, pk_nil⟩⟩, rfl, by decide +kernel, (ps_in 245 rfl rfl)⟩
set_option maxRecDepth 100000 in
theorem ok_Law_cell : px_okM ps_V ps_P pm_Law_cell := ⟨pk_co (by decide +kernel) (pk_fin (by
    show ∀ q ∈ [], _
    exact pk_nil)), pk_nil, pk_nil, rfl, by decide +kernel, (ps_in 242 rfl rfl)⟩
set_option maxRecDepth 100000 in
theorem ok_Law_dual : px_okM ps_V ps_P pm_Law_dual := ⟨pk_co (by decide +kernel) (pk_fin (by
    show ∀ q ∈ [], _
    exact pk_nil)), List.forall_mem_cons.mpr ⟨(⟨_, _, _, rfl, ⟨Or.inl (ps_in 520 rfl rfl), (ps_in 54 rfl rfl), ⟨by decide +kernel, by decide +kernel, by decide +kernel⟩, by decide +kernel, by decide +kernel⟩, rfl, (ps_in 520 rfl rfl), (ps_in 521 rfl rfl), (ps_in 522 rfl rfl), rfl⟩ : ∃ M T N, ps_P[22]? = some M ∧ px_lnk ps_wl "MoveOrderLaw" 36 M 1 (px_fr pm_Law_dual) (px_lo pm_Law_dual) ∧ px_hh M = [] ∧ Cond.methodLink "MoveOrderLaw" 36 M.1 ∈ ps_wl ∧ Cond.instanceMethod M.1 ∈ ps_wl ∧ Cond.selects M.1.cls M.1 M.1 ∈ ps_wl ∧ ps_cl[0]? = some (M.1.cls, T, N)), List.forall_mem_cons.mpr ⟨((ps_in 246 rfl rfl) : px_pok ps_V ps_P pm_Law_dual (13, 31, 0, 0)), pk_nil⟩⟩, List.forall_mem_cons.mpr ⟨⟨by decide +kernel, 1, rfl, by decide +kernel⟩, pk_nil⟩, rfl, by decide +kernel, (ps_in 519 rfl rfl)⟩
set_option maxRecDepth 100000 in
theorem ok_Ref_init : px_okM ps_V ps_P pm_Ref_init := ⟨pk_co (by decide +kernel) (pk_fin (by
    show ∀ q ∈ [(9, Instr.putfield 7, 3), (17, Instr.putfield 13, 3), (25, Instr.putfield 16, 3), (33, Instr.putfield 19, 3), (42, Instr.putfield 22, 3), (49, Instr.putfield 26, 3), (56, Instr.putfield 29, 3), (63, Instr.putfield 32, 3), (70, Instr.putfield 35, 3), (79, Instr.putfield 38, 3), (88, Instr.putfield 41, 3), (97, Instr.putfield 44, 3), (106, Instr.putfield 47, 3), (115, Instr.putfield 51, 3), (124, Instr.putfield 54, 3), (133, Instr.putfield 57, 3), (140, Instr.putfield 60, 3), (163, Instr.putfield 63, 3), (186, Instr.putfield 67, 3)], _
    exact List.forall_mem_cons.mpr ⟨pk_ff rfl rfl rfl rfl rfl (ps_in 562 rfl rfl), List.forall_mem_cons.mpr ⟨pk_ff rfl rfl rfl rfl rfl (ps_in 563 rfl rfl), List.forall_mem_cons.mpr ⟨pk_ff rfl rfl rfl rfl rfl (ps_in 564 rfl rfl), List.forall_mem_cons.mpr ⟨pk_ff rfl rfl rfl rfl rfl (ps_in 565 rfl rfl), List.forall_mem_cons.mpr ⟨pk_ff rfl rfl rfl rfl rfl (ps_in 566 rfl rfl), List.forall_mem_cons.mpr ⟨pk_ff rfl rfl rfl rfl rfl (ps_in 567 rfl rfl), List.forall_mem_cons.mpr ⟨pk_ff rfl rfl rfl rfl rfl (ps_in 570 rfl rfl), List.forall_mem_cons.mpr ⟨pk_ff rfl rfl rfl rfl rfl (ps_in 571 rfl rfl), List.forall_mem_cons.mpr ⟨pk_ff rfl rfl rfl rfl rfl (ps_in 572 rfl rfl), List.forall_mem_cons.mpr ⟨pk_ff rfl rfl rfl rfl rfl (ps_in 573 rfl rfl), List.forall_mem_cons.mpr ⟨pk_ff rfl rfl rfl rfl rfl (ps_in 574 rfl rfl), List.forall_mem_cons.mpr ⟨pk_ff rfl rfl rfl rfl rfl (ps_in 575 rfl rfl), List.forall_mem_cons.mpr ⟨pk_ff rfl rfl rfl rfl rfl (ps_in 576 rfl rfl), List.forall_mem_cons.mpr ⟨pk_ff rfl rfl rfl rfl rfl (ps_in 577 rfl rfl), List.forall_mem_cons.mpr ⟨pk_ff rfl rfl rfl rfl rfl (ps_in 578 rfl rfl), List.forall_mem_cons.mpr ⟨pk_ff rfl rfl rfl rfl rfl (ps_in 580 rfl rfl), List.forall_mem_cons.mpr ⟨pk_ff rfl rfl rfl rfl rfl (ps_in 581 rfl rfl), List.forall_mem_cons.mpr ⟨pk_ff rfl rfl rfl rfl rfl (ps_in 559 rfl rfl), List.forall_mem_cons.mpr ⟨pk_ff rfl rfl rfl rfl rfl (ps_in 560 rfl rfl), pk_nil⟩⟩⟩⟩⟩⟩⟩⟩⟩⟩⟩⟩⟩⟩⟩⟩⟩⟩⟩)), List.forall_mem_cons.mpr ⟨pk_6 ⟨(ps_in 557 rfl rfl), (ps_in 72 rfl rfl), (ps_in 73 rfl rfl), by decide +kernel, by decide +kernel⟩, List.forall_mem_cons.mpr ⟨pk_0 ⟨_, _, _, rfl, by decide +kernel, rfl, Or.inl (ps_in 562 rfl rfl)⟩, List.forall_mem_cons.mpr ⟨pk_0 ⟨_, _, _, rfl, by decide +kernel, rfl, Or.inl (ps_in 563 rfl rfl)⟩, List.forall_mem_cons.mpr ⟨pk_0 ⟨_, _, _, rfl, by decide +kernel, rfl, Or.inl (ps_in 564 rfl rfl)⟩, List.forall_mem_cons.mpr ⟨pk_0 ⟨_, _, _, rfl, by decide +kernel, rfl, Or.inl (ps_in 565 rfl rfl)⟩, List.forall_mem_cons.mpr ⟨pk_0 ⟨_, _, _, rfl, by decide +kernel, rfl, Or.inl (ps_in 566 rfl rfl)⟩, List.forall_mem_cons.mpr ⟨pk_0 ⟨_, _, _, rfl, by decide +kernel, rfl, Or.inl (ps_in 567 rfl rfl)⟩, List.forall_mem_cons.mpr ⟨pk_0 ⟨_, _, _, rfl, by decide +kernel, rfl, Or.inl (ps_in 570 rfl rfl)⟩, List.forall_mem_cons.mpr ⟨pk_0 ⟨_, _, _, rfl, by decide +kernel, rfl, Or.inl (ps_in 571 rfl rfl)⟩, List.forall_mem_cons.mpr ⟨pk_0 ⟨_, _, _, rfl, by decide +kernel, rfl, Or.inl (ps_in 572 rfl rfl)⟩, List.forall_mem_cons.mpr ⟨pk_0 ⟨_, _, _, rfl, by decide +kernel, rfl, Or.inl (ps_in 573 rfl rfl)⟩, List.forall_mem_cons.mpr ⟨pk_0 ⟨_, _, _, rfl, by decide +kernel, rfl, Or.inl (ps_in 574 rfl rfl)⟩, List.forall_mem_cons.mpr ⟨pk_0 ⟨_, _, _, rfl, by decide +kernel, rfl, Or.inl (ps_in 575 rfl rfl)⟩, List.forall_mem_cons.mpr ⟨pk_0 ⟨_, _, _, rfl, by decide +kernel, rfl, Or.inl (ps_in 576 rfl rfl)⟩, List.forall_mem_cons.mpr ⟨pk_0 ⟨_, _, _, rfl, by decide +kernel, rfl, Or.inl (ps_in 577 rfl rfl)⟩, List.forall_mem_cons.mpr ⟨pk_0 ⟨_, _, _, rfl, by decide +kernel, rfl, Or.inl (ps_in 578 rfl rfl)⟩, List.forall_mem_cons.mpr ⟨pk_0 ⟨_, _, _, rfl, by decide +kernel, rfl, Or.inl (ps_in 580 rfl rfl)⟩, List.forall_mem_cons.mpr ⟨pk_0 ⟨_, _, _, rfl, by decide +kernel, rfl, Or.inl (ps_in 581 rfl rfl)⟩, List.forall_mem_cons.mpr ⟨pk_0 ⟨_, _, _, rfl, by decide +kernel, rfl, Or.inl (ps_in 559 rfl rfl)⟩, List.forall_mem_cons.mpr ⟨pk_0 ⟨_, _, _, rfl, by decide +kernel, rfl, Or.inl (ps_in 560 rfl rfl)⟩, pk_nil⟩⟩⟩⟩⟩⟩⟩⟩⟩⟩⟩⟩⟩⟩⟩⟩⟩⟩⟩⟩, pk_nil, rfl, by decide +kernel, (ps_in 556 rfl rfl)⟩
set_option maxRecDepth 100000 in
theorem ok_Ref_isBay : px_okM ps_V ps_P pm_Ref_isBay := ⟨pk_co (by decide +kernel) (pk_fin (by
    show ∀ q ∈ [], _
    exact pk_nil)), List.forall_mem_cons.mpr ⟨pk_0 ⟨_, _, _, rfl, by decide +kernel, rfl, Or.inl (ps_in 559 rfl rfl)⟩, pk_nil⟩, pk_nil, rfl, by decide +kernel, (ps_in 646 rfl rfl)⟩
set_option maxRecDepth 100000 in
theorem ok_Ref_in : px_okM ps_V ps_P pm_Ref_in := ⟨pk_co (by decide +kernel) (pk_fin (by
    show ∀ q ∈ [], _
    exact pk_nil)), pk_nil, pk_nil, rfl, by decide +kernel, (ps_in 649 rfl rfl)⟩
set_option maxRecDepth 100000 in
theorem ok_Ref_refuse : px_okM ps_V ps_P pm_Ref_refuse := ⟨pk_co (by decide +kernel) (pk_fin (by
    show ∀ q ∈ [(2, Instr.putfield 70, 3)], _
    exact List.forall_mem_cons.mpr ⟨pk_fn rfl rfl rfl, pk_nil⟩)), List.forall_mem_cons.mpr ⟨pk_0 ⟨_, _, _, rfl, by decide +kernel, rfl, Or.inl (ps_in 558 rfl rfl)⟩, pk_nil⟩, pk_nil, rfl, by decide +kernel, (ps_in 653 rfl rfl)⟩
set_option maxRecDepth 100000 in
theorem ok_Ref_there : px_okM ps_V ps_P pm_Ref_there := ⟨pk_co (by decide +kernel) (pk_fin (by
    show ∀ q ∈ [], _
    exact pk_nil)), List.forall_mem_cons.mpr ⟨pk_0 ⟨_, _, _, rfl, by decide +kernel, rfl, Or.inl (ps_in 563 rfl rfl)⟩, List.forall_mem_cons.mpr ⟨pk_0 ⟨_, _, _, rfl, by decide +kernel, rfl, Or.inl (ps_in 564 rfl rfl)⟩, List.forall_mem_cons.mpr ⟨pk_0 ⟨_, _, _, rfl, by decide +kernel, rfl, Or.inl (ps_in 561 rfl rfl)⟩, pk_nil⟩⟩⟩, pk_nil, rfl, by decide +kernel, (ps_in 657 rfl rfl)⟩
set_option maxRecDepth 100000 in
theorem ok_Ref_height : px_okM ps_V ps_P pm_Ref_height := ⟨pk_co (by decide +kernel) (pk_fin (by
    show ∀ q ∈ [], _
    exact pk_nil)), List.forall_mem_cons.mpr ⟨pk_0 ⟨_, _, _, rfl, by decide +kernel, rfl, Or.inl (ps_in 563 rfl rfl)⟩, List.forall_mem_cons.mpr ⟨pk_0 ⟨_, _, _, rfl, by decide +kernel, rfl, Or.inl (ps_in 564 rfl rfl)⟩, List.forall_mem_cons.mpr ⟨pk_0 ⟨_, _, _, rfl, by decide +kernel, rfl, Or.inl (ps_in 561 rfl rfl)⟩, pk_nil⟩⟩⟩, pk_nil, rfl, by decide +kernel, (ps_in 661 rfl rfl)⟩
set_option maxRecDepth 100000 in
theorem ok_Ref_voids : px_okM ps_V ps_P pm_Ref_voids := ⟨pk_co (by decide +kernel) (pk_fin (by
    show ∀ q ∈ [], _
    exact pk_nil)), List.forall_mem_cons.mpr ⟨pk_0 ⟨_, _, _, rfl, by decide +kernel, rfl, Or.inl (ps_in 570 rfl rfl)⟩, pk_nil⟩, pk_nil, rfl, by decide +kernel, (ps_in 665 rfl rfl)⟩
set_option maxRecDepth 100000 in
theorem ok_Ref_box : px_okM ps_V ps_P pm_Ref_box := ⟨pk_co (by decide +kernel) (pk_fin (by
    show ∀ q ∈ [(71, Instr.putfield 70, 3), (126, Instr.putfield 73, 3)], _
    exact List.forall_mem_cons.mpr ⟨pk_fn rfl rfl rfl, List.forall_mem_cons.mpr ⟨pk_fn rfl rfl rfl, pk_nil⟩⟩)), List.forall_mem_cons.mpr ⟨pk_0 ⟨_, _, _, rfl, by decide +kernel, rfl, Or.inl (ps_in 562 rfl rfl)⟩, List.forall_mem_cons.mpr ⟨pk_0 ⟨_, _, _, rfl, by decide +kernel, rfl, Or.inl (ps_in 563 rfl rfl)⟩, List.forall_mem_cons.mpr ⟨pk_0 ⟨_, _, _, rfl, by decide +kernel, rfl, Or.inl (ps_in 564 rfl rfl)⟩, List.forall_mem_cons.mpr ⟨pk_0 ⟨_, _, _, rfl, by decide +kernel, rfl, Or.inl (ps_in 565 rfl rfl)⟩, List.forall_mem_cons.mpr ⟨pk_0 ⟨_, _, _, rfl, by decide +kernel, rfl, Or.inl (ps_in 560 rfl rfl)⟩, List.forall_mem_cons.mpr ⟨pk_0 ⟨_, _, _, rfl, by decide +kernel, rfl, Or.inl (ps_in 558 rfl rfl)⟩, List.forall_mem_cons.mpr ⟨pk_0 ⟨_, _, _, rfl, by decide +kernel, rfl, Or.inl (ps_in 561 rfl rfl)⟩, List.forall_mem_cons.mpr ⟨(⟨_, _, _, rfl, ⟨Or.inl (ps_in 643 rfl rfl), (ps_in 58 rfl rfl), ⟨by decide +kernel, by decide +kernel, by decide +kernel⟩, by decide +kernel, by decide +kernel⟩, rfl, (ps_in 645 rfl rfl), (ps_in 35 rfl rfl), rfl⟩ : ∃ M T N, ps_P[56]? = some M ∧ px_lnk ps_wl "MoveOrderModel" 76 M 1 (px_fr pm_Ref_box) (px_lo pm_Ref_box) ∧ px_hh M = [] ∧ Cond.instanceMethod M.1 ∈ ps_wl ∧ Cond.selects M.1.cls M.1 M.1 ∈ ps_wl ∧ ps_cl[4]? = some (M.1.cls, T, N)), List.forall_mem_cons.mpr ⟨pk_5 ⟨_, rfl, ⟨Or.inl (ps_in 647 rfl rfl), (ps_in 58 rfl rfl), ⟨by decide +kernel, by decide +kernel, by decide +kernel⟩, by decide +kernel, by decide +kernel⟩, (ps_in 648 rfl rfl), Or.inl rfl⟩, List.forall_mem_cons.mpr ⟨(⟨_, _, _, rfl, ⟨Or.inl (ps_in 650 rfl rfl), (ps_in 58 rfl rfl), ⟨by decide +kernel, by decide +kernel, by decide +kernel⟩, by decide +kernel, by decide +kernel⟩, rfl, (ps_in 652 rfl rfl), (ps_in 36 rfl rfl), rfl⟩ : ∃ M T N, ps_P[58]? = some M ∧ px_lnk ps_wl "MoveOrderModel" 84 M 1 (px_fr pm_Ref_box) (px_lo pm_Ref_box) ∧ px_hh M = [] ∧ Cond.instanceMethod M.1 ∈ ps_wl ∧ Cond.selects M.1.cls M.1 M.1 ∈ ps_wl ∧ ps_cl[4]? = some (M.1.cls, T, N)), List.forall_mem_cons.mpr ⟨(⟨_, _, _, rfl, ⟨Or.inl (ps_in 654 rfl rfl), (ps_in 58 rfl rfl), ⟨by decide +kernel, by decide +kernel, by decide +kernel⟩, by decide +kernel, by decide +kernel⟩, rfl, (ps_in 656 rfl rfl), (ps_in 37 rfl rfl), rfl⟩ : ∃ M T N, ps_P[59]? = some M ∧ px_lnk ps_wl "MoveOrderModel" 88 M 1 (px_fr pm_Ref_box) (px_lo pm_Ref_box) ∧ px_hh M = [] ∧ Cond.instanceMethod M.1 ∈ ps_wl ∧ Cond.selects M.1.cls M.1 M.1 ∈ ps_wl ∧ ps_cl[4]? = some (M.1.cls, T, N)), List.forall_mem_cons.mpr ⟨(⟨_, _, _, rfl, ⟨Or.inl (ps_in 658 rfl rfl), (ps_in 58 rfl rfl), ⟨by decide +kernel, by decide +kernel, by decide +kernel⟩, by decide +kernel, by decide +kernel⟩, rfl, (ps_in 660 rfl rfl), (ps_in 38 rfl rfl), rfl⟩ : ∃ M T N, ps_P[60]? = some M ∧ px_lnk ps_wl "MoveOrderModel" 91 M 2 (px_fr pm_Ref_box) (px_lo pm_Ref_box) ∧ px_hh M = [] ∧ Cond.instanceMethod M.1 ∈ ps_wl ∧ Cond.selects M.1.cls M.1 M.1 ∈ ps_wl ∧ ps_cl[4]? = some (M.1.cls, T, N)), List.forall_mem_cons.mpr ⟨(⟨_, _, _, rfl, ⟨Or.inl (ps_in 662 rfl rfl), (ps_in 58 rfl rfl), ⟨by decide +kernel, by decide +kernel, by decide +kernel⟩, by decide +kernel, by decide +kernel⟩, rfl, (ps_in 664 rfl rfl), (ps_in 39 rfl rfl), rfl⟩ : ∃ M T N, ps_P[61]? = some M ∧ px_lnk ps_wl "MoveOrderModel" 95 M 1 (px_fr pm_Ref_box) (px_lo pm_Ref_box) ∧ px_hh M = [] ∧ Cond.instanceMethod M.1 ∈ ps_wl ∧ Cond.selects M.1.cls M.1 M.1 ∈ ps_wl ∧ ps_cl[4]? = some (M.1.cls, T, N)), pk_nil⟩⟩⟩⟩⟩⟩⟩⟩⟩⟩⟩⟩⟩, pk_nil, rfl, by decide +kernel, (ps_in 642 rfl rfl)⟩
set_option maxRecDepth 100000 in
theorem ok_Ref_thrown : px_okM ps_V ps_P pm_Ref_thrown := ⟨pk_co (by decide +kernel) (pk_fin (by
    show ∀ q ∈ [], _
    exact pk_nil)), List.forall_mem_cons.mpr ⟨pk_0 ⟨_, _, _, rfl, by decide +kernel, rfl, Or.inl (ps_in 558 rfl rfl)⟩, pk_nil⟩, pk_nil, rfl, by decide +kernel, (ps_in 638 rfl rfl)⟩
set_option maxRecDepth 100000 in
theorem ok_Ref_isBox : px_okM ps_V ps_P pm_Ref_isBox := ⟨pk_co (by decide +kernel) (pk_fin (by
    show ∀ q ∈ [], _
    exact pk_nil)), List.forall_mem_cons.mpr ⟨pk_0 ⟨_, _, _, rfl, by decide +kernel, rfl, Or.inl (ps_in 561 rfl rfl)⟩, pk_nil⟩, pk_nil, rfl, by decide +kernel, (ps_in 673 rfl rfl)⟩
set_option maxRecDepth 100000 in
theorem ok_Ref_leads : px_okM ps_V ps_P pm_Ref_leads := ⟨pk_co (by decide +kernel) (pk_fin (by
    show ∀ q ∈ [], _
    exact pk_nil)), List.forall_mem_cons.mpr ⟨pk_0 ⟨_, _, _, rfl, by decide +kernel, rfl, Or.inl (ps_in 566 rfl rfl)⟩, pk_nil⟩, pk_nil, rfl, by decide +kernel, (ps_in 677 rfl rfl)⟩
set_option maxRecDepth 100000 in
theorem ok_Ref_before : px_okM ps_V ps_P pm_Ref_before := ⟨pk_co (by decide +kernel) (pk_fin (by
    show ∀ q ∈ [(2, Instr.putfield 70, 3)], _
    exact List.forall_mem_cons.mpr ⟨pk_fn rfl rfl rfl, pk_nil⟩)), List.forall_mem_cons.mpr ⟨pk_0 ⟨_, _, _, rfl, by decide +kernel, rfl, Or.inl (ps_in 562 rfl rfl)⟩, List.forall_mem_cons.mpr ⟨pk_0 ⟨_, _, _, rfl, by decide +kernel, rfl, Or.inl (ps_in 563 rfl rfl)⟩, List.forall_mem_cons.mpr ⟨pk_0 ⟨_, _, _, rfl, by decide +kernel, rfl, Or.inl (ps_in 564 rfl rfl)⟩, List.forall_mem_cons.mpr ⟨pk_0 ⟨_, _, _, rfl, by decide +kernel, rfl, Or.inl (ps_in 566 rfl rfl)⟩, List.forall_mem_cons.mpr ⟨pk_0 ⟨_, _, _, rfl, by decide +kernel, rfl, Or.inl (ps_in 558 rfl rfl)⟩, List.forall_mem_cons.mpr ⟨(⟨_, _, _, rfl, ⟨Or.inl (ps_in 662 rfl rfl), (ps_in 58 rfl rfl), ⟨by decide +kernel, by decide +kernel, by decide +kernel⟩, by decide +kernel, by decide +kernel⟩, rfl, (ps_in 664 rfl rfl), (ps_in 39 rfl rfl), rfl⟩ : ∃ M T N, ps_P[61]? = some M ∧ px_lnk ps_wl "MoveOrderModel" 95 M 1 (px_fr pm_Ref_before) (px_lo pm_Ref_before) ∧ px_hh M = [] ∧ Cond.instanceMethod M.1 ∈ ps_wl ∧ Cond.selects M.1.cls M.1 M.1 ∈ ps_wl ∧ ps_cl[4]? = some (M.1.cls, T, N)), List.forall_mem_cons.mpr ⟨(⟨_, _, _, rfl, ⟨Or.inl (ps_in 670 rfl rfl), (ps_in 58 rfl rfl), ⟨by decide +kernel, by decide +kernel, by decide +kernel⟩, by decide +kernel, by decide +kernel⟩, rfl, (ps_in 672 rfl rfl), (ps_in 40 rfl rfl), rfl⟩ : ∃ M T N, ps_P[64]? = some M ∧ px_lnk ps_wl "MoveOrderModel" 99 M 1 (px_fr pm_Ref_before) (px_lo pm_Ref_before) ∧ px_hh M = [] ∧ Cond.instanceMethod M.1 ∈ ps_wl ∧ Cond.selects M.1.cls M.1 M.1 ∈ ps_wl ∧ ps_cl[4]? = some (M.1.cls, T, N)), List.forall_mem_cons.mpr ⟨(⟨_, _, _, rfl, ⟨Or.inl (ps_in 674 rfl rfl), (ps_in 58 rfl rfl), ⟨by decide +kernel, by decide +kernel, by decide +kernel⟩, by decide +kernel, by decide +kernel⟩, rfl, (ps_in 676 rfl rfl), (ps_in 41 rfl rfl), rfl⟩ : ∃ M T N, ps_P[65]? = some M ∧ px_lnk ps_wl "MoveOrderModel" 102 M 2 (px_fr pm_Ref_before) (px_lo pm_Ref_before) ∧ px_hh M = [] ∧ Cond.instanceMethod M.1 ∈ ps_wl ∧ Cond.selects M.1.cls M.1 M.1 ∈ ps_wl ∧ ps_cl[4]? = some (M.1.cls, T, N)), pk_nil⟩⟩⟩⟩⟩⟩⟩⟩, pk_nil, rfl, by decide +kernel, (ps_in 669 rfl rfl)⟩
set_option maxRecDepth 100000 in
theorem ok_Law_plan : px_okM ps_V ps_P pm_Law_plan := ⟨pk_co (by decide +kernel) (pk_fin (by
    show ∀ q ∈ [], _
    exact pk_nil)), List.forall_mem_cons.mpr ⟨(⟨_, _, _, rfl, ⟨Or.inl (ps_in 380 rfl rfl), (ps_in 54 rfl rfl), ⟨by decide +kernel, by decide +kernel, by decide +kernel⟩, by decide +kernel, by decide +kernel⟩, rfl, (ps_in 380 rfl rfl), (ps_in 381 rfl rfl), (ps_in 382 rfl rfl), rfl⟩ : ∃ M T N, ps_P[48]? = some M ∧ px_lnk ps_wl "MoveOrderLaw" 17 M 1 (px_fr pm_Law_plan) (px_lo pm_Law_plan) ∧ px_hh M = [] ∧ Cond.methodLink "MoveOrderLaw" 17 M.1 ∈ ps_wl ∧ Cond.instanceMethod M.1 ∈ ps_wl ∧ Cond.selects M.1.cls M.1 M.1 ∈ ps_wl ∧ ps_cl[0]? = some (M.1.cls, T, N)), List.forall_mem_cons.mpr ⟨((ps_in 246 rfl rfl) : px_pok ps_V ps_P pm_Law_plan (13, 31, 0, 0)), pk_nil⟩⟩, List.forall_mem_cons.mpr ⟨⟨by decide +kernel, 1, rfl, by decide +kernel⟩, pk_nil⟩, rfl, by decide +kernel, (ps_in 379 rfl rfl)⟩
set_option maxRecDepth 100000 in
theorem ok_Ref_begins : px_okM ps_V ps_P pm_Ref_begins := ⟨pk_co (by decide +kernel) (pk_fin (by
    show ∀ q ∈ [(2, Instr.putfield 112, 3), (63, Instr.putfield 112, 3)], _
    exact List.forall_mem_cons.mpr ⟨pk_fn rfl rfl rfl, List.forall_mem_cons.mpr ⟨pk_fn rfl rfl rfl, pk_nil⟩⟩)), List.forall_mem_cons.mpr ⟨pk_0 ⟨_, _, _, rfl, by decide +kernel, rfl, Or.inl (ps_in 563 rfl rfl)⟩, List.forall_mem_cons.mpr ⟨pk_0 ⟨_, _, _, rfl, by decide +kernel, rfl, Or.inl (ps_in 564 rfl rfl)⟩, List.forall_mem_cons.mpr ⟨pk_0 ⟨_, _, _, rfl, by decide +kernel, rfl, Or.inl (ps_in 565 rfl rfl)⟩, List.forall_mem_cons.mpr ⟨pk_0 ⟨_, _, _, rfl, by decide +kernel, rfl, Or.inl (ps_in 581 rfl rfl)⟩, List.forall_mem_cons.mpr ⟨pk_0 ⟨_, _, _, rfl, by decide +kernel, rfl, Or.inl (ps_in 561 rfl rfl)⟩, List.forall_mem_cons.mpr ⟨pk_0 ⟨_, _, _, rfl, by decide +kernel, rfl, Or.inl (ps_in 582 rfl rfl)⟩, pk_nil⟩⟩⟩⟩⟩⟩, pk_nil, rfl, by decide +kernel, (ps_in 689 rfl rfl)⟩
set_option maxRecDepth 100000 in
theorem ok_Ref_comes : px_okM ps_V ps_P pm_Ref_comes := ⟨pk_co (by decide +kernel) (pk_fin (by
    show ∀ q ∈ [(96, Instr.putfield 138, 3)], _
    exact List.forall_mem_cons.mpr ⟨pk_fn rfl rfl rfl, pk_nil⟩)), List.forall_mem_cons.mpr ⟨pk_0 ⟨_, _, _, rfl, by decide +kernel, rfl, Or.inl (ps_in 576 rfl rfl)⟩, List.forall_mem_cons.mpr ⟨pk_0 ⟨_, _, _, rfl, by decide +kernel, rfl, Or.inl (ps_in 577 rfl rfl)⟩, List.forall_mem_cons.mpr ⟨pk_0 ⟨_, _, _, rfl, by decide +kernel, rfl, Or.inl (ps_in 578 rfl rfl)⟩, List.forall_mem_cons.mpr ⟨pk_0 ⟨_, _, _, rfl, by decide +kernel, rfl, Or.inl (ps_in 580 rfl rfl)⟩, List.forall_mem_cons.mpr ⟨pk_9 (ps_in 694 rfl rfl), List.forall_mem_cons.mpr ⟨pk_9 (ps_in 695 rfl rfl), List.forall_mem_cons.mpr ⟨pk_0 ⟨_, _, _, rfl, by decide +kernel, rfl, Or.inl (ps_in 579 rfl rfl)⟩, pk_nil⟩⟩⟩⟩⟩⟩⟩, pk_nil, rfl, by decide +kernel, (ps_in 693 rfl rfl)⟩
set_option maxRecDepth 100000 in
theorem ok_Ref_isAside : px_okM ps_V ps_P pm_Ref_isAside := ⟨pk_co (by decide +kernel) (pk_fin (by
    show ∀ q ∈ [], _
    exact pk_nil)), pk_nil, pk_nil, rfl, by decide +kernel, (ps_in 702 rfl rfl)⟩
set_option maxRecDepth 100000 in
theorem ok_Ref_isOut : px_okM ps_V ps_P pm_Ref_isOut := ⟨pk_co (by decide +kernel) (pk_fin (by
    show ∀ q ∈ [], _
    exact pk_nil)), pk_nil, pk_nil, rfl, by decide +kernel, (ps_in 705 rfl rfl)⟩
set_option maxRecDepth 100000 in
theorem ok_Ref_isEnd : px_okM ps_V ps_P pm_Ref_isEnd := ⟨pk_co (by decide +kernel) (pk_fin (by
    show ∀ q ∈ [], _
    exact pk_nil)), List.forall_mem_cons.mpr ⟨pk_0 ⟨_, _, _, rfl, by decide +kernel, rfl, Or.inl (ps_in 562 rfl rfl)⟩, List.forall_mem_cons.mpr ⟨pk_0 ⟨_, _, _, rfl, by decide +kernel, rfl, Or.inl (ps_in 581 rfl rfl)⟩, List.forall_mem_cons.mpr ⟨pk_0 ⟨_, _, _, rfl, by decide +kernel, rfl, Or.inl (ps_in 582 rfl rfl)⟩, List.forall_mem_cons.mpr ⟨pk_5 ⟨_, rfl, ⟨Or.inl (ps_in 703 rfl rfl), (ps_in 58 rfl rfl), ⟨by decide +kernel, by decide +kernel, by decide +kernel⟩, by decide +kernel, by decide +kernel⟩, (ps_in 704 rfl rfl), Or.inl rfl⟩, List.forall_mem_cons.mpr ⟨pk_5 ⟨_, rfl, ⟨Or.inl (ps_in 700 rfl rfl), (ps_in 58 rfl rfl), ⟨by decide +kernel, by decide +kernel, by decide +kernel⟩, by decide +kernel, by decide +kernel⟩, (ps_in 701 rfl rfl), Or.inl rfl⟩, pk_nil⟩⟩⟩⟩⟩, pk_nil, rfl, by decide +kernel, (ps_in 699 rfl rfl)⟩
set_option maxRecDepth 100000 in
theorem ok_Ref_at : px_okM ps_V ps_P pm_Ref_at := ⟨pk_co (by decide +kernel) (pk_fin (by
    show ∀ q ∈ [], _
    exact pk_nil)), List.forall_mem_cons.mpr ⟨pk_9 (ps_in 722 rfl rfl), pk_nil⟩, pk_nil, rfl, by decide +kernel, (ps_in 721 rfl rfl)⟩
set_option maxRecDepth 100000 in
theorem ok_Ref_top : px_okM ps_V ps_P pm_Ref_top := ⟨pk_co (by decide +kernel) (pk_fin (by
    show ∀ q ∈ [], _
    exact pk_nil)), List.forall_mem_cons.mpr ⟨pk_0 ⟨_, _, _, rfl, by decide +kernel, rfl, Or.inl (ps_in 560 rfl rfl)⟩, List.forall_mem_cons.mpr ⟨(⟨_, _, _, rfl, ⟨Or.inl (ps_in 718 rfl rfl), (ps_in 58 rfl rfl), ⟨by decide +kernel, by decide +kernel, by decide +kernel⟩, by decide +kernel, by decide +kernel⟩, rfl, (ps_in 720 rfl rfl), (ps_in 49 rfl rfl), rfl⟩ : ∃ M T N, ps_P[73]? = some M ∧ px_lnk ps_wl "MoveOrderModel" 108 M 3 (px_fr pm_Ref_top) (px_lo pm_Ref_top) ∧ px_hh M = [] ∧ Cond.instanceMethod M.1 ∈ ps_wl ∧ Cond.selects M.1.cls M.1 M.1 ∈ ps_wl ∧ ps_cl[4]? = some (M.1.cls, T, N)), pk_nil⟩⟩, pk_nil, rfl, by decide +kernel, (ps_in 717 rfl rfl)⟩
set_option maxRecDepth 100000 in
theorem ok_Ref_taken : px_okM ps_V ps_P pm_Ref_taken := ⟨pk_co (by decide +kernel) (pk_fin (by
    show ∀ q ∈ [], _
    exact pk_nil)), List.forall_mem_cons.mpr ⟨(⟨_, _, _, rfl, ⟨Or.inl (ps_in 718 rfl rfl), (ps_in 58 rfl rfl), ⟨by decide +kernel, by decide +kernel, by decide +kernel⟩, by decide +kernel, by decide +kernel⟩, rfl, (ps_in 720 rfl rfl), (ps_in 49 rfl rfl), rfl⟩ : ∃ M T N, ps_P[73]? = some M ∧ px_lnk ps_wl "MoveOrderModel" 108 M 3 (px_fr pm_Ref_taken) (px_lo pm_Ref_taken) ∧ px_hh M = [] ∧ Cond.instanceMethod M.1 ∈ ps_wl ∧ Cond.selects M.1.cls M.1 M.1 ∈ ps_wl ∧ ps_cl[4]? = some (M.1.cls, T, N)), List.forall_mem_cons.mpr ⟨pk_0 ⟨_, _, _, rfl, by decide +kernel, rfl, Or.inl (ps_in 582 rfl rfl)⟩, List.forall_mem_cons.mpr ⟨(⟨_, _, _, rfl, ⟨Or.inl (ps_in 714 rfl rfl), (ps_in 58 rfl rfl), ⟨by decide +kernel, by decide +kernel, by decide +kernel⟩, by decide +kernel, by decide +kernel⟩, rfl, (ps_in 716 rfl rfl), (ps_in 48 rfl rfl), rfl⟩ : ∃ M T N, ps_P[74]? = some M ∧ px_lnk ps_wl "MoveOrderModel" 119 M 2 (px_fr pm_Ref_taken) (px_lo pm_Ref_taken) ∧ px_hh M = [] ∧ Cond.instanceMethod M.1 ∈ ps_wl ∧ Cond.selects M.1.cls M.1 M.1 ∈ ps_wl ∧ ps_cl[4]? = some (M.1.cls, T, N)), List.forall_mem_cons.mpr ⟨pk_5 ⟨_, rfl, ⟨Or.inl (ps_in 700 rfl rfl), (ps_in 58 rfl rfl), ⟨by decide +kernel, by decide +kernel, by decide +kernel⟩, by decide +kernel, by decide +kernel⟩, (ps_in 701 rfl rfl), Or.inl rfl⟩, pk_nil⟩⟩⟩⟩, pk_nil, rfl, by decide +kernel, (ps_in 713 rfl rfl)⟩
end
section
set_option maxRecDepth 100000 in
theorem ok_Ref_mayLeave : px_okM ps_V ps_P pm_Ref_mayLeave := ⟨pk_co (by decide +kernel) (pk_fin (by
    show ∀ q ∈ [], _
    exact pk_nil)), List.forall_mem_cons.mpr ⟨pk_0 ⟨_, _, _, rfl, by decide +kernel, rfl, Or.inl (ps_in 562 rfl rfl)⟩, List.forall_mem_cons.mpr ⟨pk_0 ⟨_, _, _, rfl, by decide +kernel, rfl, Or.inl (ps_in 564 rfl rfl)⟩, List.forall_mem_cons.mpr ⟨pk_0 ⟨_, _, _, rfl, by decide +kernel, rfl, Or.inl (ps_in 566 rfl rfl)⟩, List.forall_mem_cons.mpr ⟨pk_0 ⟨_, _, _, rfl, by decide +kernel, rfl, Or.inl (ps_in 581 rfl rfl)⟩, List.forall_mem_cons.mpr ⟨pk_0 ⟨_, _, _, rfl, by decide +kernel, rfl, Or.inl (ps_in 561 rfl rfl)⟩, List.forall_mem_cons.mpr ⟨pk_0 ⟨_, _, _, rfl, by decide +kernel, rfl, Or.inl (ps_in 582 rfl rfl)⟩, List.forall_mem_cons.mpr ⟨pk_5 ⟨_, rfl, ⟨Or.inl (ps_in 703 rfl rfl), (ps_in 58 rfl rfl), ⟨by decide +kernel, by decide +kernel, by decide +kernel⟩, by decide +kernel, by decide +kernel⟩, (ps_in 704 rfl rfl), Or.inl rfl⟩, pk_nil⟩⟩⟩⟩⟩⟩⟩, pk_nil, rfl, by decide +kernel, (ps_in 726 rfl rfl)⟩
set_option maxRecDepth 100000 in
theorem ok_Ref_moved : px_okM ps_V ps_P pm_Ref_moved := ⟨pk_co (by decide +kernel) (pk_fin (by
    show ∀ q ∈ [], _
    exact pk_nil)), List.forall_mem_cons.mpr ⟨pk_0 ⟨_, _, _, rfl, by decide +kernel, rfl, Or.inl (ps_in 560 rfl rfl)⟩, List.forall_mem_cons.mpr ⟨pk_9 (ps_in 722 rfl rfl), List.forall_mem_cons.mpr ⟨(⟨_, _, _, rfl, ⟨Or.inl (ps_in 714 rfl rfl), (ps_in 58 rfl rfl), ⟨by decide +kernel, by decide +kernel, by decide +kernel⟩, by decide +kernel, by decide +kernel⟩, rfl, (ps_in 716 rfl rfl), (ps_in 48 rfl rfl), rfl⟩ : ∃ M T N, ps_P[74]? = some M ∧ px_lnk ps_wl "MoveOrderModel" 119 M 2 (px_fr pm_Ref_moved) (px_lo pm_Ref_moved) ∧ px_hh M = [] ∧ Cond.instanceMethod M.1 ∈ ps_wl ∧ Cond.selects M.1.cls M.1 M.1 ∈ ps_wl ∧ ps_cl[4]? = some (M.1.cls, T, N)), List.forall_mem_cons.mpr ⟨(⟨_, _, _, rfl, ⟨Or.inl (ps_in 710 rfl rfl), (ps_in 58 rfl rfl), ⟨by decide +kernel, by decide +kernel, by decide +kernel⟩, by decide +kernel, by decide +kernel⟩, rfl, (ps_in 712 rfl rfl), (ps_in 47 rfl rfl), rfl⟩ : ∃ M T N, ps_P[75]? = some M ∧ px_lnk ps_wl "MoveOrderModel" 126 M 2 (px_fr pm_Ref_moved) (px_lo pm_Ref_moved) ∧ px_hh M = [] ∧ Cond.instanceMethod M.1 ∈ ps_wl ∧ Cond.selects M.1.cls M.1 M.1 ∈ ps_wl ∧ ps_cl[4]? = some (M.1.cls, T, N)), List.forall_mem_cons.mpr ⟨(⟨_, _, _, rfl, ⟨Or.inl (ps_in 723 rfl rfl), (ps_in 58 rfl rfl), ⟨by decide +kernel, by decide +kernel, by decide +kernel⟩, by decide +kernel, by decide +kernel⟩, rfl, (ps_in 725 rfl rfl), (ps_in 50 rfl rfl), rfl⟩ : ∃ M T N, ps_P[76]? = some M ∧ px_lnk ps_wl "MoveOrderModel" 129 M 2 (px_fr pm_Ref_moved) (px_lo pm_Ref_moved) ∧ px_hh M = [] ∧ Cond.instanceMethod M.1 ∈ ps_wl ∧ Cond.selects M.1.cls M.1 M.1 ∈ ps_wl ∧ ps_cl[4]? = some (M.1.cls, T, N)), List.forall_mem_cons.mpr ⟨pk_9 (ps_in 727 rfl rfl), pk_nil⟩⟩⟩⟩⟩⟩, pk_nil, rfl, by decide +kernel, (ps_in 709 rfl rfl)⟩
set_option maxRecDepth 100000 in
theorem ok_Ref_search : px_okM ps_V ps_P pm_Ref_search := ⟨pk_co (by decide +kernel) (pk_fin (by
    show ∀ q ∈ [(24, Instr.putfield 138, 3)], _
    exact List.forall_mem_cons.mpr ⟨pk_fn rfl rfl rfl, pk_nil⟩)), List.forall_mem_cons.mpr ⟨pk_0 ⟨_, _, _, rfl, by decide +kernel, rfl, Or.inl (ps_in 576 rfl rfl)⟩, List.forall_mem_cons.mpr ⟨pk_0 ⟨_, _, _, rfl, by decide +kernel, rfl, Or.inl (ps_in 580 rfl rfl)⟩, List.forall_mem_cons.mpr ⟨pk_9 (ps_in 727 rfl rfl), List.forall_mem_cons.mpr ⟨pk_0 ⟨_, _, _, rfl, by decide +kernel, rfl, Or.inl (ps_in 579 rfl rfl)⟩, List.forall_mem_cons.mpr ⟨(⟨_, _, _, rfl, ⟨Or.inl (ps_in 686 rfl rfl), (ps_in 58 rfl rfl), ⟨by decide +kernel, by decide +kernel, by decide +kernel⟩, by decide +kernel, by decide +kernel⟩, rfl, (ps_in 688 rfl rfl), (ps_in 43 rfl rfl), rfl⟩ : ∃ M T N, ps_P[68]? = some M ∧ px_lnk ps_wl "MoveOrderModel" 141 M 1 (px_fr pm_Ref_search) (px_lo pm_Ref_search) ∧ px_hh M = [] ∧ Cond.instanceMethod M.1 ∈ ps_wl ∧ Cond.selects M.1.cls M.1 M.1 ∈ ps_wl ∧ ps_cl[4]? = some (M.1.cls, T, N)), List.forall_mem_cons.mpr ⟨(⟨_, _, _, rfl, ⟨Or.inl (ps_in 690 rfl rfl), (ps_in 58 rfl rfl), ⟨by decide +kernel, by decide +kernel, by decide +kernel⟩, by decide +kernel, by decide +kernel⟩, rfl, (ps_in 692 rfl rfl), (ps_in 44 rfl rfl), rfl⟩ : ∃ M T N, ps_P[69]? = some M ∧ px_lnk ps_wl "MoveOrderModel" 145 M 3 (px_fr pm_Ref_search) (px_lo pm_Ref_search) ∧ px_hh M = [] ∧ Cond.instanceMethod M.1 ∈ ps_wl ∧ Cond.selects M.1.cls M.1 M.1 ∈ ps_wl ∧ ps_cl[4]? = some (M.1.cls, T, N)), List.forall_mem_cons.mpr ⟨(⟨_, _, _, rfl, ⟨Or.inl (ps_in 696 rfl rfl), (ps_in 58 rfl rfl), ⟨by decide +kernel, by decide +kernel, by decide +kernel⟩, by decide +kernel, by decide +kernel⟩, rfl, (ps_in 698 rfl rfl), (ps_in 45 rfl rfl), rfl⟩ : ∃ M T N, ps_P[72]? = some M ∧ px_lnk ps_wl "MoveOrderModel" 149 M 1 (px_fr pm_Ref_search) (px_lo pm_Ref_search) ∧ px_hh M = [] ∧ Cond.instanceMethod M.1 ∈ ps_wl ∧ Cond.selects M.1.cls M.1 M.1 ∈ ps_wl ∧ ps_cl[4]? = some (M.1.cls, T, N)), List.forall_mem_cons.mpr ⟨(⟨_, _, _, rfl, ⟨Or.inl (ps_in 706 rfl rfl), (ps_in 58 rfl rfl), ⟨by decide +kernel, by decide +kernel, by decide +kernel⟩, by decide +kernel, by decide +kernel⟩, rfl, (ps_in 708 rfl rfl), (ps_in 46 rfl rfl), rfl⟩ : ∃ M T N, ps_P[77]? = some M ∧ px_lnk ps_wl "MoveOrderModel" 153 M 3 (px_fr pm_Ref_search) (px_lo pm_Ref_search) ∧ px_hh M = [] ∧ Cond.instanceMethod M.1 ∈ ps_wl ∧ Cond.selects M.1.cls M.1 M.1 ∈ ps_wl ∧ ps_cl[4]? = some (M.1.cls, T, N)), pk_nil⟩⟩⟩⟩⟩⟩⟩⟩, pk_nil, rfl, by decide +kernel, (ps_in 685 rfl rfl)⟩
set_option maxRecDepth 100000 in
theorem ok_Ref_plan : px_okM ps_V ps_P pm_Ref_plan := ⟨pk_co (by decide +kernel) (pk_fin (by
    show ∀ q ∈ [(16, Instr.putfield 70, 3)], _
    exact List.forall_mem_cons.mpr ⟨pk_fn rfl rfl rfl, pk_nil⟩)), List.forall_mem_cons.mpr ⟨pk_0 ⟨_, _, _, rfl, by decide +kernel, rfl, Or.inl (ps_in 570 rfl rfl)⟩, List.forall_mem_cons.mpr ⟨pk_0 ⟨_, _, _, rfl, by decide +kernel, rfl, Or.inl (ps_in 571 rfl rfl)⟩, List.forall_mem_cons.mpr ⟨pk_0 ⟨_, _, _, rfl, by decide +kernel, rfl, Or.inl (ps_in 572 rfl rfl)⟩, List.forall_mem_cons.mpr ⟨pk_0 ⟨_, _, _, rfl, by decide +kernel, rfl, Or.inl (ps_in 573 rfl rfl)⟩, List.forall_mem_cons.mpr ⟨pk_0 ⟨_, _, _, rfl, by decide +kernel, rfl, Or.inl (ps_in 574 rfl rfl)⟩, List.forall_mem_cons.mpr ⟨pk_0 ⟨_, _, _, rfl, by decide +kernel, rfl, Or.inl (ps_in 575 rfl rfl)⟩, List.forall_mem_cons.mpr ⟨pk_0 ⟨_, _, _, rfl, by decide +kernel, rfl, Or.inl (ps_in 576 rfl rfl)⟩, List.forall_mem_cons.mpr ⟨pk_0 ⟨_, _, _, rfl, by decide +kernel, rfl, Or.inl (ps_in 577 rfl rfl)⟩, List.forall_mem_cons.mpr ⟨pk_0 ⟨_, _, _, rfl, by decide +kernel, rfl, Or.inl (ps_in 578 rfl rfl)⟩, List.forall_mem_cons.mpr ⟨pk_0 ⟨_, _, _, rfl, by decide +kernel, rfl, Or.inl (ps_in 581 rfl rfl)⟩, List.forall_mem_cons.mpr ⟨pk_0 ⟨_, _, _, rfl, by decide +kernel, rfl, Or.inl (ps_in 558 rfl rfl)⟩, List.forall_mem_cons.mpr ⟨(⟨_, _, _, rfl, ⟨Or.inl (ps_in 643 rfl rfl), (ps_in 58 rfl rfl), ⟨by decide +kernel, by decide +kernel, by decide +kernel⟩, by decide +kernel, by decide +kernel⟩, rfl, (ps_in 645 rfl rfl), (ps_in 35 rfl rfl), rfl⟩ : ∃ M T N, ps_P[56]? = some M ∧ px_lnk ps_wl "MoveOrderModel" 76 M 1 (px_fr pm_Ref_plan) (px_lo pm_Ref_plan) ∧ px_hh M = [] ∧ Cond.instanceMethod M.1 ∈ ps_wl ∧ Cond.selects M.1.cls M.1 M.1 ∈ ps_wl ∧ ps_cl[4]? = some (M.1.cls, T, N)), List.forall_mem_cons.mpr ⟨(⟨_, _, _, rfl, ⟨Or.inl (ps_in 650 rfl rfl), (ps_in 58 rfl rfl), ⟨by decide +kernel, by decide +kernel, by decide +kernel⟩, by decide +kernel, by decide +kernel⟩, rfl, (ps_in 652 rfl rfl), (ps_in 36 rfl rfl), rfl⟩ : ∃ M T N, ps_P[58]? = some M ∧ px_lnk ps_wl "MoveOrderModel" 84 M 1 (px_fr pm_Ref_plan) (px_lo pm_Ref_plan) ∧ px_hh M = [] ∧ Cond.instanceMethod M.1 ∈ ps_wl ∧ Cond.selects M.1.cls M.1 M.1 ∈ ps_wl ∧ ps_cl[4]? = some (M.1.cls, T, N)), List.forall_mem_cons.mpr ⟨(⟨_, _, _, rfl, ⟨Or.inl (ps_in 710 rfl rfl), (ps_in 58 rfl rfl), ⟨by decide +kernel, by decide +kernel, by decide +kernel⟩, by decide +kernel, by decide +kernel⟩, rfl, (ps_in 712 rfl rfl), (ps_in 47 rfl rfl), rfl⟩ : ∃ M T N, ps_P[75]? = some M ∧ px_lnk ps_wl "MoveOrderModel" 126 M 2 (px_fr pm_Ref_plan) (px_lo pm_Ref_plan) ∧ px_hh M = [] ∧ Cond.instanceMethod M.1 ∈ ps_wl ∧ Cond.selects M.1.cls M.1 M.1 ∈ ps_wl ∧ ps_cl[4]? = some (M.1.cls, T, N)), List.forall_mem_cons.mpr ⟨(⟨_, _, _, rfl, ⟨Or.inl (ps_in 682 rfl rfl), (ps_in 58 rfl rfl), ⟨by decide +kernel, by decide +kernel, by decide +kernel⟩, by decide +kernel, by decide +kernel⟩, rfl, (ps_in 684 rfl rfl), (ps_in 42 rfl rfl), rfl⟩ : ∃ M T N, ps_P[78]? = some M ∧ px_lnk ps_wl "MoveOrderModel" 157 M 1 (px_fr pm_Ref_plan) (px_lo pm_Ref_plan) ∧ px_hh M = [] ∧ Cond.instanceMethod M.1 ∈ ps_wl ∧ Cond.selects M.1.cls M.1 M.1 ∈ ps_wl ∧ ps_cl[4]? = some (M.1.cls, T, N)), pk_nil⟩⟩⟩⟩⟩⟩⟩⟩⟩⟩⟩⟩⟩⟩⟩, pk_nil, rfl, by decide +kernel, (ps_in 681 rfl rfl)⟩
set_option maxRecDepth 100000 in
theorem ok_Law_move : px_okM ps_V ps_P pm_Law_move := ⟨pk_co (by decide +kernel) (pk_fin (by
    show ∀ q ∈ [], _
    exact pk_nil)), List.forall_mem_cons.mpr ⟨(⟨_, _, _, rfl, ⟨Or.inl (ps_in 460 rfl rfl), (ps_in 54 rfl rfl), ⟨by decide +kernel, by decide +kernel, by decide +kernel⟩, by decide +kernel, by decide +kernel⟩, rfl, (ps_in 460 rfl rfl), (ps_in 461 rfl rfl), (ps_in 462 rfl rfl), rfl⟩ : ∃ M T N, ps_P[30]? = some M ∧ px_lnk ps_wl "MoveOrderLaw" 21 M 3 (px_fr pm_Law_move) (px_lo pm_Law_move) ∧ px_hh M = [] ∧ Cond.methodLink "MoveOrderLaw" 21 M.1 ∈ ps_wl ∧ Cond.instanceMethod M.1 ∈ ps_wl ∧ Cond.selects M.1.cls M.1 M.1 ∈ ps_wl ∧ ps_cl[0]? = some (M.1.cls, T, N)), List.forall_mem_cons.mpr ⟨((ps_in 459 rfl rfl) : px_pok ps_V ps_P pm_Law_move (24, 33, 0, 0)), pk_nil⟩⟩, List.forall_mem_cons.mpr ⟨⟨by decide +kernel, 3, rfl, by decide +kernel⟩, pk_nil⟩, rfl, by decide +kernel, (ps_in 458 rfl rfl)⟩
set_option maxRecDepth 100000 in
theorem ok_Ref_move : px_okM ps_V ps_P pm_Ref_move := ⟨pk_co (by decide +kernel) (pk_fin (by
    show ∀ q ∈ [(60, Instr.putfield 70, 3)], _
    exact List.forall_mem_cons.mpr ⟨pk_fn rfl rfl rfl, pk_nil⟩)), List.forall_mem_cons.mpr ⟨pk_0 ⟨_, _, _, rfl, by decide +kernel, rfl, Or.inl (ps_in 570 rfl rfl)⟩, List.forall_mem_cons.mpr ⟨pk_0 ⟨_, _, _, rfl, by decide +kernel, rfl, Or.inl (ps_in 571 rfl rfl)⟩, List.forall_mem_cons.mpr ⟨pk_0 ⟨_, _, _, rfl, by decide +kernel, rfl, Or.inl (ps_in 572 rfl rfl)⟩, List.forall_mem_cons.mpr ⟨pk_0 ⟨_, _, _, rfl, by decide +kernel, rfl, Or.inl (ps_in 573 rfl rfl)⟩, List.forall_mem_cons.mpr ⟨pk_0 ⟨_, _, _, rfl, by decide +kernel, rfl, Or.inl (ps_in 574 rfl rfl)⟩, List.forall_mem_cons.mpr ⟨pk_0 ⟨_, _, _, rfl, by decide +kernel, rfl, Or.inl (ps_in 575 rfl rfl)⟩, List.forall_mem_cons.mpr ⟨pk_0 ⟨_, _, _, rfl, by decide +kernel, rfl, Or.inl (ps_in 558 rfl rfl)⟩, List.forall_mem_cons.mpr ⟨(⟨_, _, _, rfl, ⟨Or.inl (ps_in 643 rfl rfl), (ps_in 58 rfl rfl), ⟨by decide +kernel, by decide +kernel, by decide +kernel⟩, by decide +kernel, by decide +kernel⟩, rfl, (ps_in 645 rfl rfl), (ps_in 35 rfl rfl), rfl⟩ : ∃ M T N, ps_P[56]? = some M ∧ px_lnk ps_wl "MoveOrderModel" 76 M 1 (px_fr pm_Ref_move) (px_lo pm_Ref_move) ∧ px_hh M = [] ∧ Cond.instanceMethod M.1 ∈ ps_wl ∧ Cond.selects M.1.cls M.1 M.1 ∈ ps_wl ∧ ps_cl[4]? = some (M.1.cls, T, N)), List.forall_mem_cons.mpr ⟨pk_5 ⟨_, rfl, ⟨Or.inl (ps_in 647 rfl rfl), (ps_in 58 rfl rfl), ⟨by decide +kernel, by decide +kernel, by decide +kernel⟩, by decide +kernel, by decide +kernel⟩, (ps_in 648 rfl rfl), Or.inl rfl⟩, List.forall_mem_cons.mpr ⟨(⟨_, _, _, rfl, ⟨Or.inl (ps_in 650 rfl rfl), (ps_in 58 rfl rfl), ⟨by decide +kernel, by decide +kernel, by decide +kernel⟩, by decide +kernel, by decide +kernel⟩, rfl, (ps_in 652 rfl rfl), (ps_in 36 rfl rfl), rfl⟩ : ∃ M T N, ps_P[58]? = some M ∧ px_lnk ps_wl "MoveOrderModel" 84 M 1 (px_fr pm_Ref_move) (px_lo pm_Ref_move) ∧ px_hh M = [] ∧ Cond.instanceMethod M.1 ∈ ps_wl ∧ Cond.selects M.1.cls M.1 M.1 ∈ ps_wl ∧ ps_cl[4]? = some (M.1.cls, T, N)), pk_nil⟩⟩⟩⟩⟩⟩⟩⟩⟩⟩, pk_nil, rfl, by decide +kernel, (ps_in 731 rfl rfl)⟩
set_option maxRecDepth 100000 in
theorem ok_Law_work : px_okM ps_V ps_P pm_Law_work := ⟨pk_co (by decide +kernel) (pk_fin (by
    show ∀ q ∈ [], _
    exact pk_nil)), List.forall_mem_cons.mpr ⟨(⟨_, _, _, rfl, ⟨Or.inl (ps_in 484 rfl rfl), (ps_in 54 rfl rfl), ⟨by decide +kernel, by decide +kernel, by decide +kernel⟩, by decide +kernel, by decide +kernel⟩, rfl, (ps_in 484 rfl rfl), (ps_in 485 rfl rfl), (ps_in 486 rfl rfl), rfl⟩ : ∃ M T N, ps_P[51]? = some M ∧ px_lnk ps_wl "MoveOrderLaw" 26 M 1 (px_fr pm_Law_work) (px_lo pm_Law_work) ∧ px_hh M = [] ∧ Cond.methodLink "MoveOrderLaw" 26 M.1 ∈ ps_wl ∧ Cond.instanceMethod M.1 ∈ ps_wl ∧ Cond.selects M.1.cls M.1 M.1 ∈ ps_wl ∧ ps_cl[0]? = some (M.1.cls, T, N)), List.forall_mem_cons.mpr ⟨((ps_in 246 rfl rfl) : px_pok ps_V ps_P pm_Law_work (13, 31, 0, 0)), List.forall_mem_cons.mpr ⟨((ps_in 247 rfl rfl) : px_pok ps_V ps_P pm_Law_work (15, 32, 0, 0)), pk_nil⟩⟩⟩, List.forall_mem_cons.mpr ⟨⟨by decide +kernel, 1, rfl, by decide +kernel⟩, List.forall_mem_cons.mpr ⟨⟨by decide +kernel, 2, rfl, by decide +kernel⟩, pk_nil⟩⟩, rfl, by decide +kernel, (ps_in 483 rfl rfl)⟩
set_option maxRecDepth 100000 in
theorem ok_Ref_work : px_okM ps_V ps_P pm_Ref_work := ⟨pk_co (by decide +kernel) (pk_fin (by
    show ∀ q ∈ [(46, Instr.putfield 70, 3), (139, Instr.putfield 160, 3), (159, Instr.putfield 163, 3)], _
    exact List.forall_mem_cons.mpr ⟨pk_fn rfl rfl rfl, List.forall_mem_cons.mpr ⟨pk_fn rfl rfl rfl, List.forall_mem_cons.mpr ⟨pk_fn rfl rfl rfl, pk_nil⟩⟩⟩)), List.forall_mem_cons.mpr ⟨pk_0 ⟨_, _, _, rfl, by decide +kernel, rfl, Or.inl (ps_in 564 rfl rfl)⟩, List.forall_mem_cons.mpr ⟨pk_0 ⟨_, _, _, rfl, by decide +kernel, rfl, Or.inl (ps_in 565 rfl rfl)⟩, List.forall_mem_cons.mpr ⟨pk_0 ⟨_, _, _, rfl, by decide +kernel, rfl, Or.inl (ps_in 567 rfl rfl)⟩, List.forall_mem_cons.mpr ⟨pk_0 ⟨_, _, _, rfl, by decide +kernel, rfl, Or.inl (ps_in 570 rfl rfl)⟩, List.forall_mem_cons.mpr ⟨pk_0 ⟨_, _, _, rfl, by decide +kernel, rfl, Or.inl (ps_in 571 rfl rfl)⟩, List.forall_mem_cons.mpr ⟨pk_0 ⟨_, _, _, rfl, by decide +kernel, rfl, Or.inl (ps_in 572 rfl rfl)⟩, List.forall_mem_cons.mpr ⟨pk_0 ⟨_, _, _, rfl, by decide +kernel, rfl, Or.inl (ps_in 573 rfl rfl)⟩, List.forall_mem_cons.mpr ⟨pk_0 ⟨_, _, _, rfl, by decide +kernel, rfl, Or.inl (ps_in 575 rfl rfl)⟩, List.forall_mem_cons.mpr ⟨pk_0 ⟨_, _, _, rfl, by decide +kernel, rfl, Or.inl (ps_in 558 rfl rfl)⟩, List.forall_mem_cons.mpr ⟨(⟨_, _, _, rfl, ⟨Or.inl (ps_in 643 rfl rfl), (ps_in 58 rfl rfl), ⟨by decide +kernel, by decide +kernel, by decide +kernel⟩, by decide +kernel, by decide +kernel⟩, rfl, (ps_in 645 rfl rfl), (ps_in 35 rfl rfl), rfl⟩ : ∃ M T N, ps_P[56]? = some M ∧ px_lnk ps_wl "MoveOrderModel" 76 M 1 (px_fr pm_Ref_work) (px_lo pm_Ref_work) ∧ px_hh M = [] ∧ Cond.instanceMethod M.1 ∈ ps_wl ∧ Cond.selects M.1.cls M.1 M.1 ∈ ps_wl ∧ ps_cl[4]? = some (M.1.cls, T, N)), List.forall_mem_cons.mpr ⟨(⟨_, _, _, rfl, ⟨Or.inl (ps_in 650 rfl rfl), (ps_in 58 rfl rfl), ⟨by decide +kernel, by decide +kernel, by decide +kernel⟩, by decide +kernel, by decide +kernel⟩, rfl, (ps_in 652 rfl rfl), (ps_in 36 rfl rfl), rfl⟩ : ∃ M T N, ps_P[58]? = some M ∧ px_lnk ps_wl "MoveOrderModel" 84 M 1 (px_fr pm_Ref_work) (px_lo pm_Ref_work) ∧ px_hh M = [] ∧ Cond.instanceMethod M.1 ∈ ps_wl ∧ Cond.selects M.1.cls M.1 M.1 ∈ ps_wl ∧ ps_cl[4]? = some (M.1.cls, T, N)), List.forall_mem_cons.mpr ⟨(⟨_, _, _, rfl, ⟨Or.inl (ps_in 658 rfl rfl), (ps_in 58 rfl rfl), ⟨by decide +kernel, by decide +kernel, by decide +kernel⟩, by decide +kernel, by decide +kernel⟩, rfl, (ps_in 660 rfl rfl), (ps_in 38 rfl rfl), rfl⟩ : ∃ M T N, ps_P[60]? = some M ∧ px_lnk ps_wl "MoveOrderModel" 91 M 2 (px_fr pm_Ref_work) (px_lo pm_Ref_work) ∧ px_hh M = [] ∧ Cond.instanceMethod M.1 ∈ ps_wl ∧ Cond.selects M.1.cls M.1 M.1 ∈ ps_wl ∧ ps_cl[4]? = some (M.1.cls, T, N)), List.forall_mem_cons.mpr ⟨pk_0 ⟨_, _, _, rfl, by decide +kernel, rfl, Or.inl (ps_in 568 rfl rfl)⟩, List.forall_mem_cons.mpr ⟨pk_0 ⟨_, _, _, rfl, by decide +kernel, rfl, Or.inl (ps_in 569 rfl rfl)⟩, pk_nil⟩⟩⟩⟩⟩⟩⟩⟩⟩⟩⟩⟩⟩⟩, pk_nil, rfl, by decide +kernel, (ps_in 735 rfl rfl)⟩
set_option maxRecDepth 100000 in
theorem ok_Law_least : px_okM ps_V ps_P pm_Law_least := ⟨pk_co (by decide +kernel) (pk_fin (by
    show ∀ q ∈ [], _
    exact pk_nil)), List.forall_mem_cons.mpr ⟨(⟨_, _, _, rfl, ⟨Or.inl (ps_in 492 rfl rfl), (ps_in 54 rfl rfl), ⟨by decide +kernel, by decide +kernel, by decide +kernel⟩, by decide +kernel, by decide +kernel⟩, rfl, (ps_in 492 rfl rfl), (ps_in 493 rfl rfl), (ps_in 494 rfl rfl), rfl⟩ : ∃ M T N, ps_P[27]? = some M ∧ px_lnk ps_wl "MoveOrderLaw" 29 M 1 (px_fr pm_Law_least) (px_lo pm_Law_least) ∧ px_hh M = [] ∧ Cond.methodLink "MoveOrderLaw" 29 M.1 ∈ ps_wl ∧ Cond.instanceMethod M.1 ∈ ps_wl ∧ Cond.selects M.1.cls M.1 M.1 ∈ ps_wl ∧ ps_cl[0]? = some (M.1.cls, T, N)), List.forall_mem_cons.mpr ⟨((ps_in 246 rfl rfl) : px_pok ps_V ps_P pm_Law_least (13, 31, 0, 0)), pk_nil⟩⟩, List.forall_mem_cons.mpr ⟨⟨by decide +kernel, 1, rfl, by decide +kernel⟩, pk_nil⟩, rfl, by decide +kernel, (ps_in 491 rfl rfl)⟩
set_option maxRecDepth 100000 in
theorem ok_Ref_isAbove : px_okM ps_V ps_P pm_Ref_isAbove := ⟨pk_co (by decide +kernel) (pk_fin (by
    show ∀ q ∈ [], _
    exact pk_nil)), List.forall_mem_cons.mpr ⟨pk_0 ⟨_, _, _, rfl, by decide +kernel, rfl, Or.inl (ps_in 562 rfl rfl)⟩, List.forall_mem_cons.mpr ⟨pk_0 ⟨_, _, _, rfl, by decide +kernel, rfl, Or.inl (ps_in 563 rfl rfl)⟩, List.forall_mem_cons.mpr ⟨pk_0 ⟨_, _, _, rfl, by decide +kernel, rfl, Or.inl (ps_in 564 rfl rfl)⟩, List.forall_mem_cons.mpr ⟨pk_0 ⟨_, _, _, rfl, by decide +kernel, rfl, Or.inl (ps_in 565 rfl rfl)⟩, List.forall_mem_cons.mpr ⟨pk_0 ⟨_, _, _, rfl, by decide +kernel, rfl, Or.inl (ps_in 561 rfl rfl)⟩, pk_nil⟩⟩⟩⟩⟩, pk_nil, rfl, by decide +kernel, (ps_in 743 rfl rfl)⟩
set_option maxRecDepth 100000 in
theorem ok_Ref_least : px_okM ps_V ps_P pm_Ref_least := ⟨pk_co (by decide +kernel) (pk_fin (by
    show ∀ q ∈ [(16, Instr.putfield 70, 3)], _
    exact List.forall_mem_cons.mpr ⟨pk_fn rfl rfl rfl, pk_nil⟩)), List.forall_mem_cons.mpr ⟨pk_0 ⟨_, _, _, rfl, by decide +kernel, rfl, Or.inl (ps_in 562 rfl rfl)⟩, List.forall_mem_cons.mpr ⟨pk_0 ⟨_, _, _, rfl, by decide +kernel, rfl, Or.inl (ps_in 563 rfl rfl)⟩, List.forall_mem_cons.mpr ⟨pk_0 ⟨_, _, _, rfl, by decide +kernel, rfl, Or.inl (ps_in 564 rfl rfl)⟩, List.forall_mem_cons.mpr ⟨pk_0 ⟨_, _, _, rfl, by decide +kernel, rfl, Or.inl (ps_in 558 rfl rfl)⟩, List.forall_mem_cons.mpr ⟨pk_0 ⟨_, _, _, rfl, by decide +kernel, rfl, Or.inl (ps_in 561 rfl rfl)⟩, List.forall_mem_cons.mpr ⟨(⟨_, _, _, rfl, ⟨Or.inl (ps_in 643 rfl rfl), (ps_in 58 rfl rfl), ⟨by decide +kernel, by decide +kernel, by decide +kernel⟩, by decide +kernel, by decide +kernel⟩, rfl, (ps_in 645 rfl rfl), (ps_in 35 rfl rfl), rfl⟩ : ∃ M T N, ps_P[56]? = some M ∧ px_lnk ps_wl "MoveOrderModel" 76 M 1 (px_fr pm_Ref_least) (px_lo pm_Ref_least) ∧ px_hh M = [] ∧ Cond.instanceMethod M.1 ∈ ps_wl ∧ Cond.selects M.1.cls M.1 M.1 ∈ ps_wl ∧ ps_cl[4]? = some (M.1.cls, T, N)), List.forall_mem_cons.mpr ⟨(⟨_, _, _, rfl, ⟨Or.inl (ps_in 650 rfl rfl), (ps_in 58 rfl rfl), ⟨by decide +kernel, by decide +kernel, by decide +kernel⟩, by decide +kernel, by decide +kernel⟩, rfl, (ps_in 652 rfl rfl), (ps_in 36 rfl rfl), rfl⟩ : ∃ M T N, ps_P[58]? = some M ∧ px_lnk ps_wl "MoveOrderModel" 84 M 1 (px_fr pm_Ref_least) (px_lo pm_Ref_least) ∧ px_hh M = [] ∧ Cond.instanceMethod M.1 ∈ ps_wl ∧ Cond.selects M.1.cls M.1 M.1 ∈ ps_wl ∧ ps_cl[4]? = some (M.1.cls, T, N)), List.forall_mem_cons.mpr ⟨(⟨_, _, _, rfl, ⟨Or.inl (ps_in 740 rfl rfl), (ps_in 58 rfl rfl), ⟨by decide +kernel, by decide +kernel, by decide +kernel⟩, by decide +kernel, by decide +kernel⟩, rfl, (ps_in 742 rfl rfl), (ps_in 51 rfl rfl), rfl⟩ : ∃ M T N, ps_P[85]? = some M ∧ px_lnk ps_wl "MoveOrderModel" 166 M 1 (px_fr pm_Ref_least) (px_lo pm_Ref_least) ∧ px_hh M = [] ∧ Cond.instanceMethod M.1 ∈ ps_wl ∧ Cond.selects M.1.cls M.1 M.1 ∈ ps_wl ∧ ps_cl[4]? = some (M.1.cls, T, N)), pk_nil⟩⟩⟩⟩⟩⟩⟩⟩, pk_nil, rfl, by decide +kernel, (ps_in 739 rfl rfl)⟩
set_option maxRecDepth 100000 in
theorem ok_Law_loads : px_okM ps_V ps_P pm_Law_loads := ⟨pk_co (by decide +kernel) (pk_fin (by
    show ∀ q ∈ [], _
    exact pk_nil)), List.forall_mem_cons.mpr ⟨(⟨_, _, _, rfl, ⟨Or.inl (ps_in 511 rfl rfl), (ps_in 54 rfl rfl), ⟨by decide +kernel, by decide +kernel, by decide +kernel⟩, by decide +kernel, by decide +kernel⟩, rfl, (ps_in 511 rfl rfl), (ps_in 512 rfl rfl), (ps_in 513 rfl rfl), rfl⟩ : ∃ M T N, ps_P[28]? = some M ∧ px_lnk ps_wl "MoveOrderLaw" 32 M 2 (px_fr pm_Law_loads) (px_lo pm_Law_loads) ∧ px_hh M = [] ∧ Cond.methodLink "MoveOrderLaw" 32 M.1 ∈ ps_wl ∧ Cond.instanceMethod M.1 ∈ ps_wl ∧ Cond.selects M.1.cls M.1 M.1 ∈ ps_wl ∧ ps_cl[0]? = some (M.1.cls, T, N)), List.forall_mem_cons.mpr ⟨((ps_in 246 rfl rfl) : px_pok ps_V ps_P pm_Law_loads (13, 31, 0, 0)), List.forall_mem_cons.mpr ⟨((ps_in 247 rfl rfl) : px_pok ps_V ps_P pm_Law_loads (15, 32, 0, 0)), pk_nil⟩⟩⟩, List.forall_mem_cons.mpr ⟨⟨by decide +kernel, 1, rfl, by decide +kernel⟩, List.forall_mem_cons.mpr ⟨⟨by decide +kernel, 2, rfl, by decide +kernel⟩, pk_nil⟩⟩, rfl, by decide +kernel, (ps_in 510 rfl rfl)⟩
set_option maxRecDepth 100000 in
theorem ok_Ref_loads : px_okM ps_V ps_P pm_Ref_loads := ⟨pk_co (by decide +kernel) (pk_fin (by
    show ∀ q ∈ [(45, Instr.putfield 70, 3)], _
    exact List.forall_mem_cons.mpr ⟨pk_fn rfl rfl rfl, pk_nil⟩)), List.forall_mem_cons.mpr ⟨pk_0 ⟨_, _, _, rfl, by decide +kernel, rfl, Or.inl (ps_in 567 rfl rfl)⟩, List.forall_mem_cons.mpr ⟨pk_0 ⟨_, _, _, rfl, by decide +kernel, rfl, Or.inl (ps_in 558 rfl rfl)⟩, List.forall_mem_cons.mpr ⟨(⟨_, _, _, rfl, ⟨Or.inl (ps_in 643 rfl rfl), (ps_in 58 rfl rfl), ⟨by decide +kernel, by decide +kernel, by decide +kernel⟩, by decide +kernel, by decide +kernel⟩, rfl, (ps_in 645 rfl rfl), (ps_in 35 rfl rfl), rfl⟩ : ∃ M T N, ps_P[56]? = some M ∧ px_lnk ps_wl "MoveOrderModel" 76 M 1 (px_fr pm_Ref_loads) (px_lo pm_Ref_loads) ∧ px_hh M = [] ∧ Cond.instanceMethod M.1 ∈ ps_wl ∧ Cond.selects M.1.cls M.1 M.1 ∈ ps_wl ∧ ps_cl[4]? = some (M.1.cls, T, N)), List.forall_mem_cons.mpr ⟨pk_5 ⟨_, rfl, ⟨Or.inl (ps_in 647 rfl rfl), (ps_in 58 rfl rfl), ⟨by decide +kernel, by decide +kernel, by decide +kernel⟩, by decide +kernel, by decide +kernel⟩, (ps_in 648 rfl rfl), Or.inl rfl⟩, List.forall_mem_cons.mpr ⟨(⟨_, _, _, rfl, ⟨Or.inl (ps_in 650 rfl rfl), (ps_in 58 rfl rfl), ⟨by decide +kernel, by decide +kernel, by decide +kernel⟩, by decide +kernel, by decide +kernel⟩, rfl, (ps_in 652 rfl rfl), (ps_in 36 rfl rfl), rfl⟩ : ∃ M T N, ps_P[58]? = some M ∧ px_lnk ps_wl "MoveOrderModel" 84 M 1 (px_fr pm_Ref_loads) (px_lo pm_Ref_loads) ∧ px_hh M = [] ∧ Cond.instanceMethod M.1 ∈ ps_wl ∧ Cond.selects M.1.cls M.1 M.1 ∈ ps_wl ∧ ps_cl[4]? = some (M.1.cls, T, N)), pk_nil⟩⟩⟩⟩⟩, pk_nil, rfl, by decide +kernel, (ps_in 747 rfl rfl)⟩
set_option maxRecDepth 100000 in
theorem ok_Ref_dual : px_okM ps_V ps_P pm_Ref_dual := ⟨pk_co (by decide +kernel) (pk_fin (by
    show ∀ q ∈ [(16, Instr.putfield 70, 3)], _
    exact List.forall_mem_cons.mpr ⟨pk_fn rfl rfl rfl, pk_nil⟩)), List.forall_mem_cons.mpr ⟨pk_0 ⟨_, _, _, rfl, by decide +kernel, rfl, Or.inl (ps_in 567 rfl rfl)⟩, List.forall_mem_cons.mpr ⟨pk_0 ⟨_, _, _, rfl, by decide +kernel, rfl, Or.inl (ps_in 570 rfl rfl)⟩, List.forall_mem_cons.mpr ⟨pk_0 ⟨_, _, _, rfl, by decide +kernel, rfl, Or.inl (ps_in 571 rfl rfl)⟩, List.forall_mem_cons.mpr ⟨pk_0 ⟨_, _, _, rfl, by decide +kernel, rfl, Or.inl (ps_in 572 rfl rfl)⟩, List.forall_mem_cons.mpr ⟨pk_0 ⟨_, _, _, rfl, by decide +kernel, rfl, Or.inl (ps_in 575 rfl rfl)⟩, List.forall_mem_cons.mpr ⟨pk_0 ⟨_, _, _, rfl, by decide +kernel, rfl, Or.inl (ps_in 558 rfl rfl)⟩, List.forall_mem_cons.mpr ⟨(⟨_, _, _, rfl, ⟨Or.inl (ps_in 643 rfl rfl), (ps_in 58 rfl rfl), ⟨by decide +kernel, by decide +kernel, by decide +kernel⟩, by decide +kernel, by decide +kernel⟩, rfl, (ps_in 645 rfl rfl), (ps_in 35 rfl rfl), rfl⟩ : ∃ M T N, ps_P[56]? = some M ∧ px_lnk ps_wl "MoveOrderModel" 76 M 1 (px_fr pm_Ref_dual) (px_lo pm_Ref_dual) ∧ px_hh M = [] ∧ Cond.instanceMethod M.1 ∈ ps_wl ∧ Cond.selects M.1.cls M.1 M.1 ∈ ps_wl ∧ ps_cl[4]? = some (M.1.cls, T, N)), List.forall_mem_cons.mpr ⟨(⟨_, _, _, rfl, ⟨Or.inl (ps_in 650 rfl rfl), (ps_in 58 rfl rfl), ⟨by decide +kernel, by decide +kernel, by decide +kernel⟩, by decide +kernel, by decide +kernel⟩, rfl, (ps_in 652 rfl rfl), (ps_in 36 rfl rfl), rfl⟩ : ∃ M T N, ps_P[58]? = some M ∧ px_lnk ps_wl "MoveOrderModel" 84 M 1 (px_fr pm_Ref_dual) (px_lo pm_Ref_dual) ∧ px_hh M = [] ∧ Cond.instanceMethod M.1 ∈ ps_wl ∧ Cond.selects M.1.cls M.1 M.1 ∈ ps_wl ∧ ps_cl[4]? = some (M.1.cls, T, N)), pk_nil⟩⟩⟩⟩⟩⟩⟩⟩, pk_nil, rfl, by decide +kernel, (ps_in 751 rfl rfl)⟩
set_option maxRecDepth 100000 in
theorem ok_Law_swap : px_okM ps_V ps_P pm_Law_swap := ⟨pk_co (by decide +kernel) (pk_fin (by
    show ∀ q ∈ [], _
    exact pk_nil)), List.forall_mem_cons.mpr ⟨(⟨_, _, _, rfl, ⟨Or.inl (ps_in 531 rfl rfl), (ps_in 54 rfl rfl), ⟨by decide +kernel, by decide +kernel, by decide +kernel⟩, by decide +kernel, by decide +kernel⟩, rfl, (ps_in 531 rfl rfl), (ps_in 532 rfl rfl), (ps_in 533 rfl rfl), rfl⟩ : ∃ M T N, ps_P[50]? = some M ∧ px_lnk ps_wl "MoveOrderLaw" 39 M 2 (px_fr pm_Law_swap) (px_lo pm_Law_swap) ∧ px_hh M = [] ∧ Cond.methodLink "MoveOrderLaw" 39 M.1 ∈ ps_wl ∧ Cond.instanceMethod M.1 ∈ ps_wl ∧ Cond.selects M.1.cls M.1 M.1 ∈ ps_wl ∧ ps_cl[0]? = some (M.1.cls, T, N)), List.forall_mem_cons.mpr ⟨((ps_in 246 rfl rfl) : px_pok ps_V ps_P pm_Law_swap (13, 31, 0, 0)), pk_nil⟩⟩, List.forall_mem_cons.mpr ⟨⟨by decide +kernel, 1, rfl, by decide +kernel⟩, pk_nil⟩, rfl, by decide +kernel, (ps_in 530 rfl rfl)⟩
set_option maxRecDepth 100000 in
theorem ok_Ref_hasNeeds : px_okM ps_V ps_P pm_Ref_hasNeeds := ⟨pk_co (by decide +kernel) (pk_fin (by
    show ∀ q ∈ [], _
    exact pk_nil)), List.forall_mem_cons.mpr ⟨pk_0 ⟨_, _, _, rfl, by decide +kernel, rfl, Or.inl (ps_in 566 rfl rfl)⟩, pk_nil⟩, pk_nil, rfl, by decide +kernel, (ps_in 759 rfl rfl)⟩
set_option maxRecDepth 100000 in
theorem ok_Ref_swap : px_okM ps_V ps_P pm_Ref_swap := ⟨pk_co (by decide +kernel) (pk_fin (by
    show ∀ q ∈ [(24, Instr.putfield 70, 3)], _
    exact List.forall_mem_cons.mpr ⟨pk_fn rfl rfl rfl, pk_nil⟩)), List.forall_mem_cons.mpr ⟨pk_0 ⟨_, _, _, rfl, by decide +kernel, rfl, Or.inl (ps_in 562 rfl rfl)⟩, List.forall_mem_cons.mpr ⟨pk_0 ⟨_, _, _, rfl, by decide +kernel, rfl, Or.inl (ps_in 563 rfl rfl)⟩, List.forall_mem_cons.mpr ⟨pk_0 ⟨_, _, _, rfl, by decide +kernel, rfl, Or.inl (ps_in 564 rfl rfl)⟩, List.forall_mem_cons.mpr ⟨pk_0 ⟨_, _, _, rfl, by decide +kernel, rfl, Or.inl (ps_in 565 rfl rfl)⟩, List.forall_mem_cons.mpr ⟨pk_0 ⟨_, _, _, rfl, by decide +kernel, rfl, Or.inl (ps_in 558 rfl rfl)⟩, List.forall_mem_cons.mpr ⟨(⟨_, _, _, rfl, ⟨Or.inl (ps_in 650 rfl rfl), (ps_in 58 rfl rfl), ⟨by decide +kernel, by decide +kernel, by decide +kernel⟩, by decide +kernel, by decide +kernel⟩, rfl, (ps_in 652 rfl rfl), (ps_in 36 rfl rfl), rfl⟩ : ∃ M T N, ps_P[58]? = some M ∧ px_lnk ps_wl "MoveOrderModel" 84 M 1 (px_fr pm_Ref_swap) (px_lo pm_Ref_swap) ∧ px_hh M = [] ∧ Cond.instanceMethod M.1 ∈ ps_wl ∧ Cond.selects M.1.cls M.1 M.1 ∈ ps_wl ∧ ps_cl[4]? = some (M.1.cls, T, N)), List.forall_mem_cons.mpr ⟨(⟨_, _, _, rfl, ⟨Or.inl (ps_in 662 rfl rfl), (ps_in 58 rfl rfl), ⟨by decide +kernel, by decide +kernel, by decide +kernel⟩, by decide +kernel, by decide +kernel⟩, rfl, (ps_in 664 rfl rfl), (ps_in 39 rfl rfl), rfl⟩ : ∃ M T N, ps_P[61]? = some M ∧ px_lnk ps_wl "MoveOrderModel" 95 M 1 (px_fr pm_Ref_swap) (px_lo pm_Ref_swap) ∧ px_hh M = [] ∧ Cond.instanceMethod M.1 ∈ ps_wl ∧ Cond.selects M.1.cls M.1 M.1 ∈ ps_wl ∧ ps_cl[4]? = some (M.1.cls, T, N)), List.forall_mem_cons.mpr ⟨(⟨_, _, _, rfl, ⟨Or.inl (ps_in 670 rfl rfl), (ps_in 58 rfl rfl), ⟨by decide +kernel, by decide +kernel, by decide +kernel⟩, by decide +kernel, by decide +kernel⟩, rfl, (ps_in 672 rfl rfl), (ps_in 40 rfl rfl), rfl⟩ : ∃ M T N, ps_P[64]? = some M ∧ px_lnk ps_wl "MoveOrderModel" 99 M 1 (px_fr pm_Ref_swap) (px_lo pm_Ref_swap) ∧ px_hh M = [] ∧ Cond.instanceMethod M.1 ∈ ps_wl ∧ Cond.selects M.1.cls M.1 M.1 ∈ ps_wl ∧ ps_cl[4]? = some (M.1.cls, T, N)), List.forall_mem_cons.mpr ⟨(⟨_, _, _, rfl, ⟨Or.inl (ps_in 756 rfl rfl), (ps_in 58 rfl rfl), ⟨by decide +kernel, by decide +kernel, by decide +kernel⟩, by decide +kernel, by decide +kernel⟩, rfl, (ps_in 758 rfl rfl), (ps_in 52 rfl rfl), rfl⟩ : ∃ M T N, ps_P[91]? = some M ∧ px_lnk ps_wl "MoveOrderModel" 169 M 1 (px_fr pm_Ref_swap) (px_lo pm_Ref_swap) ∧ px_hh M = [] ∧ Cond.instanceMethod M.1 ∈ ps_wl ∧ Cond.selects M.1.cls M.1 M.1 ∈ ps_wl ∧ ps_cl[4]? = some (M.1.cls, T, N)), pk_nil⟩⟩⟩⟩⟩⟩⟩⟩⟩, pk_nil, rfl, by decide +kernel, (ps_in 755 rfl rfl)⟩
set_option maxRecDepth 100000 in
theorem ok_Law_look : px_okM ps_V ps_P pm_Law_look := ⟨pk_co (by decide +kernel) (pk_fin (by
    show ∀ q ∈ [], _
    exact pk_nil)), List.forall_mem_cons.mpr ⟨(⟨_, _, _, rfl, ⟨Or.inl (ps_in 547 rfl rfl), (ps_in 54 rfl rfl), ⟨by decide +kernel, by decide +kernel, by decide +kernel⟩, by decide +kernel, by decide +kernel⟩, rfl, (ps_in 547 rfl rfl), (ps_in 548 rfl rfl), (ps_in 549 rfl rfl), rfl⟩ : ∃ M T N, ps_P[29]? = some M ∧ px_lnk ps_wl "MoveOrderLaw" 42 M 2 (px_fr pm_Law_look) (px_lo pm_Law_look) ∧ px_hh M = [] ∧ Cond.methodLink "MoveOrderLaw" 42 M.1 ∈ ps_wl ∧ Cond.instanceMethod M.1 ∈ ps_wl ∧ Cond.selects M.1.cls M.1 M.1 ∈ ps_wl ∧ ps_cl[0]? = some (M.1.cls, T, N)), List.forall_mem_cons.mpr ⟨((ps_in 459 rfl rfl) : px_pok ps_V ps_P pm_Law_look (24, 33, 0, 0)), pk_nil⟩⟩, List.forall_mem_cons.mpr ⟨⟨by decide +kernel, 3, rfl, by decide +kernel⟩, pk_nil⟩, rfl, by decide +kernel, (ps_in 546 rfl rfl)⟩
set_option maxRecDepth 100000 in
theorem ok_Ref_look : px_okM ps_V ps_P pm_Ref_look := ⟨pk_co (by decide +kernel) (pk_fin (by
    show ∀ q ∈ [(25, Instr.putfield 70, 3)], _
    exact List.forall_mem_cons.mpr ⟨pk_fn rfl rfl rfl, pk_nil⟩)), List.forall_mem_cons.mpr ⟨pk_0 ⟨_, _, _, rfl, by decide +kernel, rfl, Or.inl (ps_in 562 rfl rfl)⟩, List.forall_mem_cons.mpr ⟨pk_0 ⟨_, _, _, rfl, by decide +kernel, rfl, Or.inl (ps_in 563 rfl rfl)⟩, List.forall_mem_cons.mpr ⟨pk_0 ⟨_, _, _, rfl, by decide +kernel, rfl, Or.inl (ps_in 564 rfl rfl)⟩, List.forall_mem_cons.mpr ⟨pk_0 ⟨_, _, _, rfl, by decide +kernel, rfl, Or.inl (ps_in 565 rfl rfl)⟩, List.forall_mem_cons.mpr ⟨pk_0 ⟨_, _, _, rfl, by decide +kernel, rfl, Or.inl (ps_in 558 rfl rfl)⟩, List.forall_mem_cons.mpr ⟨pk_5 ⟨_, rfl, ⟨Or.inl (ps_in 647 rfl rfl), (ps_in 58 rfl rfl), ⟨by decide +kernel, by decide +kernel, by decide +kernel⟩, by decide +kernel, by decide +kernel⟩, (ps_in 648 rfl rfl), Or.inl rfl⟩, List.forall_mem_cons.mpr ⟨(⟨_, _, _, rfl, ⟨Or.inl (ps_in 650 rfl rfl), (ps_in 58 rfl rfl), ⟨by decide +kernel, by decide +kernel, by decide +kernel⟩, by decide +kernel, by decide +kernel⟩, rfl, (ps_in 652 rfl rfl), (ps_in 36 rfl rfl), rfl⟩ : ∃ M T N, ps_P[58]? = some M ∧ px_lnk ps_wl "MoveOrderModel" 84 M 1 (px_fr pm_Ref_look) (px_lo pm_Ref_look) ∧ px_hh M = [] ∧ Cond.instanceMethod M.1 ∈ ps_wl ∧ Cond.selects M.1.cls M.1 M.1 ∈ ps_wl ∧ ps_cl[4]? = some (M.1.cls, T, N)), List.forall_mem_cons.mpr ⟨(⟨_, _, _, rfl, ⟨Or.inl (ps_in 670 rfl rfl), (ps_in 58 rfl rfl), ⟨by decide +kernel, by decide +kernel, by decide +kernel⟩, by decide +kernel, by decide +kernel⟩, rfl, (ps_in 672 rfl rfl), (ps_in 40 rfl rfl), rfl⟩ : ∃ M T N, ps_P[64]? = some M ∧ px_lnk ps_wl "MoveOrderModel" 99 M 1 (px_fr pm_Ref_look) (px_lo pm_Ref_look) ∧ px_hh M = [] ∧ Cond.instanceMethod M.1 ∈ ps_wl ∧ Cond.selects M.1.cls M.1 M.1 ∈ ps_wl ∧ ps_cl[4]? = some (M.1.cls, T, N)), pk_nil⟩⟩⟩⟩⟩⟩⟩⟩, pk_nil, rfl, by decide +kernel, (ps_in 763 rfl rfl)⟩
set_option maxRecDepth 100000 in
theorem ok_Ref_count : px_okM ps_V ps_P pm_Ref_count := ⟨pk_co (by decide +kernel) (pk_fin (by
    show ∀ q ∈ [(2, Instr.putfield 70, 3)], _
    exact List.forall_mem_cons.mpr ⟨pk_fn rfl rfl rfl, pk_nil⟩)), List.forall_mem_cons.mpr ⟨pk_0 ⟨_, _, _, rfl, by decide +kernel, rfl, Or.inl (ps_in 564 rfl rfl)⟩, List.forall_mem_cons.mpr ⟨pk_0 ⟨_, _, _, rfl, by decide +kernel, rfl, Or.inl (ps_in 567 rfl rfl)⟩, List.forall_mem_cons.mpr ⟨pk_0 ⟨_, _, _, rfl, by decide +kernel, rfl, Or.inl (ps_in 570 rfl rfl)⟩, List.forall_mem_cons.mpr ⟨pk_0 ⟨_, _, _, rfl, by decide +kernel, rfl, Or.inl (ps_in 571 rfl rfl)⟩, List.forall_mem_cons.mpr ⟨pk_0 ⟨_, _, _, rfl, by decide +kernel, rfl, Or.inl (ps_in 572 rfl rfl)⟩, List.forall_mem_cons.mpr ⟨pk_0 ⟨_, _, _, rfl, by decide +kernel, rfl, Or.inl (ps_in 558 rfl rfl)⟩, List.forall_mem_cons.mpr ⟨pk_0 ⟨_, _, _, rfl, by decide +kernel, rfl, Or.inl (ps_in 561 rfl rfl)⟩, List.forall_mem_cons.mpr ⟨(⟨_, _, _, rfl, ⟨Or.inl (ps_in 643 rfl rfl), (ps_in 58 rfl rfl), ⟨by decide +kernel, by decide +kernel, by decide +kernel⟩, by decide +kernel, by decide +kernel⟩, rfl, (ps_in 645 rfl rfl), (ps_in 35 rfl rfl), rfl⟩ : ∃ M T N, ps_P[56]? = some M ∧ px_lnk ps_wl "MoveOrderModel" 76 M 1 (px_fr pm_Ref_count) (px_lo pm_Ref_count) ∧ px_hh M = [] ∧ Cond.instanceMethod M.1 ∈ ps_wl ∧ Cond.selects M.1.cls M.1 M.1 ∈ ps_wl ∧ ps_cl[4]? = some (M.1.cls, T, N)), List.forall_mem_cons.mpr ⟨pk_0 ⟨_, _, _, rfl, by decide +kernel, rfl, Or.inl (ps_in 568 rfl rfl)⟩, List.forall_mem_cons.mpr ⟨pk_0 ⟨_, _, _, rfl, by decide +kernel, rfl, Or.inl (ps_in 569 rfl rfl)⟩, pk_nil⟩⟩⟩⟩⟩⟩⟩⟩⟩⟩, pk_nil, rfl, by decide +kernel, (ps_in 767 rfl rfl)⟩
set_option maxRecDepth 100000 in
theorem ok_Law_law : px_okM ps_V ps_P pm_Law_law := ⟨pk_co (by decide +kernel) (pk_fin (by
    show ∀ q ∈ [], _
    exact pk_nil)), List.forall_mem_cons.mpr ⟨pk_2 ⟨_, _, rfl, (ps_in 66 rfl rfl), (ps_in 67 rfl rfl), (ps_in 54 rfl rfl)⟩, List.forall_mem_cons.mpr ⟨pk_5 ⟨_, rfl, ⟨Or.inl (ps_in 240 rfl rfl), (ps_in 53 rfl rfl), ⟨by decide +kernel, by decide +kernel, by decide +kernel⟩, by decide +kernel, by decide +kernel⟩, (ps_in 241 rfl rfl), Or.inl rfl⟩, List.forall_mem_cons.mpr ⟨pk_1 ⟨_, rfl, ⟨Or.inl (ps_in 68 rfl rfl), (ps_in 54 rfl rfl), ⟨by decide +kernel, by decide +kernel, by decide +kernel⟩, by decide +kernel, by decide +kernel⟩, rfl, rfl, rfl, (ps_in 69 rfl rfl)⟩, List.forall_mem_cons.mpr ⟨pk_2 ⟨_, _, rfl, (ps_in 552 rfl rfl), (ps_in 553 rfl rfl), (ps_in 58 rfl rfl)⟩, List.forall_mem_cons.mpr ⟨pk_1 ⟨_, rfl, ⟨Or.inl (ps_in 554 rfl rfl), (ps_in 58 rfl rfl), ⟨by decide +kernel, by decide +kernel, by decide +kernel⟩, by decide +kernel, by decide +kernel⟩, rfl, rfl, rfl, (ps_in 555 rfl rfl)⟩, List.forall_mem_cons.mpr ⟨pk_5 ⟨_, rfl, ⟨Or.inl (ps_in 243 rfl rfl), (ps_in 53 rfl rfl), ⟨by decide +kernel, by decide +kernel, by decide +kernel⟩, by decide +kernel, by decide +kernel⟩, (ps_in 244 rfl rfl), Or.inr (ps_in 243 rfl rfl)⟩, List.forall_mem_cons.mpr ⟨(⟨_, _, _, rfl, ⟨Or.inl (ps_in 639 rfl rfl), (ps_in 58 rfl rfl), ⟨by decide +kernel, by decide +kernel, by decide +kernel⟩, by decide +kernel, by decide +kernel⟩, rfl, (ps_in 640 rfl rfl), (ps_in 641 rfl rfl), rfl⟩ : ∃ M T N, ps_P[62]? = some M ∧ px_lnk ps_wl "MoveOrderLaw" 60 M 3 (px_fr pm_Law_law) (px_lo pm_Law_law) ∧ px_hh M = [] ∧ Cond.instanceMethod M.1 ∈ ps_wl ∧ Cond.selects M.1.cls M.1 M.1 ∈ ps_wl ∧ ps_cl[4]? = some (M.1.cls, T, N)), List.forall_mem_cons.mpr ⟨(⟨_, _, _, rfl, ⟨Or.inl (ps_in 635 rfl rfl), (ps_in 58 rfl rfl), ⟨by decide +kernel, by decide +kernel, by decide +kernel⟩, by decide +kernel, by decide +kernel⟩, rfl, (ps_in 636 rfl rfl), (ps_in 637 rfl rfl), rfl⟩ : ∃ M T N, ps_P[63]? = some M ∧ px_lnk ps_wl "MoveOrderLaw" 61 M 0 (px_fr pm_Law_law) (px_lo pm_Law_law) ∧ px_hh M = [] ∧ Cond.instanceMethod M.1 ∈ ps_wl ∧ Cond.selects M.1.cls M.1 M.1 ∈ ps_wl ∧ ps_cl[4]? = some (M.1.cls, T, N)), List.forall_mem_cons.mpr ⟨(⟨_, _, _, rfl, ⟨Or.inl (ps_in 191 rfl rfl), (ps_in 54 rfl rfl), ⟨by decide +kernel, by decide +kernel, by decide +kernel⟩, by decide +kernel, by decide +kernel⟩, rfl, (ps_in 192 rfl rfl), (ps_in 193 rfl rfl), rfl⟩ : ∃ M T N, ps_P[10]? = some M ∧ px_lnk ps_wl "MoveOrderLaw" 65 M 2 (px_fr pm_Law_law) (px_lo pm_Law_law) ∧ px_hh M = [] ∧ Cond.instanceMethod M.1 ∈ ps_wl ∧ Cond.selects M.1.cls M.1 M.1 ∈ ps_wl ∧ ps_cl[0]? = some (M.1.cls, T, N)), List.forall_mem_cons.mpr ⟨(⟨_, _, _, rfl, ⟨Or.inl (ps_in 666 rfl rfl), (ps_in 58 rfl rfl), ⟨by decide +kernel, by decide +kernel, by decide +kernel⟩, by decide +kernel, by decide +kernel⟩, rfl, (ps_in 667 rfl rfl), (ps_in 668 rfl rfl), rfl⟩ : ∃ M T N, ps_P[66]? = some M ∧ px_lnk ps_wl "MoveOrderLaw" 69 M 2 (px_fr pm_Law_law) (px_lo pm_Law_law) ∧ px_hh M = [] ∧ Cond.instanceMethod M.1 ∈ ps_wl ∧ Cond.selects M.1.cls M.1 M.1 ∈ ps_wl ∧ ps_cl[4]? = some (M.1.cls, T, N)), List.forall_mem_cons.mpr ⟨pk_5 ⟨_, rfl, ⟨Or.inl (ps_in 377 rfl rfl), (ps_in 53 rfl rfl), ⟨by decide +kernel, by decide +kernel, by decide +kernel⟩, by decide +kernel, by decide +kernel⟩, (ps_in 378 rfl rfl), Or.inr (ps_in 377 rfl rfl)⟩, List.forall_mem_cons.mpr ⟨(⟨_, _, _, rfl, ⟨Or.inl (ps_in 678 rfl rfl), (ps_in 58 rfl rfl), ⟨by decide +kernel, by decide +kernel, by decide +kernel⟩, by decide +kernel, by decide +kernel⟩, rfl, (ps_in 679 rfl rfl), (ps_in 680 rfl rfl), rfl⟩ : ∃ M T N, ps_P[79]? = some M ∧ px_lnk ps_wl "MoveOrderLaw" 73 M 1 (px_fr pm_Law_law) (px_lo pm_Law_law) ∧ px_hh M = [] ∧ Cond.instanceMethod M.1 ∈ ps_wl ∧ Cond.selects M.1.cls M.1 M.1 ∈ ps_wl ∧ ps_cl[4]? = some (M.1.cls, T, N)), List.forall_mem_cons.mpr ⟨pk_5 ⟨_, rfl, ⟨Or.inl (ps_in 456 rfl rfl), (ps_in 53 rfl rfl), ⟨by decide +kernel, by decide +kernel, by decide +kernel⟩, by decide +kernel, by decide +kernel⟩, (ps_in 457 rfl rfl), Or.inr (ps_in 456 rfl rfl)⟩, List.forall_mem_cons.mpr ⟨(⟨_, _, _, rfl, ⟨Or.inl (ps_in 728 rfl rfl), (ps_in 58 rfl rfl), ⟨by decide +kernel, by decide +kernel, by decide +kernel⟩, by decide +kernel, by decide +kernel⟩, rfl, (ps_in 729 rfl rfl), (ps_in 730 rfl rfl), rfl⟩ : ∃ M T N, ps_P[81]? = some M ∧ px_lnk ps_wl "MoveOrderLaw" 76 M 3 (px_fr pm_Law_law) (px_lo pm_Law_law) ∧ px_hh M = [] ∧ Cond.instanceMethod M.1 ∈ ps_wl ∧ Cond.selects M.1.cls M.1 M.1 ∈ ps_wl ∧ ps_cl[4]? = some (M.1.cls, T, N)), List.forall_mem_cons.mpr ⟨pk_5 ⟨_, rfl, ⟨Or.inl (ps_in 481 rfl rfl), (ps_in 53 rfl rfl), ⟨by decide +kernel, by decide +kernel, by decide +kernel⟩, by decide +kernel, by decide +kernel⟩, (ps_in 482 rfl rfl), Or.inr (ps_in 481 rfl rfl)⟩, List.forall_mem_cons.mpr ⟨(⟨_, _, _, rfl, ⟨Or.inl (ps_in 732 rfl rfl), (ps_in 58 rfl rfl), ⟨by decide +kernel, by decide +kernel, by decide +kernel⟩, by decide +kernel, by decide +kernel⟩, rfl, (ps_in 733 rfl rfl), (ps_in 734 rfl rfl), rfl⟩ : ∃ M T N, ps_P[83]? = some M ∧ px_lnk ps_wl "MoveOrderLaw" 79 M 1 (px_fr pm_Law_law) (px_lo pm_Law_law) ∧ px_hh M = [] ∧ Cond.instanceMethod M.1 ∈ ps_wl ∧ Cond.selects M.1.cls M.1 M.1 ∈ ps_wl ∧ ps_cl[4]? = some (M.1.cls, T, N)), List.forall_mem_cons.mpr ⟨pk_5 ⟨_, rfl, ⟨Or.inl (ps_in 489 rfl rfl), (ps_in 53 rfl rfl), ⟨by decide +kernel, by decide +kernel, by decide +kernel⟩, by decide +kernel, by decide +kernel⟩, (ps_in 490 rfl rfl), Or.inr (ps_in 489 rfl rfl)⟩, List.forall_mem_cons.mpr ⟨(⟨_, _, _, rfl, ⟨Or.inl (ps_in 736 rfl rfl), (ps_in 58 rfl rfl), ⟨by decide +kernel, by decide +kernel, by decide +kernel⟩, by decide +kernel, by decide +kernel⟩, rfl, (ps_in 737 rfl rfl), (ps_in 738 rfl rfl), rfl⟩ : ∃ M T N, ps_P[86]? = some M ∧ px_lnk ps_wl "MoveOrderLaw" 82 M 1 (px_fr pm_Law_law) (px_lo pm_Law_law) ∧ px_hh M = [] ∧ Cond.instanceMethod M.1 ∈ ps_wl ∧ Cond.selects M.1.cls M.1 M.1 ∈ ps_wl ∧ ps_cl[4]? = some (M.1.cls, T, N)), List.forall_mem_cons.mpr ⟨pk_5 ⟨_, rfl, ⟨Or.inl (ps_in 508 rfl rfl), (ps_in 53 rfl rfl), ⟨by decide +kernel, by decide +kernel, by decide +kernel⟩, by decide +kernel, by decide +kernel⟩, (ps_in 509 rfl rfl), Or.inr (ps_in 508 rfl rfl)⟩, List.forall_mem_cons.mpr ⟨(⟨_, _, _, rfl, ⟨Or.inl (ps_in 744 rfl rfl), (ps_in 58 rfl rfl), ⟨by decide +kernel, by decide +kernel, by decide +kernel⟩, by decide +kernel, by decide +kernel⟩, rfl, (ps_in 745 rfl rfl), (ps_in 746 rfl rfl), rfl⟩ : ∃ M T N, ps_P[88]? = some M ∧ px_lnk ps_wl "MoveOrderLaw" 86 M 2 (px_fr pm_Law_law) (px_lo pm_Law_law) ∧ px_hh M = [] ∧ Cond.instanceMethod M.1 ∈ ps_wl ∧ Cond.selects M.1.cls M.1 M.1 ∈ ps_wl ∧ ps_cl[4]? = some (M.1.cls, T, N)), List.forall_mem_cons.mpr ⟨pk_5 ⟨_, rfl, ⟨Or.inl (ps_in 517 rfl rfl), (ps_in 53 rfl rfl), ⟨by decide +kernel, by decide +kernel, by decide +kernel⟩, by decide +kernel, by decide +kernel⟩, (ps_in 518 rfl rfl), Or.inr (ps_in 517 rfl rfl)⟩, List.forall_mem_cons.mpr ⟨(⟨_, _, _, rfl, ⟨Or.inl (ps_in 748 rfl rfl), (ps_in 58 rfl rfl), ⟨by decide +kernel, by decide +kernel, by decide +kernel⟩, by decide +kernel, by decide +kernel⟩, rfl, (ps_in 749 rfl rfl), (ps_in 750 rfl rfl), rfl⟩ : ∃ M T N, ps_P[89]? = some M ∧ px_lnk ps_wl "MoveOrderLaw" 89 M 1 (px_fr pm_Law_law) (px_lo pm_Law_law) ∧ px_hh M = [] ∧ Cond.instanceMethod M.1 ∈ ps_wl ∧ Cond.selects M.1.cls M.1 M.1 ∈ ps_wl ∧ ps_cl[4]? = some (M.1.cls, T, N)), List.forall_mem_cons.mpr ⟨pk_5 ⟨_, rfl, ⟨Or.inl (ps_in 528 rfl rfl), (ps_in 53 rfl rfl), ⟨by decide +kernel, by decide +kernel, by decide +kernel⟩, by decide +kernel, by decide +kernel⟩, (ps_in 529 rfl rfl), Or.inr (ps_in 528 rfl rfl)⟩, List.forall_mem_cons.mpr ⟨(⟨_, _, _, rfl, ⟨Or.inl (ps_in 752 rfl rfl), (ps_in 58 rfl rfl), ⟨by decide +kernel, by decide +kernel, by decide +kernel⟩, by decide +kernel, by decide +kernel⟩, rfl, (ps_in 753 rfl rfl), (ps_in 754 rfl rfl), rfl⟩ : ∃ M T N, ps_P[92]? = some M ∧ px_lnk ps_wl "MoveOrderLaw" 92 M 2 (px_fr pm_Law_law) (px_lo pm_Law_law) ∧ px_hh M = [] ∧ Cond.instanceMethod M.1 ∈ ps_wl ∧ Cond.selects M.1.cls M.1 M.1 ∈ ps_wl ∧ ps_cl[4]? = some (M.1.cls, T, N)), List.forall_mem_cons.mpr ⟨pk_5 ⟨_, rfl, ⟨Or.inl (ps_in 544 rfl rfl), (ps_in 53 rfl rfl), ⟨by decide +kernel, by decide +kernel, by decide +kernel⟩, by decide +kernel, by decide +kernel⟩, (ps_in 545 rfl rfl), Or.inr (ps_in 544 rfl rfl)⟩, List.forall_mem_cons.mpr ⟨(⟨_, _, _, rfl, ⟨Or.inl (ps_in 760 rfl rfl), (ps_in 58 rfl rfl), ⟨by decide +kernel, by decide +kernel, by decide +kernel⟩, by decide +kernel, by decide +kernel⟩, rfl, (ps_in 761 rfl rfl), (ps_in 762 rfl rfl), rfl⟩ : ∃ M T N, ps_P[94]? = some M ∧ px_lnk ps_wl "MoveOrderLaw" 95 M 2 (px_fr pm_Law_law) (px_lo pm_Law_law) ∧ px_hh M = [] ∧ Cond.instanceMethod M.1 ∈ ps_wl ∧ Cond.selects M.1.cls M.1 M.1 ∈ ps_wl ∧ ps_cl[4]? = some (M.1.cls, T, N)), List.forall_mem_cons.mpr ⟨(⟨_, _, _, rfl, ⟨Or.inl (ps_in 224 rfl rfl), (ps_in 54 rfl rfl), ⟨by decide +kernel, by decide +kernel, by decide +kernel⟩, by decide +kernel, by decide +kernel⟩, rfl, (ps_in 225 rfl rfl), (ps_in 226 rfl rfl), rfl⟩ : ∃ M T N, ps_P[19]? = some M ∧ px_lnk ps_wl "MoveOrderLaw" 96 M 1 (px_fr pm_Law_law) (px_lo pm_Law_law) ∧ px_hh M = [] ∧ Cond.instanceMethod M.1 ∈ ps_wl ∧ Cond.selects M.1.cls M.1 M.1 ∈ ps_wl ∧ ps_cl[0]? = some (M.1.cls, T, N)), List.forall_mem_cons.mpr ⟨(⟨_, _, _, rfl, ⟨Or.inl (ps_in 764 rfl rfl), (ps_in 58 rfl rfl), ⟨by decide +kernel, by decide +kernel, by decide +kernel⟩, by decide +kernel, by decide +kernel⟩, rfl, (ps_in 765 rfl rfl), (ps_in 766 rfl rfl), rfl⟩ : ∃ M T N, ps_P[95]? = some M ∧ px_lnk ps_wl "MoveOrderLaw" 99 M 1 (px_fr pm_Law_law) (px_lo pm_Law_law) ∧ px_hh M = [] ∧ Cond.instanceMethod M.1 ∈ ps_wl ∧ Cond.selects M.1.cls M.1 M.1 ∈ ps_wl ∧ ps_cl[4]? = some (M.1.cls, T, N)), pk_nil⟩⟩⟩⟩⟩⟩⟩⟩⟩⟩⟩⟩⟩⟩⟩⟩⟩⟩⟩⟩⟩⟩⟩⟩⟩⟩⟩⟩, pk_nil, rfl, by decide +kernel, List.mem_cons_self⟩
end
section
theorem oc_w0 : ∀ w ∈ u_ws "MoveOrder" ps_TMo 7, w ∈ ps_wl := pw_all (by decide +kernel)
theorem oc_t0 : ∀ k, k < 7 → parseFieldDescriptor (ps_TMo k).2.2.1 = some (ps_tMo k) := by decide +kernel
theorem oc_n0 : ∀ a, a < 7 → ∀ b, b < 7 → a ≠ b → (ps_TMo a).2.1 ≠ (ps_TMo b).2.1 := by decide +kernel
theorem oc_d0 : ∀ j, j < 7 → defaultValue (ps_tMo j) = vp_V (ps_df 0) j := by decide +kernel
theorem oc_w1 : ∀ w ∈ u_ws "MoveOrder$Bay" ps_TBay 7, w ∈ ps_wl := pw_all (by decide +kernel)
theorem oc_t1 : ∀ k, k < 7 → parseFieldDescriptor (ps_TBay k).2.2.1 = some (ps_tBay k) := by decide +kernel
theorem oc_n1 : ∀ a, a < 7 → ∀ b, b < 7 → a ≠ b → (ps_TBay a).2.1 ≠ (ps_TBay b).2.1 := by decide +kernel
theorem oc_d1 : ∀ j, j < 7 → defaultValue (ps_tBay j) = vp_V (ps_df 1) j := by decide +kernel
theorem oc_w2 : ∀ w ∈ u_ws "MoveOrder$Box" ps_TBox 5, w ∈ ps_wl := pw_all (by decide +kernel)
theorem oc_t2 : ∀ k, k < 5 → parseFieldDescriptor (ps_TBox k).2.2.1 = some (ps_tBox k) := by decide +kernel
theorem oc_n2 : ∀ a, a < 5 → ∀ b, b < 5 → a ≠ b → (ps_TBox a).2.1 ≠ (ps_TBox b).2.1 := by decide +kernel
theorem oc_d2 : ∀ j, j < 5 → defaultValue (ps_tBox j) = vp_V (ps_df 2) j := by decide +kernel
theorem oc_w3 : ∀ w ∈ u_ws "MoveOrder$Search" ps_TSea 14, w ∈ ps_wl := pw_all (by decide +kernel)
theorem oc_t3 : ∀ k, k < 14 → parseFieldDescriptor (ps_TSea k).2.2.1 = some (ps_tSea k) := by decide +kernel
theorem oc_n3 : ∀ a, a < 14 → ∀ b, b < 14 → a ≠ b → (ps_TSea a).2.1 ≠ (ps_TSea b).2.1 := by decide +kernel
theorem oc_d3 : ∀ j, j < 14 → defaultValue (ps_tSea j) = vp_V (ps_df 3) j := by decide +kernel
theorem oc_w4 : ∀ w ∈ u_ws "MoveOrderModel" ps_TRef 25, w ∈ ps_wl := pw_all (by decide +kernel)
theorem oc_t4 : ∀ k, k < 25 → parseFieldDescriptor (ps_TRef k).2.2.1 = some (ps_tRef k) := by decide +kernel
theorem oc_n4 : ∀ a, a < 25 → ∀ b, b < 25 → a ≠ b → (ps_TRef a).2.1 ≠ (ps_TRef b).2.1 := by decide +kernel
theorem oc_d4 : ∀ j, j < 25 → defaultValue (ps_tRef j) = vp_V (ps_df 4) j := by decide +kernel
set_option maxRecDepth 100000 in
theorem oc_all : px_okC ps_V ps_Y := by
  refine ⟨?_, rfl, rfl, rfl, ?_, ps_wl_ok, ?_⟩
  · intro ci C T N h
    match ci, h with
    | 0, h => cases h; exact ⟨oc_w0, oc_t0, oc_n0, oc_d0⟩
    | 1, h => cases h; exact ⟨oc_w1, oc_t1, oc_n1, oc_d1⟩
    | 2, h => cases h; exact ⟨oc_w2, oc_t2, oc_n2, oc_d2⟩
    | 3, h => cases h; exact ⟨oc_w3, oc_t3, oc_n3, oc_d3⟩
    | 4, h => cases h; exact ⟨oc_w4, oc_t4, oc_n4, oc_d4⟩
    | ci + 5, h => simp [ps_cl] at h
  · intro t ht
    have ht5 : t < 5 := ht.2
    rcases (by omega : t = 3 ∨ t = 4) with rfl | rfl
    · exact ⟨_, rfl, rfl⟩
    · exact ⟨_, rfl, rfl⟩
  · intro k1 k2 h1 h2
    rcases h1 with rfl | rfl | rfl <;> rcases h2 with rfl | rfl | rfl
    · exact ⟨fun _ => ps_in 254 rfl rfl, fun h => absurd rfl h⟩
    · exact ⟨fun h => absurd h (by decide), fun _ => List.mem_of_getElem? (i := 0) rfl⟩
    · exact ⟨fun h => absurd h (by decide), fun _ => List.mem_of_getElem? (i := 1) rfl⟩
    · exact ⟨fun h => absurd h (by decide), fun _ => List.mem_of_getElem? (i := 2) rfl⟩
    · exact ⟨fun _ => ps_in 334 rfl rfl, fun h => absurd rfl h⟩
    · exact ⟨fun h => absurd h (by decide), fun _ => List.mem_of_getElem? (i := 3) rfl⟩
    · exact ⟨fun h => absurd h (by decide), fun _ => List.mem_of_getElem? (i := 4) rfl⟩
    · exact ⟨fun h => absurd h (by decide), fun _ => List.mem_of_getElem? (i := 5) rfl⟩
    · exact ⟨fun _ => ps_in 467 rfl rfl, fun h => absurd rfl h⟩
set_option maxRecDepth 100000 in
theorem oc_P : ∀ (j : Nat) (M : px_M), ps_P[j]? = some M → px_okM ps_V ps_P M := by
  have h : ∀ M ∈ ps_P, px_okM ps_V ps_P M := List.forall_mem_cons.mpr ⟨ok_Bay_init, List.forall_mem_cons.mpr ⟨ok_Sea_init, List.forall_mem_cons.mpr ⟨ok_Mo_init, List.forall_mem_cons.mpr ⟨ok_Mo_bayAt, List.forall_mem_cons.mpr ⟨ok_Mo_boxAt, List.forall_mem_cons.mpr ⟨ok_Box_isToLeave, List.forall_mem_cons.mpr ⟨ok_Box_follows, List.forall_mem_cons.mpr ⟨ok_Mo_comesBefore, List.forall_mem_cons.mpr ⟨ok_Bay_forgetPlan, List.forall_mem_cons.mpr ⟨ok_Mo_forgetPlanOf, List.forall_mem_cons.mpr ⟨ok_Mo_before, List.forall_mem_cons.mpr ⟨ok_Mo_heightOf, List.forall_mem_cons.mpr ⟨ok_Box_isIn, List.forall_mem_cons.mpr ⟨ok_Mo_boxesIn, List.forall_mem_cons.mpr ⟨ok_Box_init, List.forall_mem_cons.mpr ⟨ok_Mo_box, List.forall_mem_cons.mpr ⟨ok_Mo_boxesAt, List.forall_mem_cons.mpr ⟨ok_Bay_movesLeft, List.forall_mem_cons.mpr ⟨ok_Mo_countOfBay, List.forall_mem_cons.mpr ⟨ok_Mo_count, List.forall_mem_cons.mpr ⟨ok_Bay_hasMove, List.forall_mem_cons.mpr ⟨ok_Bay_movesOutLeft, List.forall_mem_cons.mpr ⟨ok_Mo_dual, List.forall_mem_cons.mpr ⟨ok_Mo_hasNeeds, List.forall_mem_cons.mpr ⟨ok_Box_liesInStack, List.forall_mem_cons.mpr ⟨ok_Box_liesBelow, List.forall_mem_cons.mpr ⟨ok_Mo_liesAboveLeaving, List.forall_mem_cons.mpr ⟨ok_Mo_least, List.forall_mem_cons.mpr ⟨ok_Mo_loads, List.forall_mem_cons.mpr ⟨ok_Mo_look, List.forall_mem_cons.mpr ⟨ok_Mo_move, List.forall_mem_cons.mpr ⟨ok_Sea_clear, List.forall_mem_cons.mpr ⟨ok_Sea_add, List.forall_mem_cons.mpr ⟨ok_Sea_isEnd, List.forall_mem_cons.mpr ⟨ok_Sea_reach, List.forall_mem_cons.mpr ⟨ok_Sea_placeOf, List.forall_mem_cons.mpr ⟨ok_Sea_measureStacks, List.forall_mem_cons.mpr ⟨ok_Sea_withPlace, List.forall_mem_cons.mpr ⟨ok_Sea_stepOf, List.forall_mem_cons.mpr ⟨ok_Sea_tryStacks, List.forall_mem_cons.mpr ⟨ok_Sea_mayGoOut, List.forall_mem_cons.mpr ⟨ok_Sea_tryTop, List.forall_mem_cons.mpr ⟨ok_Sea_tryMoves, List.forall_mem_cons.mpr ⟨ok_Bay_startPlan, List.forall_mem_cons.mpr ⟨ok_Bay_setMove, List.forall_mem_cons.mpr ⟨ok_Sea_tellPlan, List.forall_mem_cons.mpr ⟨ok_Sea_forgetSeen, List.forall_mem_cons.mpr ⟨ok_Sea_findPlan, List.forall_mem_cons.mpr ⟨ok_Mo_plan, List.forall_mem_cons.mpr ⟨ok_Box_changePlaces, List.forall_mem_cons.mpr ⟨ok_Mo_swap, List.forall_mem_cons.mpr ⟨ok_Mo_work, List.forall_mem_cons.mpr ⟨ok_Law_box, List.forall_mem_cons.mpr ⟨ok_Law_cell, List.forall_mem_cons.mpr ⟨ok_Law_dual, List.forall_mem_cons.mpr ⟨ok_Ref_init, List.forall_mem_cons.mpr ⟨ok_Ref_isBay, List.forall_mem_cons.mpr ⟨ok_Ref_in, List.forall_mem_cons.mpr ⟨ok_Ref_refuse, List.forall_mem_cons.mpr ⟨ok_Ref_there, List.forall_mem_cons.mpr ⟨ok_Ref_height, List.forall_mem_cons.mpr ⟨ok_Ref_voids, List.forall_mem_cons.mpr ⟨ok_Ref_box, List.forall_mem_cons.mpr ⟨ok_Ref_thrown, List.forall_mem_cons.mpr ⟨ok_Ref_isBox, List.forall_mem_cons.mpr ⟨ok_Ref_leads, List.forall_mem_cons.mpr ⟨ok_Ref_before, List.forall_mem_cons.mpr ⟨ok_Law_plan, List.forall_mem_cons.mpr ⟨ok_Ref_begins, List.forall_mem_cons.mpr ⟨ok_Ref_comes, List.forall_mem_cons.mpr ⟨ok_Ref_isAside, List.forall_mem_cons.mpr ⟨ok_Ref_isOut, List.forall_mem_cons.mpr ⟨ok_Ref_isEnd, List.forall_mem_cons.mpr ⟨ok_Ref_at, List.forall_mem_cons.mpr ⟨ok_Ref_top, List.forall_mem_cons.mpr ⟨ok_Ref_taken, List.forall_mem_cons.mpr ⟨ok_Ref_mayLeave, List.forall_mem_cons.mpr ⟨ok_Ref_moved, List.forall_mem_cons.mpr ⟨ok_Ref_search, List.forall_mem_cons.mpr ⟨ok_Ref_plan, List.forall_mem_cons.mpr ⟨ok_Law_move, List.forall_mem_cons.mpr ⟨ok_Ref_move, List.forall_mem_cons.mpr ⟨ok_Law_work, List.forall_mem_cons.mpr ⟨ok_Ref_work, List.forall_mem_cons.mpr ⟨ok_Law_least, List.forall_mem_cons.mpr ⟨ok_Ref_isAbove, List.forall_mem_cons.mpr ⟨ok_Ref_least, List.forall_mem_cons.mpr ⟨ok_Law_loads, List.forall_mem_cons.mpr ⟨ok_Ref_loads, List.forall_mem_cons.mpr ⟨ok_Ref_dual, List.forall_mem_cons.mpr ⟨ok_Law_swap, List.forall_mem_cons.mpr ⟨ok_Ref_hasNeeds, List.forall_mem_cons.mpr ⟨ok_Ref_swap, List.forall_mem_cons.mpr ⟨ok_Law_look, List.forall_mem_cons.mpr ⟨ok_Ref_look, List.forall_mem_cons.mpr ⟨ok_Ref_count, pk_nil⟩⟩⟩⟩⟩⟩⟩⟩⟩⟩⟩⟩⟩⟩⟩⟩⟩⟩⟩⟩⟩⟩⟩⟩⟩⟩⟩⟩⟩⟩⟩⟩⟩⟩⟩⟩⟩⟩⟩⟩⟩⟩⟩⟩⟩⟩⟩⟩⟩⟩⟩⟩⟩⟩⟩⟩⟩⟩⟩⟩⟩⟩⟩⟩⟩⟩⟩⟩⟩⟩⟩⟩⟩⟩⟩⟩⟩⟩⟩⟩⟩⟩⟩⟩⟩⟩⟩⟩⟩⟩⟩⟩⟩⟩⟩⟩
  exact fun j M hj => h M (List.mem_of_getElem? hj)
end
section
/-! THE CLAIM OUT OF ONE WALK OF THE LAW'S BODY. Your part is whole_start (and what it stands on); all else here is the same for every law, but numbers. -/
def R_law : String := "MoveOrderLaw"
def lw_P (b : Addr) (xs : List Int32) (args : Array Value) (s : State) : Prop := args = #[.ref b] ∧ s.IntsAt b xs ∧ xs.length ≤ 2050 ∧ (Jvm.Cond.and given_1 narrow_1).before args s = true
def lw_Q (_ : Array Value) (s : State) (o : Outcome) (t : State) : Prop := o = .returned (some (.int 1)) ∧ Framed s o t [] 601024 7293000
def lw_Z (below : List Frame) (a : Array Value) (s : State) : State → Prop := fun t => ∃ o, t.status = .running ∧ Ended t below o ∧ lw_Q a s o t
/-- the law's own end, with 1 on the stack, nothing written that was there before, its room as the claim has it -/
theorem lw_ret {p : Program} {l : Launch} {e : Env} {s : State} {m : MethodId} {below : List Frame} {meth : Method} {c : Code} {b : Nat} (hx : p.tables.exec = Jvm.exec) (hb : c.code = code) (hr : meth.sig.returnType = ret) (hlocks : meth.locks = false) {pc : Nat} {H : Heap} {ls : Array Slot} (hdg : decode code pc = .ok (.ireturn, 1)) : W p l e room_1 s m #[Value.ref b] below meth c H [] 601024 7293000 (lw_Z below #[Value.ref b] s) (F0 m pc ls [.int 1]) := by
  intro T hT X
  obtain ⟨fs, hret, hrun, hended, hW, hframe⟩ := X.leave (v := some (.int 1)) (hlocks := hlocks) (fun h => by rw [hr] at h; cases h)
  have hmeth' : T.vm.method? m = some meth := X.method'
  refine ⟨T.setFrames fs, ?_, .returned (some (.int 1)), hrun, hended, rfl, ⟨_, rfl⟩, hW, hframe⟩
  jvm_step X.here [X.here.top, hx, hb, hdg, hmeth', hr, ret, narrow_b1]
  (try refine ⟨rfl, ?_⟩); (try refine ⟨rfl, ?_⟩)
  first | (intro acts; rw [hret _ acts rfl rfl rfl]) | rw [hret _ _ rfl rfl rfl]
  exact Steps.refl _
/-- what holds at the law's entry: the machine, the code, the tables' words (any of lw_tbl by 'hts w (by decide +kernel)'), the script of L ints xs at the cell b, what the Statement gives of the start (any of its parts by flat_of_before) -/
def lw_At (p : Program) (s : State) (m : MethodId) (meth : Method) (c : Code) (b L : Nat) (xs : Nat → Int32) : Prop :=
  p.tables.exec = Jvm.exec ∧ c.code = code ∧ meth.sig.returnType = ret ∧ c.maxLocals = 7 ∧ s.vm.findClass R_law = some m.cls ∧ (∀ w ∈ lw_tbl, w.before #[Value.ref b] s = true) ∧ va_X b L xs s s.heap ∧ b < s.heap.size ∧ meth.locks = false ∧ (Jvm.Cond.and given_1 narrow_1).before #[Value.ref b] s = true ∧ (Cond.code x code maxLocals ret).before #[Value.ref b] s = true ∧ (∀ x ∈ c.exceptionTable.toList, False) ∧ meth.name = "law"

theorem ps_str {own : String} {k : Nat} {cls : String} {args : Array Value} {s : State} (h : (Cond.exactly (.string own k) cls).before args s = true) : ∃ q, (Term.string own k).eval args s none [] s = some (.ref q) := by
  cases hv : (Term.string own k).eval args s none [] s with
  | none => simp [Cond.before, Cond.holds, Cond.value, hv] at h
  | some w =>
    cases w with
    | ref q => exact ⟨q, rfl⟩
    | _ => cases hc : s.vm.findClass cls <;> simp [Cond.before, Cond.holds, Cond.value, hv, hc] at h
theorem ps_arr {ty : FieldType} {args : Array Value} {s : State} (h : (Cond.arrayClass ty).before args s = true) : ∃ cA : ClassId, ArrOfT s cA ty ∧ s.vm.findClass ("[" ++ ty.toString) = some cA := by
  obtain ⟨cA, kA, comp, h1, h2, h3⟩ := Cond.arrayClass_spec h
  exact ⟨cA, fun n z => ⟨fun k h => (by cases h), kA, h2, comp, h3⟩, h1⟩
theorem ps_arr2 {C : String} {args : Array Value} {s : State} (h : (Cond.arrayOver (.object C)).before args s = true) : ∃ cA : ClassId, ArrOfT s cA (.object C) ∧ va_RA s cA (.object C) := by
  obtain ⟨comp, cA, kA, h1, h2, h3, h4, h5⟩ := Cond.arrayOver_spec h
  exact ⟨cA, fun n z => ⟨fun k h => (by cases h), kA, h3, comp, h4⟩, kA, comp, h3, h4, h1, h5⟩
def ps_wx (ws : List Cond) (L : List Cond) : Bool := ws.all fun w => decide (w ∈ L)
theorem ps_wx_in {ws L : List Cond} (h : ps_wx ws L = true) : ∀ w ∈ ws, w ∈ L := fun w hw => of_decide_eq_true (List.all_eq_true.mp h w hw)
set_option maxRecDepth 100000 in
theorem ps_flat {args : Array Value} {s : State} (h : (Jvm.Cond.and given_1 narrow_1).before args s = true) : ∀ w ∈ ([.isRef (.static Bundle.tN "UNASSIGNED_STACK" Bundle.steD), .isRef (.static Bundle.tN "SUPPRESSED_SENTINEL" Bundle.listD), .not (.castable "java/lang/IllegalArgumentException" "java/lang/IllegalStateException"), .not (.castable "java/lang/IllegalArgumentException" "java/lang/IndexOutOfBoundsException"), .not (.castable "java/lang/IllegalStateException" "java/lang/IllegalArgumentException"), .not (.castable "java/lang/IllegalStateException" "java/lang/IndexOutOfBoundsException"), .not (.castable "java/lang/IndexOutOfBoundsException" "java/lang/IllegalArgumentException"), .not (.castable "java/lang/IndexOutOfBoundsException" "java/lang/IllegalStateException"), .exactly (.string "MoveOrder" 59) "java/lang/String", .exactly (.string "MoveOrder" 73) "java/lang/String", .exactly (.string "MoveOrder" 107) "java/lang/String", .exactly (.string "MoveOrder" 135) "java/lang/String", .exactly (.string "MoveOrder" 151) "java/lang/String", .exactly (.string "MoveOrder" 173) "java/lang/String", .exactly (.string "MoveOrder" 175) "java/lang/String", .exactly (.string "MoveOrder" 180) "java/lang/String", .exactly (.string "MoveOrder" 192) "java/lang/String"] : List Cond), w.before args s = true := by
  have hs := flat_of_before _ h
  exact fun w hw => hs w (ps_wx_in (by decide +kernel) w hw)
set_option maxRecDepth 100000 in
set_option maxHeartbeats 4000000 in
theorem ps_start {p : Program} {s : State} {m : MethodId} {meth : Method} {c : Code} {b L : Nat} {xs : Nat → Int32} (C0 : lw_At p s m meth c b L xs) : ∃ (D : va_G) (T : Nat → ClassId), px_K ps_V (some (b, L, xs)) (s.heap.size, s.heap, D, T) s := by
  obtain ⟨hx, hb, hr, hml, hown, hts, hX, hbl, hlocks, hgv, hcd, -, -⟩ := C0
  have hfl := ps_flat hgv
  have hwl : ∀ w ∈ ps_wl, w.before #[Value.ref b] s = true := fun w hw => by
    rcases List.mem_cons.mp hw with rfl | hw
    · exact hcd
    · exact hts w (List.mem_filter.mp hw).1
  obtain ⟨c0, i0, hK0⟩ := u_known (C := "MoveOrder") (T := ps_TMo) (N := 7) (n := 7) hwl oc_w0 (hts _ (List.mem_of_getElem? (i := 67) rfl))
  obtain ⟨c1, i1, hK1⟩ := u_known (C := "MoveOrder$Bay") (T := ps_TBay) (N := 7) (n := 7) hwl oc_w1 (hts _ (List.mem_of_getElem? (i := 84) rfl))
  obtain ⟨c2, i2, hK2⟩ := u_known (C := "MoveOrder$Box") (T := ps_TBox) (N := 5) (n := 5) hwl oc_w2 (hts _ (List.mem_of_getElem? (i := 202) rfl))
  obtain ⟨c3, i3, hK3⟩ := u_known (C := "MoveOrder$Search") (T := ps_TSea) (N := 14) (n := 14) hwl oc_w3 (hts _ (List.mem_of_getElem? (i := 120) rfl))
  obtain ⟨c4, i4, hK4⟩ := u_known (C := "MoveOrderModel") (T := ps_TRef) (N := 25) (n := 25) hwl oc_w4 (hts _ (List.mem_of_getElem? (i := 553) rfl))
  obtain ⟨t0, a0, b0⟩ := ps_arr (ty := .int) (hts _ (List.mem_of_getElem? (i := 118) rfl))
  obtain ⟨t1, a1, b1⟩ := ps_arr (ty := .long) (hts _ (List.mem_of_getElem? (i := 168) rfl))
  obtain ⟨t2, a2, b2⟩ := ps_arr (ty := .boolean) (hts _ (List.mem_of_getElem? (i := 634) rfl))
  obtain ⟨t3, a3, b3⟩ := ps_arr2 (C := "MoveOrder$Bay") (hts _ (List.mem_of_getElem? (i := 83) rfl))
  obtain ⟨t4, a4, b4⟩ := ps_arr2 (C := "MoveOrder$Box") (hts _ (List.mem_of_getElem? (i := 75) rfl))
  refine ⟨(fun k => match k with | 0 => c0 | 1 => c1 | 2 => c2 | 3 => c3 | _ => c4, fun k => match k with | 0 => i0 | 1 => i1 | 2 => i2 | 3 => i3 | _ => i4), fun k => match k with | 0 => t0 | 1 => t1 | 2 => t2 | 3 => t3 | _ => t4, ⟨?_, ?_⟩, ?_, ?_, ⟨(hts _ (List.mem_of_getElem? (i := 118) rfl)), (hts _ (List.mem_of_getElem? (i := 168) rfl)), (hts _ (List.mem_of_getElem? (i := 634) rfl))⟩, ?_, ?_, ?_, ?_, ?_⟩
  · intro k q hq
    match k, hq with
    | 0, hq => cases hq; exact hK0
    | 1, hq => cases hq; exact hK1
    | 2, hq => cases hq; exact hK2
    | 3, hq => cases hq; exact hK3
    | 4, hq => cases hq; exact hK4
    | k + 5, hq => simp [ps_cl] at hq
  · intro k q hq
    match k, hq with
    | 0, hq => cases hq; exact ⟨a0, b0⟩
    | 1, hq => cases hq; exact ⟨a1, b1⟩
    | 2, hq => cases hq; exact ⟨a2, b2⟩
    | 3, hq => cases hq; exact ⟨a3, b3⟩
    | 4, hq => cases hq; exact ⟨a4, b4⟩
    | k + 5, hq => simp [px_tys, ps_tyl] at hq
  · exact fun w hw => va_Nw.of (px_wb_on (List.all_eq_true.mp ps_wl_ok w hw)) (hwl w hw)
  · intro t C ht
    match t, ht with
    | 0, ht => cases ht
    | 1, ht => cases ht
    | 2, ht => cases ht
    | 3, ht => cases ht; exact va_AO.of (hts _ (List.mem_of_getElem? (i := 83) rfl))
    | 4, ht => cases ht; exact va_AO.of (hts _ (List.mem_of_getElem? (i := 75) rfl))
    | t + 5, ht => simp [ps_tyl] at ht
  · intro b9 N9 xs9 h9
    cases h9
    exact ⟨hbl, hX⟩
  · exact List.forall_mem_cons.mpr ⟨(ps_str (hfl _ (List.mem_of_getElem? (i := 8) rfl))).imp (fun q h => vk_R.of (hts _ (List.mem_of_getElem? (i := 293) rfl)) h), List.forall_mem_cons.mpr ⟨(ps_str (hfl _ (List.mem_of_getElem? (i := 9) rfl))).imp (fun q h => vk_R.of (hts _ (List.mem_of_getElem? (i := 341) rfl)) h), List.forall_mem_cons.mpr ⟨(ps_str (hfl _ (List.mem_of_getElem? (i := 10) rfl))).imp (fun q h => vk_R.of (hts _ (List.mem_of_getElem? (i := 384) rfl)) h), List.forall_mem_cons.mpr ⟨(ps_str (hfl _ (List.mem_of_getElem? (i := 11) rfl))).imp (fun q h => vk_R.of (hts _ (List.mem_of_getElem? (i := 474) rfl)) h), List.forall_mem_cons.mpr ⟨(ps_str (hfl _ (List.mem_of_getElem? (i := 12) rfl))).imp (fun q h => vk_R.of (hts _ (List.mem_of_getElem? (i := 488) rfl)) h), List.forall_mem_cons.mpr ⟨(ps_str (hfl _ (List.mem_of_getElem? (i := 13) rfl))).imp (fun q h => vk_R.of (hts _ (List.mem_of_getElem? (i := 515) rfl)) h), List.forall_mem_cons.mpr ⟨(ps_str (hfl _ (List.mem_of_getElem? (i := 14) rfl))).imp (fun q h => vk_R.of (hts _ (List.mem_of_getElem? (i := 516) rfl)) h), List.forall_mem_cons.mpr ⟨(ps_str (hfl _ (List.mem_of_getElem? (i := 15) rfl))).imp (fun q h => vk_R.of (hts _ (List.mem_of_getElem? (i := 535) rfl)) h), List.forall_mem_cons.mpr ⟨(ps_str (hfl _ (List.mem_of_getElem? (i := 16) rfl))).imp (fun q h => vk_R.of (hts _ (List.mem_of_getElem? (i := 551) rfl)) h), pk_nil⟩⟩⟩⟩⟩⟩⟩⟩⟩
  · exact List.forall_mem_cons.mpr ⟨va_Nc.of (hfl _ (List.mem_of_getElem? (i := 2) rfl)), List.forall_mem_cons.mpr ⟨va_Nc.of (hfl _ (List.mem_of_getElem? (i := 3) rfl)), List.forall_mem_cons.mpr ⟨va_Nc.of (hfl _ (List.mem_of_getElem? (i := 4) rfl)), List.forall_mem_cons.mpr ⟨va_Nc.of (hfl _ (List.mem_of_getElem? (i := 5) rfl)), List.forall_mem_cons.mpr ⟨va_Nc.of (hfl _ (List.mem_of_getElem? (i := 6) rfl)), List.forall_mem_cons.mpr ⟨va_Nc.of (hfl _ (List.mem_of_getElem? (i := 7) rfl)), pk_nil⟩⟩⟩⟩⟩⟩
  · exact vx_Zqof (hts _ (List.mem_of_getElem? (i := 279) rfl)) (hts _ (List.mem_of_getElem? (i := 59) rfl)) (hfl _ (List.mem_of_getElem? (i := 0) rfl)) (fun a ha h => absurd ha (Nat.not_lt.mpr h))
  · exact vx_Zqof (hts _ (List.mem_of_getElem? (i := 281) rfl)) (hts _ (List.mem_of_getElem? (i := 59) rfl)) (hfl _ (List.mem_of_getElem? (i := 1) rfl)) (fun a ha h => absurd ha (Nat.not_lt.mpr h))
end
section
/-- the law's body, in the pure picture: on the script xs of L ints at the cell b it comes to its end with 1 -/
def px_LawG (B b L : Nat) (xs : Nat → Int32) : Prop := ∀ X : px_S → Prop, px_wk X → (∀ s, px_T (px_W ps_Y ps_P B (some (b, L, xs)) 9) ps_Y B 601024 7293000 (some (b, L, xs)) pm_Law_law (fun v _ => v = some (.int 1)) (fun _ _ => False) X s → X s) → X (0, [(0, .ref b)], [], fun _ => none, 0, 0)
/-- one instruction, by its parts -/
def px_Tc (cal : px_Cal) (Y : px_L) (B mc ms : Nat) (sc : Option (Nat × Nat × (Nat → Int32))) (M : px_M) (Po : Option Value → px_P → Prop) (Pt : Nat → px_P → Prop) (X : px_S → Prop) (pc : Nat) (L : List (Nat × Value)) (st : List Value) (C : px_P) (k n : Nat) : Prop :=
  match px_ft (px_co M) pc with
  | some i => px_I cal Y B mc ms sc M.2.2.2.2.1 (px_po M) (px_hh M) Po Pt X i pc L st C k n
  | none => False
theorem px_go {cal : px_Cal} {Y : px_L} {B mc ms : Nat} {sc : Option (Nat × Nat × (Nat → Int32))} {M : px_M} {Po : Option Value → px_P → Prop} {Pt : Nat → px_P → Prop} {X : px_S → Prop} (hX : ∀ s, px_T cal Y B mc ms sc M Po Pt X s → X s) {pc : Nat} {L : List (Nat × Value)} {st : List Value} {C : px_P} {k n : Nat} (h : px_Tc cal Y B mc ms sc M Po Pt X pc L st C k n) : X (pc, L, st, C, k, n) := hX _ h
end
section
/-! The class's cells by numbers of their own: 0 the object, 1 bays, 2 boxes, 3 search, 4 .. 11 its arrays, 20 + 4 b a bay and its three arrays, 40 + j a box; the reference from 100 on; 200 the law's own array. -/
abbrev rp_K : Type := Nat → Option px_E
def rp_up (K : rp_K) (i : Nat) (e : px_E) : rp_K := fun j => if j = i then some e else K j
theorem rp_up_s (K : rp_K) (i : Nat) (e : px_E) : rp_up K i e i = some e := if_pos rfl
theorem rp_up_n (K : rp_K) {i j : Nat} (e : px_E) (h : j ≠ i) : rp_up K i e j = K j := if_neg h
def Rp (ad : Nat → Nat) (K : rp_K) (C : px_P) : Prop := (∀ i e, K i = some e → C (ad i) = some e) ∧ ∀ i j, (∃ e, K i = some e) → (∃ e, K j = some e) → ad i = ad j → i = j
theorem Rp.put {ad : Nat → Nat} {K : rp_K} {C : px_P} (h : Rp ad K C) {i : Nat} {e0 : px_E} (hi : K i = some e0) (e : px_E) : Rp ad (rp_up K i e) (px_up C (ad i) e) := by
  have hd : ∀ j, (∃ e1, rp_up K i e j = some e1) → ∃ e1, K j = some e1 := fun j ⟨e1, hj⟩ => by
    by_cases hji : j = i
    · exact ⟨e0, by rw [hji]; exact hi⟩
    · rw [rp_up_n K e hji] at hj
      exact ⟨e1, hj⟩
  refine ⟨fun j e1 hj => ?_, fun j k hj hk => h.2 j k (hd j hj) (hd k hk)⟩
  by_cases hji : j = i
  · rw [hji] at hj ⊢
    rw [rp_up_s] at hj
    rw [px_up_s]
    exact hj
  · rw [rp_up_n K e hji] at hj
    rw [px_up_n C e (fun q => hji (h.2 j i ⟨e1, hj⟩ ⟨e0, hi⟩ q))]
    exact h.1 j e1 hj
/-- a new cell gets the next number -/
theorem Rp.new {ad : Nat → Nat} {K : rp_K} {C : px_P} (h : Rp ad K C) {i q : Nat} (hi : K i = none) (hq : C q = none) (e : px_E) : Rp (va_up ad i q) (rp_up K i e) (px_up C q e) := by
  have hne : ∀ j e1, K j = some e1 → ad j ≠ q := fun j e1 hj w => by
    have := h.1 j e1 hj
    rw [w, hq] at this
    cases this
  have hij : ∀ j e1, K j = some e1 → j ≠ i := fun j e1 hj w => by
    rw [w, hi] at hj
    cases hj
  refine ⟨fun j e1 hj => ?_, fun j k ⟨e1, hj⟩ ⟨e2, hk⟩ w => ?_⟩
  · by_cases hji : j = i
    · rw [hji] at hj ⊢
      rw [rp_up_s] at hj
      rw [va_up_self, px_up_s]
      exact hj
    · rw [rp_up_n K e hji] at hj
      rw [va_up_ne ad q hji, px_up_n C e (hne j e1 hj)]
      exact h.1 j e1 hj
  · by_cases hji : j = i
    · by_cases hki : k = i
      · rw [hji, hki]
      · rw [rp_up_n K e hki] at hk
        rw [hji, va_up_self, va_up_ne ad q hki] at w
        exact absurd w.symm (hne k e2 hk)
    · rw [rp_up_n K e hji] at hj
      by_cases hki : k = i
      · rw [hki, va_up_self, va_up_ne ad q hji] at w
        exact absurd w (hne j e1 hj)
      · rw [rp_up_n K e hki] at hk
        rw [va_up_ne ad q hji, va_up_ne ad q hki] at w
        exact h.2 j k ⟨e1, hj⟩ ⟨e2, hk⟩ w
/-- the class's state: bays, tiers, boxes; moves worked, loads gone; boxes' fields; bays' numbers; bays' arrays; the search's arrays, its seen, its numbers -/
abbrev ck_S : Type := (Nat × Nat × Nat) × (Int32 × Int32) × (Nat → Nat → Int32) × (Nat → Nat → Int32) × (Nat → Nat → Nat → Int32) × (Nat → Nat → Int32) × (Nat → Int64) × (Nat → Int32)
abbrev cs_nb (σ : ck_S) : Nat := σ.1.1
abbrev cs_ti (σ : ck_S) : Nat := σ.1.2.1
abbrev cs_n (σ : ck_S) : Nat := σ.1.2.2
abbrev cs_mw (σ : ck_S) : Int32 := σ.2.1.1
abbrev cs_lg (σ : ck_S) : Int32 := σ.2.1.2
abbrev cs_bf (σ : ck_S) : Nat → Nat → Int32 := σ.2.2.1
abbrev cs_yf (σ : ck_S) : Nat → Nat → Int32 := σ.2.2.2.1
abbrev cs_ya (σ : ck_S) : Nat → Nat → Nat → Int32 := σ.2.2.2.2.1
abbrev cs_sa (σ : ck_S) : Nat → Nat → Int32 := σ.2.2.2.2.2.1
abbrev cs_sn (σ : ck_S) : Nat → Int64 := σ.2.2.2.2.2.2.1
abbrev cs_si (σ : ck_S) : Nat → Int32 := σ.2.2.2.2.2.2.2
abbrev cc_ob (ad : Nat → Nat) (σ : ck_S) : px_E := px_o 0 [.int (nI (cs_ti σ)), .ref (ad 1), .ref (ad 2), .ref (ad 3), .int (nI (cs_n σ)), .int (cs_mw σ), .int (cs_lg σ)]
abbrev cc_se (ad : Nat → Nat) (σ : ck_S) : px_E := px_o 3 [.int (nI (cs_ti σ)), .ref (ad 4), .ref (ad 5), .ref (ad 6), .ref (ad 7), .ref (ad 8), .ref (ad 9), .ref (ad 10), .ref (ad 11), .int (cs_si σ 0), .int (cs_si σ 1), .int (cs_si σ 2), .int (cs_si σ 3), .int (cs_si σ 4)]
abbrev cc_bay (ad : Nat → Nat) (σ : ck_S) (b : Nat) : px_E := px_o 1 [.ref (ad (21 + 4 * b)), .ref (ad (22 + 4 * b)), .ref (ad (23 + 4 * b)), .int (cs_yf σ b 0), .int (cs_yf σ b 1), .int (cs_yf σ b 2), .int (cs_yf σ b 3)]
abbrev cc_box (σ : ck_S) (j : Nat) : px_E := px_o 2 [.int (cs_bf σ j 0), .int (cs_bf σ j 1), .int (cs_bf σ j 2), .int (cs_bf σ j 3), .int (cs_bf σ j 4)]
/-- the class's cells lie in K as the state says -/
def Cl (ad : Nat → Nat) (σ : ck_S) (K : rp_K) : Prop :=
  (K 0 = some (cc_ob ad σ) ∧ K 1 = some (px_r 3 (cs_nb σ) (fun b => if b < cs_nb σ then some (ad (20 + 4 * b)) else none)) ∧ K 2 = some (px_r 4 16 (fun j => if j < cs_n σ then some (ad (40 + j)) else none)) ∧ K 3 = some (cc_se ad σ)) ∧
  (K 4 = some (px_i 4 (cs_sa σ 0)) ∧ K 5 = some (px_i 4 (cs_sa σ 1)) ∧ K 6 = some (px_i 3 (cs_sa σ 2)) ∧ K 7 = some (px_i 3 (cs_sa σ 3)) ∧ K 8 = some (px_i 1240 (cs_sa σ 4)) ∧ K 9 = some (px_i 1240 (cs_sa σ 5)) ∧ K 10 = some (px_i 1240 (cs_sa σ 6)) ∧ K 11 = some (px_j 1024 (cs_sn σ))) ∧
  (∀ b, b < cs_nb σ → K (20 + 4 * b) = some (cc_bay ad σ b) ∧ K (21 + 4 * b) = some (px_i 12 (cs_ya σ b 0)) ∧ K (22 + 4 * b) = some (px_i 12 (cs_ya σ b 1)) ∧ K (23 + 4 * b) = some (px_i 12 (cs_ya σ b 2))) ∧
  (∀ j, j < cs_n σ → K (40 + j) = some (cc_box σ j)) ∧ (∀ j, cs_n σ ≤ j → j < 16 → K (40 + j) = none) ∧ 1 ≤ cs_nb σ ∧ cs_nb σ ≤ 4 ∧ 1 ≤ cs_ti σ ∧ cs_ti σ ≤ 4 ∧ cs_n σ ≤ 16
abbrev px_no : Nat → px_P → Prop := fun _ _ => False
/-- an index by its number, or none -/
theorem px_ixx (x : Int32) (n : Nat) (hn : n < 2 ^ 31) : (∃ j, j < n ∧ x = nI j) ∨ (x < 0 ∨ nI n ≤ x) := by
  rcases pk_ix x hn with h | h | ⟨j, h1, h2⟩
  · exact Or.inr (Or.inl h)
  · exact Or.inr (Or.inr h)
  · exact Or.inl ⟨j, h1, h2⟩
section RC
variable {B : Nat} {sc : Option (Nat × Nat × (Nat → Int32))} {d : Nat} {ad : Nat → Nat} {σ : ck_S} {K : rp_K} {C : px_P}
theorem cc_bayAt (hR : Rp ad K C) (hc : Cl ad σ K) (x : Int32) : px_W ps_Y ps_P B sc (d + 1) 3 [.ref (ad 0), .int x] C 0 0 (fun v C' => C' = C ∧ ((∃ b, b < cs_nb σ ∧ x = nI b ∧ v = some (.ref (ad (20 + 4 * b)))) ∨ ((x < 0 ∨ nI (cs_nb σ) ≤ x) ∧ v = some .null))) px_no := by
  have h0 := hR.1 0 _ hc.1.1
  have h1 := hR.1 1 _ hc.1.2.1
  have hnb := hc.2.2.2.2.2.2.1
  refine ⟨pm_Mo_bayAt, rfl, Nat.le_of_ble_eq_true rfl, fun X hw hX => ?_⟩
  repeat refine px_go hX ?_
  refine ⟨fun c1 => ?_, fun c1 => ?_⟩
  · repeat refine px_go hX ?_
    exact ⟨rfl, Or.inr ⟨Or.inl c1, rfl⟩⟩
  · repeat refine px_go hX ?_
    refine ⟨_, _, h0, rfl, ?_⟩
    repeat refine px_go hX ?_
    refine ⟨cs_nb σ, by unfold px_len; rw [h1]; rfl, ?_⟩
    repeat refine px_go hX ?_
    refine ⟨fun c2 => ?_, fun c2 => ?_⟩
    · repeat refine px_go hX ?_
      exact ⟨rfl, Or.inr ⟨Or.inr c2, rfl⟩⟩
    · repeat refine px_go hX ?_
      refine ⟨_, _, h0, rfl, ?_⟩
      repeat refine px_go hX ?_
      rcases px_ixx x (cs_nb σ) (by omega) with ⟨j, hj, rfl⟩ | h | h
      · refine ⟨_, _, _, h1, ⟨Nat.le_refl 3, Nat.le_of_ble_eq_true rfl⟩, vp_in_nI hj (by omega), ?_⟩
        rw [nI_clamp (by omega), if_pos hj]
        repeat refine px_go hX ?_
        exact ⟨rfl, Or.inl ⟨j, hj, rfl, rfl⟩⟩
      · exact absurd h c1
      · exact absurd h c2
end RC
end
section
/-! The class's small methods. -/
def pn_ct (p : Nat → Bool) : Nat → Nat
  | 0 => 0
  | n + 1 => pn_ct p n + (bif p n then 1 else 0)
theorem pn_ct_le (p : Nat → Bool) : ∀ n, pn_ct p n ≤ n
  | 0 => Nat.le_refl 0
  | n + 1 => by
    have := pn_ct_le p n
    show pn_ct p n + _ ≤ n + 1
    cases p n
    · exact Nat.le_succ_of_le this
    · exact Nat.succ_le_succ this
theorem pn_ct_t {p : Nat → Bool} {n : Nat} (h : p n = true) : pn_ct p (n + 1) = pn_ct p n + 1 := by
  show pn_ct p n + _ = _
  rw [h]
  rfl
theorem pn_ct_f {p : Nat → Bool} {n : Nat} (h : p n = false) : pn_ct p (n + 1) = pn_ct p n := by
  show pn_ct p n + _ = _
  rw [h]
  rfl
/-- a truth that a method answers, the cells as they were -/
def px_bo (p : Prop) (C : px_P) : Option Value → px_P → Prop := fun v C' => C' = C ∧ ((p ∧ v = some (.int 1)) ∨ (¬ p ∧ v = some (.int 0)))
theorem px_lw {X : px_S → Prop} (hw : px_wk X) {pc : Nat} {L : List (Nat × Value)} {st : List Value} {C : px_P} {k n : Nat} (L' : List (Nat × Value)) (h : X (pc, L', st, C, k, n)) (hs : px_sub L L') : X (pc, L, st, C, k, n) := hw pc L L' st C k n hs h
section RD
variable {B : Nat} {sc : Option (Nat × Nat × (Nat → Int32))} {d : Nat} {ad : Nat → Nat} {σ : ck_S} {K : rp_K} {C : px_P}
theorem cc_boxAt (hR : Rp ad K C) (hc : Cl ad σ K) (x : Int32) : px_W ps_Y ps_P B sc (d + 1) 4 [.ref (ad 0), .int x] C 0 0 (fun v C' => C' = C ∧ ((∃ j, j < cs_n σ ∧ x = nI j ∧ v = some (.ref (ad (40 + j)))) ∨ ((x < 0 ∨ nI (cs_n σ) ≤ x) ∧ v = some .null))) px_no := by
  have h0 := hR.1 0 _ hc.1.1
  have h2 := hR.1 2 _ hc.1.2.2.1
  have hn := hc.2.2.2.2.2.2.2.2.2
  refine ⟨pm_Mo_boxAt, rfl, Nat.le_of_ble_eq_true rfl, fun X hw hX => ?_⟩
  repeat refine px_go hX ?_
  refine ⟨fun c1 => ?_, fun c1 => ?_⟩
  · repeat refine px_go hX ?_
    exact ⟨rfl, Or.inr ⟨Or.inl c1, rfl⟩⟩
  · repeat refine px_go hX ?_
    refine ⟨_, _, h0, rfl, ?_⟩
    repeat refine px_go hX ?_
    refine ⟨fun c2 => ?_, fun c2 => ?_⟩
    · repeat refine px_go hX ?_
      exact ⟨rfl, Or.inr ⟨Or.inr c2, rfl⟩⟩
    · rcases px_ixx x (cs_n σ) (by omega) with ⟨j, hj, rfl⟩ | h | h
      · repeat refine px_go hX ?_
        refine ⟨_, _, h0, rfl, ?_⟩
        repeat refine px_go hX ?_
        refine ⟨16, by unfold px_len; rw [h2]; rfl, ?_⟩
        repeat refine px_go hX ?_
        refine ⟨fun c3 => ?_, fun c3 => ?_⟩
        · exact absurd c3 (nI_ge (by omega) (by omega))
        · repeat refine px_go hX ?_
          refine ⟨_, _, h0, rfl, ?_⟩
          repeat refine px_go hX ?_
          refine ⟨_, _, _, h2, ⟨Nat.le_of_ble_eq_true rfl, Nat.le_of_ble_eq_true rfl⟩, vp_in_nI (by omega) (by omega), ?_⟩
          rw [nI_clamp (by omega), if_pos hj]
          repeat refine px_go hX ?_
          exact ⟨rfl, Or.inl ⟨j, hj, rfl, rfl⟩⟩
      · exact absurd h c1
      · exact absurd h c2
theorem cc_isToLeave (hR : Rp ad K C) (hc : Cl ad σ K) {j : Nat} (hj : j < cs_n σ) : px_W ps_Y ps_P B sc (d + 1) 5 [.ref (ad (40 + j))] C 0 0 (px_bo (cs_bf σ j 0 = 0 ∧ ¬ cs_bf σ j 2 = 3) C) px_no := by
  have h0 := hR.1 _ _ (hc.2.2.2.1 j hj)
  refine ⟨pm_Box_isToLeave, rfl, Nat.le_of_ble_eq_true rfl, fun X hw hX => ?_⟩
  repeat refine px_go hX ?_
  refine ⟨_, _, h0, rfl, ?_⟩
  repeat refine px_go hX ?_
  refine ⟨fun c1 => ?_, fun c1 => ?_⟩
  · repeat refine px_go hX ?_
    exact ⟨Or.inl rfl, rfl, Or.inr ⟨fun q => c1 q.1, rfl⟩⟩
  · repeat refine px_go hX ?_
    refine ⟨_, _, h0, rfl, ?_⟩
    repeat refine px_go hX ?_
    refine ⟨fun c2 => ?_, fun c2 => ?_⟩
    · repeat refine px_go hX ?_
      exact ⟨Or.inl rfl, rfl, Or.inr ⟨fun q => q.2 c2, rfl⟩⟩
    · repeat refine px_go hX ?_
      exact ⟨Or.inr rfl, rfl, Or.inl ⟨⟨c1, c2⟩, rfl⟩⟩
theorem cc_follows (hR : Rp ad K C) (hc : Cl ad σ K) {j : Nat} (hj : j < cs_n σ) (x : Int32) : px_W ps_Y ps_P B sc (d + 1) 6 [.ref (ad (40 + j)), .int x] C 0 0 (px_bo (¬ ((cs_bf σ j 4 >>> (x &&& 31)) &&& 1) = 0) C) px_no := by
  have h0 := hR.1 _ _ (hc.2.2.2.1 j hj)
  refine ⟨pm_Box_follows, rfl, Nat.le_of_ble_eq_true rfl, fun X hw hX => ?_⟩
  repeat refine px_go hX ?_
  refine ⟨_, _, h0, rfl, ?_⟩
  repeat refine px_go hX ?_
  refine ⟨fun c1 => ?_, fun c1 => ?_⟩
  · repeat refine px_go hX ?_
    exact ⟨Or.inl rfl, rfl, Or.inr ⟨fun q => q c1, rfl⟩⟩
  · repeat refine px_go hX ?_
    exact ⟨Or.inr rfl, rfl, Or.inl ⟨c1, rfl⟩⟩
theorem cc_isIn (hR : Rp ad K C) (hc : Cl ad σ K) {j : Nat} (hj : j < cs_n σ) (x : Int32) : px_W ps_Y ps_P B sc (d + 1) 12 [.ref (ad (40 + j)), .int x] C 0 0 (px_bo (cs_bf σ j 1 = x ∧ ¬ cs_bf σ j 2 = 3) C) px_no := by
  have h0 := hR.1 _ _ (hc.2.2.2.1 j hj)
  refine ⟨pm_Box_isIn, rfl, Nat.le_of_ble_eq_true rfl, fun X hw hX => ?_⟩
  repeat refine px_go hX ?_
  refine ⟨_, _, h0, rfl, ?_⟩
  repeat refine px_go hX ?_
  refine ⟨fun c1 => ?_, fun c1 => ?_⟩
  · repeat refine px_go hX ?_
    exact ⟨Or.inl rfl, rfl, Or.inr ⟨fun q => c1 q.1, rfl⟩⟩
  · repeat refine px_go hX ?_
    refine ⟨_, _, h0, rfl, ?_⟩
    repeat refine px_go hX ?_
    refine ⟨fun c2 => ?_, fun c2 => ?_⟩
    · repeat refine px_go hX ?_
      exact ⟨Or.inl rfl, rfl, Or.inr ⟨fun q => q.2 c2, rfl⟩⟩
    · repeat refine px_go hX ?_
      exact ⟨Or.inr rfl, rfl, Or.inl ⟨⟨c1, c2⟩, rfl⟩⟩
theorem cc_liesInStack (hR : Rp ad K C) (hc : Cl ad σ K) {j : Nat} (hj : j < cs_n σ) : px_W ps_Y ps_P B sc (d + 1) 24 [.ref (ad (40 + j))] C 0 0 (px_bo (¬ 3 ≤ cs_bf σ j 2) C) px_no := by
  have h0 := hR.1 _ _ (hc.2.2.2.1 j hj)
  refine ⟨pm_Box_liesInStack, rfl, Nat.le_of_ble_eq_true rfl, fun X hw hX => ?_⟩
  repeat refine px_go hX ?_
  refine ⟨_, _, h0, rfl, ?_⟩
  repeat refine px_go hX ?_
  refine ⟨fun c1 => ?_, fun c1 => ?_⟩
  · repeat refine px_go hX ?_
    exact ⟨Or.inl rfl, rfl, Or.inr ⟨fun q => q c1, rfl⟩⟩
  · repeat refine px_go hX ?_
    exact ⟨Or.inr rfl, rfl, Or.inl ⟨c1, rfl⟩⟩
theorem cc_liesBelow (hR : Rp ad K C) (hc : Cl ad σ K) {j k : Nat} (hj : j < cs_n σ) (hk : k < cs_n σ) : px_W ps_Y ps_P B sc (d + 1) 25 [.ref (ad (40 + j)), .ref (ad (40 + k))] C 0 0 (px_bo (cs_bf σ j 1 = cs_bf σ k 1 ∧ cs_bf σ j 2 = cs_bf σ k 2 ∧ ¬ cs_bf σ k 3 ≤ cs_bf σ j 3) C) px_no := by
  have h0 := hR.1 _ _ (hc.2.2.2.1 j hj)
  have h1 := hR.1 _ _ (hc.2.2.2.1 k hk)
  refine ⟨pm_Box_liesBelow, rfl, Nat.le_of_ble_eq_true rfl, fun X hw hX => ?_⟩
  repeat refine px_go hX ?_
  refine ⟨_, _, h0, rfl, ?_⟩
  repeat refine px_go hX ?_
  refine ⟨_, _, h1, rfl, ?_⟩
  repeat refine px_go hX ?_
  refine ⟨fun c1 => ?_, fun c1 => ?_⟩
  · repeat refine px_go hX ?_
    exact ⟨Or.inl rfl, rfl, Or.inr ⟨fun q => c1 q.1, rfl⟩⟩
  · repeat refine px_go hX ?_
    refine ⟨_, _, h0, rfl, ?_⟩
    repeat refine px_go hX ?_
    refine ⟨_, _, h1, rfl, ?_⟩
    repeat refine px_go hX ?_
    refine ⟨fun c2 => ?_, fun c2 => ?_⟩
    · repeat refine px_go hX ?_
      exact ⟨Or.inl rfl, rfl, Or.inr ⟨fun q => c2 q.2.1, rfl⟩⟩
    · repeat refine px_go hX ?_
      refine ⟨_, _, h0, rfl, ?_⟩
      repeat refine px_go hX ?_
      refine ⟨_, _, h1, rfl, ?_⟩
      repeat refine px_go hX ?_
      refine ⟨fun c3 => ?_, fun c3 => ?_⟩
      · repeat refine px_go hX ?_
        exact ⟨Or.inl rfl, rfl, Or.inr ⟨fun q => q.2.2 c3, rfl⟩⟩
      · repeat refine px_go hX ?_
        exact ⟨Or.inr rfl, rfl, Or.inl ⟨⟨c1, c2, c3⟩, rfl⟩⟩
/-- a height: how many boxes lie there -/
theorem cc_heightOf (hR : Rp ad K C) (hc : Cl ad σ K) (x y : Int32) : px_W ps_Y ps_P B sc (d + 2) 11 [.ref (ad 0), .int x, .int y] C 0 0 (fun v C' => C' = C ∧ v = some (.int (nI (pn_ct (fun j => decide (cs_bf σ j 1 = x) && decide (cs_bf σ j 2 = y)) (cs_n σ))))) px_no := by
  have h0 := hR.1 0 _ hc.1.1
  have hn := hc.2.2.2.2.2.2.2.2.2
  generalize hp : (fun j => decide (cs_bf σ j 1 = x) && decide (cs_bf σ j 2 = y)) = p
  refine ⟨pm_Mo_heightOf, rfl, Nat.le_of_ble_eq_true rfl, fun X hw hX => ?_⟩
  have loop : ∀ k i, i + k = cs_n σ → X (5, [(0, .ref (ad 0)), (1, .int x), (2, .int y), (3, .int (nI (pn_ct p i))), (4, .int (nI i))], [], C, 0, 0) := by
    intro k
    induction k with
    | zero =>
      intro i hi
      have hi : i = cs_n σ := hi
      repeat refine px_go hX ?_
      refine ⟨_, _, h0, rfl, ?_⟩
      repeat refine px_go hX ?_
      refine ⟨fun c1 => ?_, fun c1 => ?_⟩
      · repeat refine px_go hX ?_
        rw [hi]
        exact ⟨rfl, rfl⟩
      · exact absurd (nI_le (by omega) (by omega)) c1
    | succ k ih =>
      intro i hi
      have hlt : i < cs_n σ := by omega
      have next : ∀ c : Nat, c = pn_ct p (i + 1) → X (48, [(0, .ref (ad 0)), (1, .int x), (2, .int y), (3, .int (nI c)), (4, .int (nI i))], [], C, 0, 0) := by
        intro c hcc
        iterate 2 refine px_go hX ?_
        refine px_lw hw [(0, .ref (ad 0)), (1, .int x), (2, .int y), (3, .int (nI (pn_ct p (i + 1)))), (4, .int (nI (i + 1)))] ?_ ?_
        · exact ih (i + 1) (by omega)
        · exact ⟨rfl, rfl, rfl, by rw [← hcc]; rfl, by rw [nI_succ]; rfl, trivial⟩
      repeat refine px_go hX ?_
      refine ⟨_, _, h0, rfl, ?_⟩
      repeat refine px_go hX ?_
      refine ⟨fun c1 => absurd c1 (nI_ge hlt (by omega)), fun c1 => ?_⟩
      repeat refine px_go hX ?_
      refine ⟨_, h0, 0, 0, _, Nat.le_refl _, Nat.le_refl _, Nat.le_of_ble_eq_true rfl, cc_boxAt hR hc _, ?_⟩
      rintro v C' ⟨rfl, ⟨j, hj, he, rfl⟩ | ⟨hb | hb, -⟩⟩
      · have hij : i = j := (nI_eq (by omega) (by omega)).mp he
        subst hij
        have hbx := hR.1 _ _ (hc.2.2.2.1 i hj)
        repeat refine px_go hX ?_
        refine ⟨_, _, hbx, rfl, ?_⟩
        repeat refine px_go hX ?_
        refine ⟨fun c2 => ?_, fun c2 => ?_⟩
        · refine px_lw hw [(0, .ref (ad 0)), (1, .int x), (2, .int y), (3, .int (nI (pn_ct p i))), (4, .int (nI i))] ?_ ?_
          · exact next _ (pn_ct_f (by rw [← hp]; simp [c2])).symm
          · exact ⟨rfl, rfl, rfl, rfl, rfl, trivial⟩
        · repeat refine px_go hX ?_
          refine ⟨_, _, hbx, rfl, ?_⟩
          repeat refine px_go hX ?_
          refine ⟨fun c3 => ?_, fun c3 => ?_⟩
          · refine px_lw hw [(0, .ref (ad 0)), (1, .int x), (2, .int y), (3, .int (nI (pn_ct p i))), (4, .int (nI i))] ?_ ?_
            · exact next _ (pn_ct_f (by rw [← hp]; simp [c3])).symm
            · exact ⟨rfl, rfl, rfl, rfl, rfl, trivial⟩
          · refine px_go hX ?_
            refine px_lw hw [(0, .ref (ad 0)), (1, .int x), (2, .int y), (3, .int (nI (pn_ct p i + 1))), (4, .int (nI i))] ?_ ?_
            · exact next _ (pn_ct_t (by rw [← hp]; simp [c2, c3])).symm
            · exact ⟨rfl, rfl, rfl, by rw [nI_succ]; rfl, rfl, trivial⟩
      · exact absurd hb (nI_pos (by omega))
      · exact absurd hb (nI_ge hlt (by omega))
  iterate 4 refine px_go hX ?_
  refine px_lw hw [(0, .ref (ad 0)), (1, .int x), (2, .int y), (3, .int (nI (pn_ct p 0))), (4, .int (nI 0))] ?_ ?_
  · exact loop (cs_n σ) 0 (by omega)
  · exact ⟨rfl, rfl, rfl, rfl, rfl, trivial⟩
end RD
end
section
/-! The class's state changes. -/
theorem rp_up_up (K : rp_K) (i : Nat) (e1 e2 : px_E) : rp_up (rp_up K i e1) i e2 = rp_up K i e2 := by
  funext j
  unfold rp_up
  by_cases h : j = i
  · rw [if_pos h, if_pos h]
  · rw [if_neg h, if_neg h, if_neg h]
def cs_sY (σ : ck_S) (b : Nat) (f : Nat → Int32) : ck_S := (σ.1, σ.2.1, σ.2.2.1, va_up (cs_yf σ) b f, σ.2.2.2.2)
def cs_sB (σ : ck_S) (j : Nat) (f : Nat → Int32) : ck_S := (σ.1, σ.2.1, va_up (cs_bf σ) j f, σ.2.2.2)
def cs_sA (σ : ck_S) (b k : Nat) (g : Nat → Int32) : ck_S := (σ.1, σ.2.1, σ.2.2.1, σ.2.2.2.1, va_up (cs_ya σ) b (va_up (cs_ya σ b) k g), σ.2.2.2.2.2)
def cs_sM (σ : ck_S) (mw lg : Int32) : ck_S := (σ.1, (mw, lg), σ.2.2)
def cs_sSa (σ : ck_S) (k : Nat) (g : Nat → Int32) : ck_S := (σ.1, σ.2.1, σ.2.2.1, σ.2.2.2.1, σ.2.2.2.2.1, va_up (cs_sa σ) k g, σ.2.2.2.2.2.2)
def cs_sSn (σ : ck_S) (g : Nat → Int64) : ck_S := (σ.1, σ.2.1, σ.2.2.1, σ.2.2.2.1, σ.2.2.2.2.1, σ.2.2.2.2.2.1, g, σ.2.2.2.2.2.2.2)
def cs_sSi (σ : ck_S) (f : Nat → Int32) : ck_S := (σ.1, σ.2.1, σ.2.2.1, σ.2.2.2.1, σ.2.2.2.2.1, σ.2.2.2.2.2.1, σ.2.2.2.2.2.2.1, f)
/-- a picture in which the class stands at σ, the rest as K has it -/
def Ck (ad : Nat → Nat) (σ : ck_S) (K : rp_K) (C : px_P) : Prop := ∃ K', Rp ad K' C ∧ Cl ad σ K' ∧ ∀ i, 100 ≤ i → K' i = K i
theorem Cl.sY {ad : Nat → Nat} {σ : ck_S} {K : rp_K} (h : Cl ad σ K) {b : Nat} (hb : b < cs_nb σ) (f : Nat → Int32) : Cl ad (cs_sY σ b f) (rp_up K (20 + 4 * b) (px_o 1 [.ref (ad (21 + 4 * b)), .ref (ad (22 + 4 * b)), .ref (ad (23 + 4 * b)), .int (f 0), .int (f 1), .int (f 2), .int (f 3)])) := by
  obtain ⟨⟨a0, a1, a2, a3⟩, ⟨b4, b5, b6, b7, b8, b9, b10, b11⟩, hy, hx, hn, q1, q2, q3, q4, q5⟩ := h
  refine ⟨⟨?_, ?_, ?_, ?_⟩, ⟨?_, ?_, ?_, ?_, ?_, ?_, ?_, ?_⟩, fun c hc => ?_, fun j hj => ?_, fun j hj hj2 => ?_, q1, q2, q3, q4, q5⟩
  iterate 12 (first | (rw [rp_up_n K _ (by omega)]; assumption))
  · have hc : c < cs_nb σ := hc
    obtain ⟨y0, y1, y2, y3⟩ := hy c hc
    refine ⟨?_, by rw [rp_up_n K _ (by omega)]; exact y1, by rw [rp_up_n K _ (by omega)]; exact y2, by rw [rp_up_n K _ (by omega)]; exact y3⟩
    by_cases hcb : c = b
    · subst hcb
      rw [rp_up_s]
      show _ = some (px_o 1 [_, _, _, .int (va_up (cs_yf σ) c f c 0), .int (va_up (cs_yf σ) c f c 1), .int (va_up (cs_yf σ) c f c 2), .int (va_up (cs_yf σ) c f c 3)])
      rw [va_up_self]
    · rw [rp_up_n K _ (by omega), y0]
      show _ = some (px_o 1 [_, _, _, .int (va_up (cs_yf σ) b f c 0), .int (va_up (cs_yf σ) b f c 1), .int (va_up (cs_yf σ) b f c 2), .int (va_up (cs_yf σ) b f c 3)])
      rw [va_up_ne _ _ hcb]
  · have hj : j < cs_n σ := hj
    rw [rp_up_n K _ (by omega)]
    exact hx j hj
  · rw [rp_up_n K _ (by omega)]
    exact hn j hj hj2
theorem Cl.sB {ad : Nat → Nat} {σ : ck_S} {K : rp_K} (h : Cl ad σ K) {k : Nat} (hk : k < cs_n σ) (f : Nat → Int32) : Cl ad (cs_sB σ k f) (rp_up K (40 + k) (px_o 2 [.int (f 0), .int (f 1), .int (f 2), .int (f 3), .int (f 4)])) := by
  obtain ⟨⟨a0, a1, a2, a3⟩, ⟨b4, b5, b6, b7, b8, b9, b10, b11⟩, hy, hx, hn, q1, q2, q3, q4, q5⟩ := h
  refine ⟨⟨?_, ?_, ?_, ?_⟩, ⟨?_, ?_, ?_, ?_, ?_, ?_, ?_, ?_⟩, fun c hc => ?_, fun j hj => ?_, fun j hj hj2 => ?_, q1, q2, q3, q4, q5⟩
  iterate 12 (first | (rw [rp_up_n K _ (by omega)]; assumption))
  · have hc : c < cs_nb σ := hc
    obtain ⟨y0, y1, y2, y3⟩ := hy c hc
    exact ⟨by rw [rp_up_n K _ (by omega)]; exact y0, by rw [rp_up_n K _ (by omega)]; exact y1, by rw [rp_up_n K _ (by omega)]; exact y2, by rw [rp_up_n K _ (by omega)]; exact y3⟩
  · have hj : j < cs_n σ := hj
    by_cases hjk : j = k
    · subst hjk
      rw [rp_up_s]
      show _ = some (px_o 2 [.int (va_up (cs_bf σ) j f j 0), .int (va_up (cs_bf σ) j f j 1), .int (va_up (cs_bf σ) j f j 2), .int (va_up (cs_bf σ) j f j 3), .int (va_up (cs_bf σ) j f j 4)])
      rw [va_up_self]
    · rw [rp_up_n K _ (by omega), hx j hj]
      show _ = some (px_o 2 [.int (va_up (cs_bf σ) k f j 0), .int (va_up (cs_bf σ) k f j 1), .int (va_up (cs_bf σ) k f j 2), .int (va_up (cs_bf σ) k f j 3), .int (va_up (cs_bf σ) k f j 4)])
      rw [va_up_ne _ _ hjk]
  · have hj : cs_n σ ≤ j := hj
    rw [rp_up_n K _ (by omega)]
    exact hn j hj hj2
theorem Cl.sM {ad : Nat → Nat} {σ : ck_S} {K : rp_K} (h : Cl ad σ K) (mw lg : Int32) : Cl ad (cs_sM σ mw lg) (rp_up K 0 (px_o 0 [.int (nI (cs_ti σ)), .ref (ad 1), .ref (ad 2), .ref (ad 3), .int (nI (cs_n σ)), .int mw, .int lg])) := by
  obtain ⟨⟨a0, a1, a2, a3⟩, ⟨b4, b5, b6, b7, b8, b9, b10, b11⟩, hy, hx, hn, q1, q2, q3, q4, q5⟩ := h
  refine ⟨⟨rp_up_s _ _ _, ?_, ?_, ?_⟩, ⟨?_, ?_, ?_, ?_, ?_, ?_, ?_, ?_⟩, fun c hc => ?_, fun j hj => ?_, fun j hj hj2 => ?_, q1, q2, q3, q4, q5⟩
  iterate 11 (first | (rw [rp_up_n K _ (by omega)]; assumption))
  · have hc : c < cs_nb σ := hc
    obtain ⟨y0, y1, y2, y3⟩ := hy c hc
    exact ⟨by rw [rp_up_n K _ (by omega)]; exact y0, by rw [rp_up_n K _ (by omega)]; exact y1, by rw [rp_up_n K _ (by omega)]; exact y2, by rw [rp_up_n K _ (by omega)]; exact y3⟩
  · have hj : j < cs_n σ := hj
    rw [rp_up_n K _ (by omega)]
    exact hx j hj
  · rw [rp_up_n K _ (by omega)]
    exact hn j hj hj2
theorem Cl.sA {ad : Nat → Nat} {σ : ck_S} {K : rp_K} (h : Cl ad σ K) {b k : Nat} (hb : b < cs_nb σ) (hk : k < 3) (g : Nat → Int32) : Cl ad (cs_sA σ b k g) (rp_up K (21 + 4 * b + k) (px_i 12 g)) := by
  obtain ⟨⟨a0, a1, a2, a3⟩, ⟨b4, b5, b6, b7, b8, b9, b10, b11⟩, hy, hx, hn, q1, q2, q3, q4, q5⟩ := h
  refine ⟨⟨?_, ?_, ?_, ?_⟩, ⟨?_, ?_, ?_, ?_, ?_, ?_, ?_, ?_⟩, fun c hc => ?_, fun j hj => ?_, fun j hj hj2 => ?_, q1, q2, q3, q4, q5⟩
  iterate 12 (first | (rw [rp_up_n K _ (by omega)]; assumption))
  · have hc : c < cs_nb σ := hc
    obtain ⟨y0, y1, y2, y3⟩ := hy c hc
    have key : ∀ m, m < 3 → K (21 + 4 * c + m) = some (px_i 12 (cs_ya σ c m)) → rp_up K (21 + 4 * b + k) (px_i 12 g) (21 + 4 * c + m) = some (px_i 12 (cs_ya (cs_sA σ b k g) c m)) := by
      intro m hm hy
      show _ = some (px_i 12 (va_up (cs_ya σ) b (va_up (cs_ya σ b) k g) c m))
      by_cases hcb : c = b
      · subst hcb
        rw [va_up_self]
        by_cases hmk : m = k
        · subst hmk
          rw [rp_up_s, va_up_self]
        · rw [rp_up_n K _ (by omega), va_up_ne _ _ hmk]
          exact hy
      · rw [rp_up_n K _ (by omega), va_up_ne _ _ hcb]
        exact hy
    refine ⟨by rw [rp_up_n K _ (by omega)]; exact y0, key 0 (by omega) y1, ?_, ?_⟩
    · rw [show 22 + 4 * c = 21 + 4 * c + 1 by omega]
      exact key 1 (by omega) (by rw [show 21 + 4 * c + 1 = 22 + 4 * c by omega]; exact y2)
    · rw [show 23 + 4 * c = 21 + 4 * c + 2 by omega]
      exact key 2 (by omega) (by rw [show 21 + 4 * c + 2 = 23 + 4 * c by omega]; exact y3)
  · have hj : j < cs_n σ := hj
    rw [rp_up_n K _ (by omega)]
    exact hx j hj
  · rw [rp_up_n K _ (by omega)]
    exact hn j hj hj2
section RE
variable {B : Nat} {sc : Option (Nat × Nat × (Nat → Int32))} {d : Nat} {ad : Nat → Nat} {σ : ck_S} {K : rp_K} {C : px_P}
/-- a bay's plan is forgotten -/
def cs_fp (σ : ck_S) (b : Nat) : ck_S := cs_sY σ b (fun k => match k with | 3 => cs_yf σ b 3 | _ => 0)
theorem cc_forgetPlan (hR : Rp ad K C) (hc : Cl ad σ K) {b : Nat} (hb : b < cs_nb σ) : px_W ps_Y ps_P B sc (d + 1) 8 [.ref (ad (20 + 4 * b))] C 0 0 (fun v C' => v = none ∧ Ck ad (cs_fp σ b) K C') px_no := by
  have h1 := (hc.2.2.1 b hb).1
  have h0 := hR.1 _ _ h1
  have hlt : 20 + 4 * b < 100 := by have := hc.2.2.2.2.2.2.1; omega
  refine ⟨pm_Bay_forgetPlan, rfl, Nat.le_of_ble_eq_true rfl, fun X hw hX => ?_⟩
  repeat refine px_go hX ?_
  refine ⟨_, h0, Nat.le_of_ble_eq_true rfl, rfl, rfl, ?_⟩
  repeat refine px_go hX ?_
  refine ⟨_, (px_up_s _ _ _), Nat.le_of_ble_eq_true rfl, rfl, rfl, ?_⟩
  repeat refine px_go hX ?_
  refine ⟨_, (px_up_s _ _ _), Nat.le_of_ble_eq_true rfl, rfl, rfl, ?_⟩
  repeat refine px_go hX ?_
  refine ⟨rfl, _, ((hR.put h1 _).put (rp_up_s _ _ _) _).put (rp_up_s _ _ _) _, ?_, fun i hi => ?_⟩
  · rw [rp_up_up, rp_up_up]
    exact hc.sY hb _
  · rw [rp_up_n _ _ (by omega), rp_up_n _ _ (by omega), rp_up_n _ _ (by omega)]
theorem cc_forgetPlanOf (hR : Rp ad K C) (hc : Cl ad σ K) {b : Nat} (hb : b < cs_nb σ) : px_W ps_Y ps_P B sc (d + 2) 9 [.ref (ad 0), .int (nI b)] C 0 0 (fun v C' => v = none ∧ Ck ad (cs_fp σ b) K C') px_no := by
  have h0 := hR.1 0 _ hc.1.1
  have hnb := hc.2.2.2.2.2.2.1
  have h1 := hR.1 _ _ (hc.2.2.1 b hb).1
  refine ⟨pm_Mo_forgetPlanOf, rfl, Nat.le_of_ble_eq_true rfl, fun X hw hX => ?_⟩
  repeat refine px_go hX ?_
  refine ⟨_, h0, 0, 0, _, Nat.le_refl _, Nat.le_refl _, Nat.le_of_ble_eq_true rfl, cc_bayAt hR hc _, ?_⟩
  rintro v C' ⟨rfl, ⟨j, hj, he, rfl⟩ | ⟨h | h, -⟩⟩
  · have hij : b = j := (nI_eq (by omega) (by omega)).mp he
    subst hij
    repeat refine px_go hX ?_
    refine ⟨_, h1, 0, 0, _, Nat.le_refl _, Nat.le_refl _, Nat.le_of_ble_eq_true rfl, cc_forgetPlan hR hc hb, ?_⟩
    rintro v C' ⟨rfl, hk⟩
    repeat refine px_go hX ?_
    exact ⟨rfl, hk⟩
  · exact absurd h (nI_pos (by omega))
  · exact absurd h (nI_ge hb (by omega))
theorem cc_movesLeft (hR : Rp ad K C) (hc : Cl ad σ K) {b : Nat} (hb : b < cs_nb σ) : px_W ps_Y ps_P B sc (d + 1) 17 [.ref (ad (20 + 4 * b))] C 0 0 (fun v C' => C' = C ∧ ((cs_yf σ b 0 = 0 ∧ v = some (.int (-1))) ∨ (¬ cs_yf σ b 0 = 0 ∧ v = some (.int (cs_yf σ b 1 - cs_yf σ b 2))))) px_no := by
  have h0 := hR.1 _ _ (hc.2.2.1 b hb).1
  refine ⟨pm_Bay_movesLeft, rfl, Nat.le_of_ble_eq_true rfl, fun X hw hX => ?_⟩
  repeat refine px_go hX ?_
  refine ⟨_, _, h0, rfl, ?_⟩
  repeat refine px_go hX ?_
  refine ⟨fun c1 => ?_, fun c1 => ?_⟩
  · repeat refine px_go hX ?_
    exact ⟨rfl, Or.inl ⟨c1, rfl⟩⟩
  · repeat refine px_go hX ?_
    refine ⟨_, _, h0, rfl, ?_⟩
    repeat refine px_go hX ?_
    refine ⟨_, _, h0, rfl, ?_⟩
    repeat refine px_go hX ?_
    exact ⟨rfl, Or.inr ⟨c1, rfl⟩⟩
theorem cc_hasMove (hR : Rp ad K C) (hc : Cl ad σ K) {b : Nat} (hb : b < cs_nb σ) (x : Int32) : px_W ps_Y ps_P B sc (d + 1) 20 [.ref (ad (20 + 4 * b)), .int x] C 0 0 (px_bo (¬ cs_yf σ b 0 = 0 ∧ ¬ x < 0 ∧ ¬ cs_yf σ b 1 ≤ x ∧ ¬ 12 ≤ x) C) px_no := by
  have h0 := hR.1 _ _ (hc.2.2.1 b hb).1
  refine ⟨pm_Bay_hasMove, rfl, Nat.le_of_ble_eq_true rfl, fun X hw hX => ?_⟩
  repeat refine px_go hX ?_
  refine ⟨_, _, h0, rfl, ?_⟩
  repeat refine px_go hX ?_
  refine ⟨fun c1 => ?_, fun c1 => ?_⟩
  · repeat refine px_go hX ?_
    exact ⟨Or.inl rfl, rfl, Or.inr ⟨fun q => q.1 c1, rfl⟩⟩
  · repeat refine px_go hX ?_
    refine ⟨fun c2 => ?_, fun c2 => ?_⟩
    · repeat refine px_go hX ?_
      exact ⟨Or.inl rfl, rfl, Or.inr ⟨fun q => q.2.1 c2, rfl⟩⟩
    · repeat refine px_go hX ?_
      refine ⟨_, _, h0, rfl, ?_⟩
      repeat refine px_go hX ?_
      refine ⟨fun c3 => ?_, fun c3 => ?_⟩
      · repeat refine px_go hX ?_
        exact ⟨Or.inl rfl, rfl, Or.inr ⟨fun q => q.2.2.1 c3, rfl⟩⟩
      · repeat refine px_go hX ?_
        refine ⟨fun c4 => ?_, fun c4 => ?_⟩
        · repeat refine px_go hX ?_
          exact ⟨Or.inl rfl, rfl, Or.inr ⟨fun q => q.2.2.2 c4, rfl⟩⟩
        · repeat refine px_go hX ?_
          exact ⟨Or.inr rfl, rfl, Or.inl ⟨⟨c1, c2, c3, c4⟩, rfl⟩⟩
end RE
end
section
/-! The class's loops over its boxes. -/
theorem pn_alls {P : Nat → Prop} {i : Nat} (h : ∀ q, q < i → P q) (hi : P i) : ∀ q, q < i + 1 → P q := fun q hq => (Nat.lt_succ_iff_lt_or_eq.mp hq).elim (h q) (fun e => e ▸ hi)
section RF
variable {B : Nat} {sc : Option (Nat × Nat × (Nat → Int32))} {d : Nat} {ad : Nat → Nat} {σ : ck_S} {K : rp_K} {C : px_P}
theorem cc_boxAtI (hR : Rp ad K C) (hc : Cl ad σ K) {j : Nat} (hj : j < cs_n σ) : px_W ps_Y ps_P B sc (d + 1) 4 [.ref (ad 0), .int (nI j)] C 0 0 (fun v C' => C' = C ∧ v = some (.ref (ad (40 + j)))) px_no := by
  have h0 := hR.1 0 _ hc.1.1
  have h2 := hR.1 2 _ hc.1.2.2.1
  have hn := hc.2.2.2.2.2.2.2.2.2
  refine ⟨pm_Mo_boxAt, rfl, Nat.le_of_ble_eq_true rfl, fun X hw hX => ?_⟩
  repeat refine px_go hX ?_
  refine ⟨fun c1 => absurd c1 (nI_pos (by omega)), fun c1 => ?_⟩
  repeat refine px_go hX ?_
  refine ⟨_, _, h0, rfl, ?_⟩
  repeat refine px_go hX ?_
  refine ⟨fun c2 => absurd c2 (nI_ge hj (by omega)), fun c2 => ?_⟩
  repeat refine px_go hX ?_
  refine ⟨_, _, h0, rfl, ?_⟩
  repeat refine px_go hX ?_
  refine ⟨16, by unfold px_len; rw [h2]; rfl, ?_⟩
  repeat refine px_go hX ?_
  refine ⟨fun c3 => absurd c3 (nI_ge (by omega) (by omega)), fun c3 => ?_⟩
  repeat refine px_go hX ?_
  refine ⟨_, _, h0, rfl, ?_⟩
  repeat refine px_go hX ?_
  refine ⟨_, _, _, h2, ⟨Nat.le_of_ble_eq_true rfl, Nat.le_of_ble_eq_true rfl⟩, vp_in_nI (by omega) (by omega), ?_⟩
  rw [nI_clamp (by omega), if_pos hj]
  repeat refine px_go hX ?_
  exact ⟨rfl, rfl⟩
theorem cc_bayAtI (hR : Rp ad K C) (hc : Cl ad σ K) {b : Nat} (hb : b < cs_nb σ) : px_W ps_Y ps_P B sc (d + 1) 3 [.ref (ad 0), .int (nI b)] C 0 0 (fun v C' => C' = C ∧ v = some (.ref (ad (20 + 4 * b)))) px_no := by
  have h0 := hR.1 0 _ hc.1.1
  have h1 := hR.1 1 _ hc.1.2.1
  have hnb := hc.2.2.2.2.2.2.1
  refine ⟨pm_Mo_bayAt, rfl, Nat.le_of_ble_eq_true rfl, fun X hw hX => ?_⟩
  repeat refine px_go hX ?_
  refine ⟨fun c1 => absurd c1 (nI_pos (by omega)), fun c1 => ?_⟩
  repeat refine px_go hX ?_
  refine ⟨_, _, h0, rfl, ?_⟩
  repeat refine px_go hX ?_
  refine ⟨cs_nb σ, by unfold px_len; rw [h1]; rfl, ?_⟩
  repeat refine px_go hX ?_
  refine ⟨fun c2 => absurd c2 (nI_ge hb (by omega)), fun c2 => ?_⟩
  repeat refine px_go hX ?_
  refine ⟨_, _, h0, rfl, ?_⟩
  repeat refine px_go hX ?_
  refine ⟨_, _, _, h1, ⟨Nat.le_refl 3, Nat.le_of_ble_eq_true rfl⟩, vp_in_nI hb (by omega), ?_⟩
  rw [nI_clamp (by omega), if_pos hb]
  repeat refine px_go hX ?_
  exact ⟨rfl, rfl⟩
theorem cc_boxesIn (hR : Rp ad K C) (hc : Cl ad σ K) (x : Int32) : px_W ps_Y ps_P B sc (d + 2) 13 [.ref (ad 0), .int x] C 0 0 (fun v C' => C' = C ∧ v = some (.int (nI (pn_ct (fun j => decide (cs_bf σ j 1 = x ∧ ¬ cs_bf σ j 2 = 3)) (cs_n σ))))) px_no := by
  have h0 := hR.1 0 _ hc.1.1
  have hn := hc.2.2.2.2.2.2.2.2.2
  generalize hp : (fun j => decide (cs_bf σ j 1 = x ∧ ¬ cs_bf σ j 2 = 3)) = p
  refine ⟨pm_Mo_boxesIn, rfl, Nat.le_of_ble_eq_true rfl, fun X hw hX => ?_⟩
  have loop : ∀ k i, i + k = cs_n σ → X (4, [(0, .ref (ad 0)), (1, .int (x)), (2, .int (nI (pn_ct p i))), (3, .int (nI i))], [], C, 0, 0) := by
    intro k
    induction k with
    | zero =>
      intro i hi
      have hlt : i = cs_n σ := hi
      iterate 3 refine px_go hX ?_
      refine ⟨_, _, h0, rfl, ?_⟩
      refine px_go hX ?_
      refine ⟨fun (c1 : nI (cs_n σ) ≤ nI i) => ?_, fun (c1 : ¬ nI (cs_n σ) ≤ nI i) => absurd (nI_le (by omega) (by omega)) c1⟩
      iterate 2 refine px_go hX ?_
      rw [hlt]
      exact ⟨rfl, rfl⟩
    | succ k ih =>
      intro i hi
      have hlt : i < cs_n σ := by omega
      iterate 3 refine px_go hX ?_
      refine ⟨_, _, h0, rfl, ?_⟩
      refine px_go hX ?_
      refine ⟨fun (c2 : nI (cs_n σ) ≤ nI i) => absurd c2 (nI_ge hlt (by omega)), fun (c2 : ¬ nI (cs_n σ) ≤ nI i) => ?_⟩
      iterate 3 refine px_go hX ?_
      refine ⟨_, h0, 0, 0, _, Nat.le_of_ble_eq_true rfl, Nat.le_of_ble_eq_true rfl, Nat.le_of_ble_eq_true rfl, cc_boxAtI hR hc hlt, ?_⟩
      rintro _ C ⟨rfl, rfl⟩
      iterate 6 refine px_go hX ?_
      refine ⟨_, (hR.1 _ _ (hc.2.2.2.1 i hlt)), 0, 0, _, Nat.le_of_ble_eq_true rfl, Nat.le_of_ble_eq_true rfl, Nat.le_of_ble_eq_true rfl, cc_isIn hR hc hlt _, ?_⟩
      rintro _ C ⟨rfl, ⟨b3, rfl⟩ | ⟨b3, rfl⟩⟩
      · refine px_go hX ?_
        refine ⟨fun (c4 : 1 = 0) => absurd c4 (by decide), fun (c4 : ¬ 1 = 0) => ?_⟩
        iterate 3 refine px_go hX ?_
        exact px_lw hw [(0, .ref (ad 0)), (1, .int (x)), (2, .int (nI (pn_ct p (i + 1)))), (3, .int (nI (i + 1)))] (ih (i + 1) (by omega)) ⟨rfl, rfl, by rw [pn_ct_t (by rw [← hp]; exact decide_eq_true (by simp [c2, b3, c4])), nI_succ]; rfl, (congrArg (fun z => some (Value.int z)) (nI_succ _).symm), trivial⟩
      · refine px_go hX ?_
        refine ⟨fun (c5 : 0 = 0) => ?_, fun (c5 : ¬ 0 = 0) => absurd rfl c5⟩
        iterate 2 refine px_go hX ?_
        exact px_lw hw [(0, .ref (ad 0)), (1, .int (x)), (2, .int (nI (pn_ct p (i + 1)))), (3, .int (nI (i + 1)))] (ih (i + 1) (by omega)) ⟨rfl, rfl, by rw [pn_ct_f (by rw [← hp]; exact decide_eq_false (by simp [c2, b3, c5]))]; rfl, (congrArg (fun z => some (Value.int z)) (nI_succ _).symm), trivial⟩
  iterate 4 refine px_go hX ?_
  exact px_lw hw [(0, .ref (ad 0)), (1, .int (x)), (2, .int (nI (pn_ct p 0))), (3, .int (nI 0))] (loop (cs_n σ - 0) 0 (by omega)) ⟨rfl, rfl, rfl, rfl, trivial⟩
theorem cc_boxesAt (hR : Rp ad K C) (hc : Cl ad σ K) (x : Int32) : px_W ps_Y ps_P B sc (d + 2) 16 [.ref (ad 0), .int x] C 0 0 (fun v C' => C' = C ∧ v = some (.int (nI (pn_ct (fun j => decide (cs_bf σ j 2 = x)) (cs_n σ))))) px_no := by
  have h0 := hR.1 0 _ hc.1.1
  have hn := hc.2.2.2.2.2.2.2.2.2
  generalize hp : (fun j => decide (cs_bf σ j 2 = x)) = p
  refine ⟨pm_Mo_boxesAt, rfl, Nat.le_of_ble_eq_true rfl, fun X hw hX => ?_⟩
  have loop : ∀ k i, i + k = cs_n σ → X (4, [(0, .ref (ad 0)), (1, .int (x)), (2, .int (nI (pn_ct p i))), (3, .int (nI i))], [], C, 0, 0) := by
    intro k
    induction k with
    | zero =>
      intro i hi
      have hlt : i = cs_n σ := hi
      iterate 3 refine px_go hX ?_
      refine ⟨_, _, h0, rfl, ?_⟩
      refine px_go hX ?_
      refine ⟨fun (c1 : nI (cs_n σ) ≤ nI i) => ?_, fun (c1 : ¬ nI (cs_n σ) ≤ nI i) => absurd (nI_le (by omega) (by omega)) c1⟩
      iterate 2 refine px_go hX ?_
      rw [hlt]
      exact ⟨rfl, rfl⟩
    | succ k ih =>
      intro i hi
      have hlt : i < cs_n σ := by omega
      iterate 3 refine px_go hX ?_
      refine ⟨_, _, h0, rfl, ?_⟩
      refine px_go hX ?_
      refine ⟨fun (c2 : nI (cs_n σ) ≤ nI i) => absurd c2 (nI_ge hlt (by omega)), fun (c2 : ¬ nI (cs_n σ) ≤ nI i) => ?_⟩
      iterate 3 refine px_go hX ?_
      refine ⟨_, h0, 0, 0, _, Nat.le_of_ble_eq_true rfl, Nat.le_of_ble_eq_true rfl, Nat.le_of_ble_eq_true rfl, cc_boxAtI hR hc hlt, ?_⟩
      rintro _ C ⟨rfl, rfl⟩
      iterate 5 refine px_go hX ?_
      refine ⟨_, _, (hR.1 _ _ (hc.2.2.2.1 i hlt)), rfl, ?_⟩
      iterate 2 refine px_go hX ?_
      refine ⟨fun (c3 : ¬ cs_bf σ i 2 = x) => ?_, fun (c3 : cs_bf σ i 2 = x) => ?_⟩
      · iterate 2 refine px_go hX ?_
        exact px_lw hw [(0, .ref (ad 0)), (1, .int (x)), (2, .int (nI (pn_ct p (i + 1)))), (3, .int (nI (i + 1)))] (ih (i + 1) (by omega)) ⟨rfl, rfl, by rw [pn_ct_f (by rw [← hp]; exact decide_eq_false (by simp [c2, c3]))]; rfl, (congrArg (fun z => some (Value.int z)) (nI_succ _).symm), trivial⟩
      · iterate 3 refine px_go hX ?_
        exact px_lw hw [(0, .ref (ad 0)), (1, .int (x)), (2, .int (nI (pn_ct p (i + 1)))), (3, .int (nI (i + 1)))] (ih (i + 1) (by omega)) ⟨rfl, rfl, by rw [pn_ct_t (by rw [← hp]; exact decide_eq_true (by simp [c2, c3])), nI_succ]; rfl, (congrArg (fun z => some (Value.int z)) (nI_succ _).symm), trivial⟩
  iterate 4 refine px_go hX ?_
  exact px_lw hw [(0, .ref (ad 0)), (1, .int (x)), (2, .int (nI (pn_ct p 0))), (3, .int (nI 0))] (loop (cs_n σ - 0) 0 (by omega)) ⟨rfl, rfl, rfl, rfl, trivial⟩
/-- what a call does: 0 and its answer, or why it throws; the state behind it -/
abbrev cs_R : Type := Nat × Int32 × ck_S
/-- a bay's, a box's number -/
def cs_bq (σ : ck_S) (x : Int32) : Option Nat := if x < 0 ∨ nI (cs_nb σ) ≤ x then none else some x.toNatClampNeg
def cs_xq (σ : ck_S) (x : Int32) : Option Nat := if x < 0 ∨ nI (cs_n σ) ≤ x then none else some x.toNatClampNeg
theorem cs_bq_s (hc : Cl ad σ K) {b : Nat} (hb : b < cs_nb σ) : cs_bq σ (nI b) = some b := by
  have hnb := hc.2.2.2.2.2.2.1
  unfold cs_bq
  rw [if_neg, nI_clamp (by omega)]
  rintro (h | h)
  · exact nI_pos (by omega) h
  · exact nI_ge hb (by omega) h
theorem cs_bq_n {x : Int32} (h : x < 0 ∨ nI (cs_nb σ) ≤ x) : cs_bq σ x = none := if_pos h
theorem cs_xq_s (hc : Cl ad σ K) {b : Nat} (hb : b < cs_n σ) : cs_xq σ (nI b) = some b := by
  have hnb := hc.2.2.2.2.2.2.2.2.2
  unfold cs_xq
  rw [if_neg, nI_clamp (by omega)]
  rintro (h | h)
  · exact nI_pos (by omega) h
  · exact nI_ge hb (by omega) h
theorem cs_xq_n {x : Int32} (h : x < 0 ∨ nI (cs_n σ) ≤ x) : cs_xq σ x = none := if_pos h
/-- the class stands at σ, other cells as they were -/
def Ca (ad : Nat → Nat) (σ : ck_S) (K : rp_K) (C : px_P) : Prop := ∃ ad' K', Rp ad' K' C ∧ Cl ad' σ K' ∧ (∀ i, 100 ≤ i → K' i = K i ∧ ad' i = ad i) ∧ ad' 0 = ad 0
theorem Ck.ca (h : Ck ad σ K C) : Ca ad σ K C := by
  obtain ⟨K', h1, h2, h3⟩ := h
  exact ⟨ad, K', h1, h2, fun i hi => ⟨h3 i hi, rfl⟩, rfl⟩
theorem Ca.of (hR : Rp ad K C) (hc : Cl ad σ K) : Ca ad σ K C := ⟨ad, K, hR, hc, fun _ _ => ⟨rfl, rfl⟩, rfl⟩
/-- a call of the class that came back -/
def px_oC (ad : Nat → Nat) (K : rp_K) (r : cs_R) : Option Value → px_P → Prop := fun v C' => r.1 = 0 ∧ v = some (.int r.2.1) ∧ Ca ad r.2.2 K C'
/-- one that threw: the kinds by their numbers, an index out of bounds stands for 1 -/
def px_oT (ad : Nat → Nat) (K : rp_K) (r : cs_R) : Nat → px_P → Prop := fun kd C' => (kd = 1 ∧ r.1 = 1 ∨ kd = 2 ∧ r.1 = 2 ∨ kd = 3 ∧ r.1 = 1) ∧ Ca ad r.2.2 K C'
abbrev cs_nds (σ : ck_S) (j : Nat) : Prop := ¬ cs_bf σ j 4 = 0 ∨ ∃ i, i < cs_n σ ∧ ¬ ((cs_bf σ i 4 >>> (nI j &&& 31)) &&& 1) = 0
abbrev cs_abv (σ : ck_S) (j : Nat) : Prop := ¬ 3 ≤ cs_bf σ j 2 ∧ ∃ i, i < cs_n σ ∧ cs_bf σ i 0 = 0 ∧ (cs_bf σ i 1 = cs_bf σ j 1 ∧ cs_bf σ i 2 = cs_bf σ j 2 ∧ ¬ cs_bf σ j 3 ≤ cs_bf σ i 3)
theorem cc_hasNeeds (hR : Rp ad K C) (hc : Cl ad σ K) {j : Nat} (hj : j < cs_n σ) : px_W ps_Y ps_P B sc (d + 2) 23 [.ref (ad 0), .int (nI j), .ref (ad (40 + j))] C 0 0 (px_bo (cs_nds σ j) C) px_no := by
  have h0 := hR.1 0 _ hc.1.1
  have hn := hc.2.2.2.2.2.2.2.2.2
  refine ⟨pm_Mo_hasNeeds, rfl, Nat.le_of_ble_eq_true rfl, fun X hw hX => ?_⟩
  iterate 2 refine px_go hX ?_
  refine ⟨_, _, (hR.1 _ _ (hc.2.2.2.1 j hj)), rfl, ?_⟩
  refine px_go hX ?_
  refine ⟨fun (c1 : cs_bf σ j 4 = 0) => ?_, fun (c1 : ¬ cs_bf σ j 4 = 0) => ?_⟩
  · iterate 2 refine px_go hX ?_
    have loop : ∀ k i, i + k = cs_n σ → (∀ q, q < i → ¬ ¬ ((cs_bf σ q 4 >>> (nI j &&& 31)) &&& 1) = 0) → X (11, [(0, .ref (ad 0)), (1, .int (nI j)), (3, .int (nI i))], [], C, 0, 0) := by
      intro k
      induction k with
      | zero =>
        intro i hi hyp
        have hlt : i = cs_n σ := hi
        have h4 := c1
        iterate 3 refine px_go hX ?_
        refine ⟨_, _, h0, rfl, ?_⟩
        refine px_go hX ?_
        refine ⟨fun (c2 : nI (cs_n σ) ≤ nI i) => ?_, fun (c2 : ¬ nI (cs_n σ) ≤ nI i) => absurd (nI_le (by omega) (by omega)) c2⟩
        iterate 2 refine px_go hX ?_
        exact ⟨Or.inl rfl, rfl, Or.inr ⟨fun q => q.elim (fun q => q h4) (fun ⟨q, hq, hq2⟩ => hyp q (by omega) hq2), rfl⟩⟩
      | succ k ih =>
        intro i hi hyp
        have hlt : i < cs_n σ := by omega
        have h4 := c1
        iterate 3 refine px_go hX ?_
        refine ⟨_, _, h0, rfl, ?_⟩
        refine px_go hX ?_
        refine ⟨fun (c3 : nI (cs_n σ) ≤ nI i) => absurd c3 (nI_ge hlt (by omega)), fun (c3 : ¬ nI (cs_n σ) ≤ nI i) => ?_⟩
        iterate 3 refine px_go hX ?_
        refine ⟨_, h0, 0, 0, _, Nat.le_of_ble_eq_true rfl, Nat.le_of_ble_eq_true rfl, Nat.le_of_ble_eq_true rfl, cc_boxAtI hR hc hlt, ?_⟩
        rintro _ C ⟨rfl, rfl⟩
        iterate 6 refine px_go hX ?_
        refine ⟨_, (hR.1 _ _ (hc.2.2.2.1 i hlt)), 0, 0, _, Nat.le_of_ble_eq_true rfl, Nat.le_of_ble_eq_true rfl, Nat.le_of_ble_eq_true rfl, cc_follows hR hc hlt _, ?_⟩
        rintro _ C ⟨rfl, ⟨b4, rfl⟩ | ⟨b4, rfl⟩⟩
        · refine px_go hX ?_
          refine ⟨fun (c5 : 1 = 0) => absurd c5 (by decide), fun (c5 : ¬ 1 = 0) => ?_⟩
          iterate 2 refine px_go hX ?_
          exact ⟨Or.inr rfl, rfl, Or.inl ⟨Or.inr ⟨i, hlt, b4⟩, rfl⟩⟩
        · refine px_go hX ?_
          refine ⟨fun (c6 : 0 = 0) => ?_, fun (c6 : ¬ 0 = 0) => absurd rfl c6⟩
          iterate 2 refine px_go hX ?_
          exact px_lw hw [(0, .ref (ad 0)), (1, .int (nI j)), (3, .int (nI (i + 1)))] (ih (i + 1) (by omega) (pn_alls hyp b4)) ⟨rfl, rfl, (congrArg (fun z => some (Value.int z)) (nI_succ _).symm), trivial⟩
    exact px_lw hw [(0, .ref (ad 0)), (1, .int (nI j)), (3, .int (nI 0))] (loop (cs_n σ - 0) 0 (by omega) (fun q hq => absurd hq (Nat.not_lt_zero q))) ⟨rfl, rfl, rfl, trivial⟩
  · iterate 2 refine px_go hX ?_
    exact ⟨Or.inr rfl, rfl, Or.inl ⟨Or.inl c1, rfl⟩⟩
theorem cc_liesAboveLeaving (hR : Rp ad K C) (hc : Cl ad σ K) {j : Nat} (hj : j < cs_n σ) : px_W ps_Y ps_P B sc (d + 2) 26 [.ref (ad 0), .ref (ad (40 + j))] C 0 0 (px_bo (cs_abv σ j) C) px_no := by
  have h0 := hR.1 0 _ hc.1.1
  have hn := hc.2.2.2.2.2.2.2.2.2
  refine ⟨pm_Mo_liesAboveLeaving, rfl, Nat.le_of_ble_eq_true rfl, fun X hw hX => ?_⟩
  iterate 2 refine px_go hX ?_
  refine ⟨_, (hR.1 _ _ (hc.2.2.2.1 j hj)), 0, 0, _, Nat.le_of_ble_eq_true rfl, Nat.le_of_ble_eq_true rfl, Nat.le_of_ble_eq_true rfl, cc_liesInStack hR hc hj, ?_⟩
  rintro _ C ⟨rfl, ⟨b1, rfl⟩ | ⟨b1, rfl⟩⟩
  · refine px_go hX ?_
    refine ⟨fun (c2 : ¬ 1 = 0) => ?_, fun (c2 : 1 = 0) => absurd c2 (by decide)⟩
    iterate 2 refine px_go hX ?_
    have loop : ∀ k i, i + k = cs_n σ → (∀ q, q < i → ¬ (cs_bf σ q 0 = 0 ∧ (cs_bf σ q 1 = cs_bf σ j 1 ∧ cs_bf σ q 2 = cs_bf σ j 2 ∧ ¬ cs_bf σ j 3 ≤ cs_bf σ q 3))) → X (11, [(0, .ref (ad 0)), (1, .ref (ad (40 + j))), (2, .int (nI i))], [], C, 0, 0) := by
      intro k
      induction k with
      | zero =>
        intro i hi hyp
        have hlt : i = cs_n σ := hi
        have h4 := b1
        iterate 3 refine px_go hX ?_
        refine ⟨_, _, h0, rfl, ?_⟩
        refine px_go hX ?_
        refine ⟨fun (c3 : nI (cs_n σ) ≤ nI i) => ?_, fun (c3 : ¬ nI (cs_n σ) ≤ nI i) => absurd (nI_le (by omega) (by omega)) c3⟩
        iterate 2 refine px_go hX ?_
        exact ⟨Or.inl rfl, rfl, Or.inr ⟨fun ⟨_, q, hq, hq2⟩ => hyp q (by omega) hq2, rfl⟩⟩
      | succ k ih =>
        intro i hi hyp
        have hlt : i < cs_n σ := by omega
        have h4 := b1
        iterate 3 refine px_go hX ?_
        refine ⟨_, _, h0, rfl, ?_⟩
        refine px_go hX ?_
        refine ⟨fun (c4 : nI (cs_n σ) ≤ nI i) => absurd c4 (nI_ge hlt (by omega)), fun (c4 : ¬ nI (cs_n σ) ≤ nI i) => ?_⟩
        iterate 3 refine px_go hX ?_
        refine ⟨_, h0, 0, 0, _, Nat.le_of_ble_eq_true rfl, Nat.le_of_ble_eq_true rfl, Nat.le_of_ble_eq_true rfl, cc_boxAtI hR hc hlt, ?_⟩
        rintro _ C ⟨rfl, rfl⟩
        iterate 5 refine px_go hX ?_
        refine ⟨_, _, (hR.1 _ _ (hc.2.2.2.1 i hlt)), rfl, ?_⟩
        refine px_go hX ?_
        refine ⟨fun (c5 : ¬ cs_bf σ i 0 = 0) => ?_, fun (c5 : cs_bf σ i 0 = 0) => ?_⟩
        · iterate 2 refine px_go hX ?_
          exact px_lw hw [(0, .ref (ad 0)), (1, .ref (ad (40 + j))), (2, .int (nI (i + 1)))] (ih (i + 1) (by omega) (pn_alls hyp (fun z => c5 z.1))) ⟨rfl, rfl, (congrArg (fun z => some (Value.int z)) (nI_succ _).symm), trivial⟩
        · iterate 3 refine px_go hX ?_
          refine ⟨_, (hR.1 _ _ (hc.2.2.2.1 i hlt)), 0, 0, _, Nat.le_of_ble_eq_true rfl, Nat.le_of_ble_eq_true rfl, Nat.le_of_ble_eq_true rfl, cc_liesBelow hR hc hlt hj, ?_⟩
          rintro _ C ⟨rfl, ⟨b6, rfl⟩ | ⟨b6, rfl⟩⟩
          · refine px_go hX ?_
            refine ⟨fun (c7 : 1 = 0) => absurd c7 (by decide), fun (c7 : ¬ 1 = 0) => ?_⟩
            iterate 2 refine px_go hX ?_
            exact ⟨Or.inr rfl, rfl, Or.inl ⟨⟨h4, i, hlt, c5, b6⟩, rfl⟩⟩
          · refine px_go hX ?_
            refine ⟨fun (c8 : 0 = 0) => ?_, fun (c8 : ¬ 0 = 0) => absurd rfl c8⟩
            iterate 2 refine px_go hX ?_
            exact px_lw hw [(0, .ref (ad 0)), (1, .ref (ad (40 + j))), (2, .int (nI (i + 1)))] (ih (i + 1) (by omega) (pn_alls hyp (fun z => b6 z.2))) ⟨rfl, rfl, (congrArg (fun z => some (Value.int z)) (nI_succ _).symm), trivial⟩
    exact px_lw hw [(0, .ref (ad 0)), (1, .ref (ad (40 + j))), (2, .int (nI 0))] (loop (cs_n σ - 0) 0 (by omega) (fun q hq => absurd hq (Nat.not_lt_zero q))) ⟨rfl, rfl, rfl, trivial⟩
  · refine px_go hX ?_
    refine ⟨fun (c9 : ¬ 0 = 0) => absurd rfl c9, fun (c9 : 0 = 0) => ?_⟩
    iterate 2 refine px_go hX ?_
    exact ⟨Or.inl rfl, rfl, Or.inr ⟨fun q => b1 q.1, rfl⟩⟩
def of_least (σ : ck_S) (x : Int32) : cs_R := match cs_bq σ x with
  | none => (1, 0, σ)
  | some _ => (0, nI (pn_ct (fun j => decide ((cs_bf σ j 1 = x ∧ ¬ cs_bf σ j 2 = 3) ∧ (cs_bf σ j 0 = 0 ∨ cs_abv σ j))) (cs_n σ)), σ)
theorem cc_least (hR : Rp ad K C) (hc : Cl ad σ K) (x : Int32) : px_W ps_Y ps_P B sc (d + 3) 27 [.ref (ad 0), .int x] C 1 6 (px_oC ad K (of_least σ x)) (px_oT ad K (of_least σ x)) := by
  have h0 := hR.1 0 _ hc.1.1
  have hn := hc.2.2.2.2.2.2.2.2.2
  generalize hr : of_least σ x = r
  have hr1 : ∀ b, b < cs_nb σ → x = nI b → r = (0, nI (pn_ct (fun j => decide ((cs_bf σ j 1 = x ∧ ¬ cs_bf σ j 2 = 3) ∧ (cs_bf σ j 0 = 0 ∨ cs_abv σ j))) (cs_n σ)), σ) := fun b hb hx => by rw [← hr]; unfold of_least; rw [hx, cs_bq_s hc hb]
  generalize hp : (fun j => decide ((cs_bf σ j 1 = x ∧ ¬ cs_bf σ j 2 = 3) ∧ (cs_bf σ j 0 = 0 ∨ cs_abv σ j))) = p at hr1
  refine ⟨pm_Mo_least, rfl, Nat.le_of_ble_eq_true rfl, fun X hw hX => ?_⟩
  iterate 3 refine px_go hX ?_
  refine ⟨_, h0, 0, 0, _, Nat.le_of_ble_eq_true rfl, Nat.le_of_ble_eq_true rfl, Nat.le_of_ble_eq_true rfl, cc_bayAt hR hc _, ?_⟩
  rintro _ C ⟨rfl, ⟨b, hb, hx, rfl⟩ | ⟨hx, rfl⟩⟩
  · iterate 5 refine px_go hX ?_
    have loop : ∀ k i, i + k = cs_n σ → X (22, [(0, .ref (ad 0)), (1, .int (x)), (2, .int (nI (pn_ct p i))), (3, .int (nI i))], [], C, 0, 0) := by
      intro k
      induction k with
      | zero =>
        intro i hi
        have hlt : i = cs_n σ := hi
        iterate 3 refine px_go hX ?_
        refine ⟨_, _, h0, rfl, ?_⟩
        refine px_go hX ?_
        refine ⟨fun (c1 : nI (cs_n σ) ≤ nI i) => ?_, fun (c1 : ¬ nI (cs_n σ) ≤ nI i) => absurd (nI_le (by omega) (by omega)) c1⟩
        iterate 2 refine px_go hX ?_
        rw [hlt, hr1 b hb hx]
        exact ⟨rfl, rfl, Ca.of hR hc⟩
      | succ k ih =>
        intro i hi
        have hlt : i < cs_n σ := by omega
        iterate 3 refine px_go hX ?_
        refine ⟨_, _, h0, rfl, ?_⟩
        refine px_go hX ?_
        refine ⟨fun (c2 : nI (cs_n σ) ≤ nI i) => absurd c2 (nI_ge hlt (by omega)), fun (c2 : ¬ nI (cs_n σ) ≤ nI i) => ?_⟩
        iterate 3 refine px_go hX ?_
        refine ⟨_, h0, 0, 0, _, Nat.le_of_ble_eq_true rfl, Nat.le_of_ble_eq_true rfl, Nat.le_of_ble_eq_true rfl, cc_boxAtI hR hc hlt, ?_⟩
        rintro _ C ⟨rfl, rfl⟩
        iterate 6 refine px_go hX ?_
        refine ⟨_, (hR.1 _ _ (hc.2.2.2.1 i hlt)), 0, 0, _, Nat.le_of_ble_eq_true rfl, Nat.le_of_ble_eq_true rfl, Nat.le_of_ble_eq_true rfl, cc_isIn hR hc hlt _, ?_⟩
        rintro _ C ⟨rfl, ⟨b3, rfl⟩ | ⟨b3, rfl⟩⟩
        · refine px_go hX ?_
          refine ⟨fun (c4 : 1 = 0) => absurd c4 (by decide), fun (c4 : ¬ 1 = 0) => ?_⟩
          iterate 2 refine px_go hX ?_
          refine ⟨_, _, (hR.1 _ _ (hc.2.2.2.1 i hlt)), rfl, ?_⟩
          refine px_go hX ?_
          refine ⟨fun (c5 : cs_bf σ i 0 = 0) => ?_, fun (c5 : ¬ cs_bf σ i 0 = 0) => ?_⟩
          · iterate 3 refine px_go hX ?_
            exact px_lw hw [(0, .ref (ad 0)), (1, .int (x)), (2, .int (nI (pn_ct p (i + 1)))), (3, .int (nI (i + 1)))] (ih (i + 1) (by omega)) ⟨rfl, rfl, by rw [pn_ct_t (by rw [← hp]; exact decide_eq_true (by simp [c2, b3, c4, c5])), nI_succ]; rfl, (congrArg (fun z => some (Value.int z)) (nI_succ _).symm), trivial⟩
          · iterate 3 refine px_go hX ?_
            refine ⟨_, h0, 0, 0, _, Nat.le_of_ble_eq_true rfl, Nat.le_of_ble_eq_true rfl, Nat.le_of_ble_eq_true rfl, cc_liesAboveLeaving hR hc hlt, ?_⟩
            rintro _ C ⟨rfl, ⟨b6, rfl⟩ | ⟨b6, rfl⟩⟩
            · refine px_go hX ?_
              refine ⟨fun (c7 : 1 = 0) => absurd c7 (by decide), fun (c7 : ¬ 1 = 0) => ?_⟩
              iterate 3 refine px_go hX ?_
              exact px_lw hw [(0, .ref (ad 0)), (1, .int (x)), (2, .int (nI (pn_ct p (i + 1)))), (3, .int (nI (i + 1)))] (ih (i + 1) (by omega)) ⟨rfl, rfl, by rw [pn_ct_t (by rw [← hp]; exact decide_eq_true ⟨b3, Or.inr b6⟩), nI_succ]; rfl, (congrArg (fun z => some (Value.int z)) (nI_succ _).symm), trivial⟩
            · refine px_go hX ?_
              refine ⟨fun (c8 : 0 = 0) => ?_, fun (c8 : ¬ 0 = 0) => absurd rfl c8⟩
              iterate 2 refine px_go hX ?_
              exact px_lw hw [(0, .ref (ad 0)), (1, .int (x)), (2, .int (nI (pn_ct p (i + 1)))), (3, .int (nI (i + 1)))] (ih (i + 1) (by omega)) ⟨rfl, rfl, by rw [pn_ct_f (by rw [← hp]; exact decide_eq_false (by simp [c2, b3, c4, c5, b6, c8]))]; rfl, (congrArg (fun z => some (Value.int z)) (nI_succ _).symm), trivial⟩
        · refine px_go hX ?_
          refine ⟨fun (c9 : 0 = 0) => ?_, fun (c9 : ¬ 0 = 0) => absurd rfl c9⟩
          iterate 2 refine px_go hX ?_
          exact px_lw hw [(0, .ref (ad 0)), (1, .int (x)), (2, .int (nI (pn_ct p (i + 1)))), (3, .int (nI (i + 1)))] (ih (i + 1) (by omega)) ⟨rfl, rfl, by rw [pn_ct_f (by rw [← hp]; exact decide_eq_false (by simp [c2, b3, c9]))]; rfl, (congrArg (fun z => some (Value.int z)) (nI_succ _).symm), trivial⟩
    exact px_lw hw [(0, .ref (ad 0)), (1, .int (x)), (2, .int (nI (pn_ct p 0))), (3, .int (nI 0))] (loop (cs_n σ - 0) 0 (by omega)) ⟨rfl, rfl, rfl, rfl, trivial⟩
  · iterate 2 refine px_go hX ?_
    exact ⟨Nat.le_refl 1, Nat.le_refl 6, rfl, by rw [← hr]; unfold of_least; rw [cs_bq_n hx]; exact ⟨Or.inl ⟨rfl, rfl⟩, Ca.of hR hc⟩⟩
end RF
end
section
/-! The class's calls that answer, change no more than a bay's loads. -/
theorem Rp.ne {ad : Nat → Nat} {K : rp_K} {C : px_P} (h : Rp ad K C) {i j : Nat} {e f : px_E} (hi : K i = some e) (hj : K j = some f) (hij : i ≠ j) : ad i ≠ ad j := fun w => hij (h.2 i j ⟨e, hi⟩ ⟨f, hj⟩ w)
section RG
variable {B : Nat} {sc : Option (Nat × Nat × (Nat → Int32))} {d : Nat} {ad : Nat → Nat} {σ : ck_S} {K : rp_K} {C : px_P}
def cs_lft (σ : ck_S) (b : Nat) : Int32 := if cs_yf σ b 0 = 0 then -1 else cs_yf σ b 1 - cs_yf σ b 2
def cs_cob (σ : ck_S) (x : Int32) : Int32 := if 20 ≤ x then (match cs_bq σ (x - 20) with | none => -1 | some b => cs_lft σ b) else if 10 ≤ x then (match cs_bq σ (x - 10) with | none => -1 | some b => cs_yf σ b 3) else -1
theorem cs_cob_1 (hc : Cl ad σ K) {x : Int32} {b : Nat} (h1 : 20 ≤ x) (hb : b < cs_nb σ) (hx : x - 20 = nI b) : cs_cob σ x = cs_lft σ b := by
  unfold cs_cob
  rw [if_pos h1, hx, cs_bq_s hc hb]
theorem cs_cob_2 {x : Int32} (h1 : 20 ≤ x) (hx : x - 20 < 0 ∨ nI (cs_nb σ) ≤ x - 20) : cs_cob σ x = -1 := by
  unfold cs_cob
  rw [if_pos h1, cs_bq_n hx]
theorem cs_cob_3 (hc : Cl ad σ K) {x : Int32} {b : Nat} (h1 : ¬ 20 ≤ x) (h2 : 10 ≤ x) (hb : b < cs_nb σ) (hx : x - 10 = nI b) : cs_cob σ x = cs_yf σ b 3 := by
  unfold cs_cob
  rw [if_neg h1, if_pos h2, hx, cs_bq_s hc hb]
theorem cs_cob_4 {x : Int32} (h1 : ¬ 20 ≤ x) (h2 : 10 ≤ x) (hx : x - 10 < 0 ∨ nI (cs_nb σ) ≤ x - 10) : cs_cob σ x = -1 := by
  unfold cs_cob
  rw [if_neg h1, if_pos h2, cs_bq_n hx]
theorem cs_cob_5 {x : Int32} (h1 : ¬ 20 ≤ x) (h2 : ¬ 10 ≤ x) : cs_cob σ x = -1 := by
  unfold cs_cob
  rw [if_neg h1, if_neg h2]
theorem i32_nlt {x y : Int32} (h : ¬ x < y) : y ≤ x := Int32.not_lt.mp h
theorem i32_nle {x y : Int32} (h : x < y) : ¬ y ≤ x := Int32.not_le.mpr h
def cs_cnt (σ : ck_S) (x : Int32) : Int32 := if x = 0 then nI (cs_n σ) else if x = 1 then nI (pn_ct (fun j => decide (cs_bf σ j 2 = 3)) (cs_n σ)) else if x = 2 then nI (pn_ct (fun j => decide (cs_bf σ j 2 = 4)) (cs_n σ)) else if x = 3 then cs_mw σ else if x = 4 then cs_lg σ else cs_cob σ x
theorem cc_countOfBay (hR : Rp ad K C) (hc : Cl ad σ K) (x : Int32) : px_W ps_Y ps_P B sc (d + 2) 18 [.ref (ad 0), .int x] C 0 0 (fun v C' => C' = C ∧ v = some (.int (cs_cob σ x))) px_no := by
  have h0 := hR.1 0 _ hc.1.1
  have hn := hc.2.2.2.2.2.2.2.2.2
  refine ⟨pm_Mo_countOfBay, rfl, Nat.le_of_ble_eq_true rfl, fun X hw hX => ?_⟩
  iterate 3 refine px_go hX ?_
  refine ⟨fun (c1 : x < (20 : Int32)) => ?_, fun (c1 : ¬ x < (20 : Int32)) => ?_⟩
  · iterate 3 refine px_go hX ?_
    refine ⟨fun (c2 : x < (10 : Int32)) => ?_, fun (c2 : ¬ x < (10 : Int32)) => ?_⟩
    · iterate 2 refine px_go hX ?_
      rw [cs_cob_5 (i32_nle c1) (i32_nle c2)]
      exact ⟨rfl, rfl⟩
    · iterate 5 refine px_go hX ?_
      refine ⟨_, h0, 0, 0, _, Nat.le_of_ble_eq_true rfl, Nat.le_of_ble_eq_true rfl, Nat.le_of_ble_eq_true rfl, cc_bayAt hR hc _, ?_⟩
      rintro _ C ⟨rfl, ⟨b, hb, hx, rfl⟩ | ⟨hx, rfl⟩⟩
      · iterate 5 refine px_go hX ?_
        refine ⟨_, _, (hR.1 _ _ (hc.2.2.1 b hb).1), rfl, ?_⟩
        refine px_go hX ?_
        rw [cs_cob_3 hc (i32_nle c1) (i32_nlt c2) hb hx]
        exact ⟨rfl, rfl⟩
      · iterate 6 refine px_go hX ?_
        rw [cs_cob_4 (i32_nle c1) (i32_nlt c2) hx]
        exact ⟨rfl, rfl⟩
  · iterate 5 refine px_go hX ?_
    refine ⟨_, h0, 0, 0, _, Nat.le_of_ble_eq_true rfl, Nat.le_of_ble_eq_true rfl, Nat.le_of_ble_eq_true rfl, cc_bayAt hR hc _, ?_⟩
    rintro _ C ⟨rfl, ⟨b, hb, hx, rfl⟩ | ⟨hx, rfl⟩⟩
    · iterate 5 refine px_go hX ?_
      refine ⟨_, (hR.1 _ _ (hc.2.2.1 b hb).1), 0, 0, _, Nat.le_of_ble_eq_true rfl, Nat.le_of_ble_eq_true rfl, Nat.le_of_ble_eq_true rfl, cc_movesLeft hR hc hb, ?_⟩
      rintro _ C ⟨rfl, ⟨b2, rfl⟩ | ⟨b2, rfl⟩⟩
      · refine px_go hX ?_
        rw [cs_cob_1 hc (i32_nlt c1) hb hx, cs_lft, if_pos b2]
        exact ⟨rfl, rfl⟩
      · refine px_go hX ?_
        rw [cs_cob_1 hc (i32_nlt c1) hb hx, cs_lft, if_neg b2]
        exact ⟨rfl, rfl⟩
    · iterate 6 refine px_go hX ?_
      rw [cs_cob_2 (i32_nlt c1) hx]
      exact ⟨rfl, rfl⟩
theorem cc_count (hR : Rp ad K C) (hc : Cl ad σ K) (x : Int32) : px_W ps_Y ps_P B sc (d + 3) 19 [.ref (ad 0), .int x] C 0 0 (fun v C' => C' = C ∧ v = some (.int (cs_cnt σ x))) px_no := by
  have h0 := hR.1 0 _ hc.1.1
  have hn := hc.2.2.2.2.2.2.2.2.2
  refine ⟨pm_Mo_count, rfl, Nat.le_of_ble_eq_true rfl, fun X hw hX => ?_⟩
  iterate 2 refine px_go hX ?_
  refine ⟨fun c1 => ?_, fun c1 => ⟨fun c2 => ?_, fun c2 => ⟨fun c3 => ?_, fun c3 => ⟨fun c4 => ?_, fun c4 => ⟨fun c5 => ?_, fun c5 => ?_⟩⟩⟩⟩⟩
  · have c1 : x = (0 : Int32) := c1
    iterate 2 refine px_go hX ?_
    refine ⟨_, _, h0, rfl, ?_⟩
    refine px_go hX ?_
    unfold cs_cnt
    rw [if_pos c1]
    exact ⟨rfl, rfl⟩
  · have c1 : ¬ x = (0 : Int32) := c1
    have c2 : x = (1 : Int32) := c2
    iterate 3 refine px_go hX ?_
    refine ⟨_, h0, 0, 0, _, Nat.le_of_ble_eq_true rfl, Nat.le_of_ble_eq_true rfl, Nat.le_of_ble_eq_true rfl, cc_boxesAt hR hc _, ?_⟩
    rintro _ C ⟨rfl, rfl⟩
    refine px_go hX ?_
    unfold cs_cnt
    rw [if_neg c1, if_pos c2]
    exact ⟨rfl, rfl⟩
  · have c1 : ¬ x = (0 : Int32) := c1
    have c2 : ¬ x = (1 : Int32) := c2
    have c3 : x = (2 : Int32) := c3
    iterate 3 refine px_go hX ?_
    refine ⟨_, h0, 0, 0, _, Nat.le_of_ble_eq_true rfl, Nat.le_of_ble_eq_true rfl, Nat.le_of_ble_eq_true rfl, cc_boxesAt hR hc _, ?_⟩
    rintro _ C ⟨rfl, rfl⟩
    refine px_go hX ?_
    unfold cs_cnt
    rw [if_neg c1, if_neg c2, if_pos c3]
    exact ⟨rfl, rfl⟩
  · have c1 : ¬ x = (0 : Int32) := c1
    have c2 : ¬ x = (1 : Int32) := c2
    have c3 : ¬ x = (2 : Int32) := c3
    have c4 : x = (3 : Int32) := c4
    iterate 2 refine px_go hX ?_
    refine ⟨_, _, h0, rfl, ?_⟩
    refine px_go hX ?_
    unfold cs_cnt
    rw [if_neg c1, if_neg c2, if_neg c3, if_pos c4]
    exact ⟨rfl, rfl⟩
  · have c1 : ¬ x = (0 : Int32) := c1
    have c2 : ¬ x = (1 : Int32) := c2
    have c3 : ¬ x = (2 : Int32) := c3
    have c4 : ¬ x = (3 : Int32) := c4
    have c5 : x = (4 : Int32) := c5
    iterate 2 refine px_go hX ?_
    refine ⟨_, _, h0, rfl, ?_⟩
    refine px_go hX ?_
    unfold cs_cnt
    rw [if_neg c1, if_neg c2, if_neg c3, if_neg c4, if_pos c5]
    exact ⟨rfl, rfl⟩
  · have c1 : ¬ x = (0 : Int32) := c1
    have c2 : ¬ x = (1 : Int32) := c2
    have c3 : ¬ x = (2 : Int32) := c3
    have c4 : ¬ x = (3 : Int32) := c4
    have c5 : ¬ x = (4 : Int32) := c5
    iterate 3 refine px_go hX ?_
    refine ⟨_, h0, 0, 0, _, Nat.le_of_ble_eq_true rfl, Nat.le_of_ble_eq_true rfl, Nat.le_of_ble_eq_true rfl, cc_countOfBay hR hc _, ?_⟩
    rintro _ C ⟨rfl, rfl⟩
    refine px_go hX ?_
    unfold cs_cnt
    rw [if_neg c1, if_neg c2, if_neg c3, if_neg c4, if_neg c5]
    exact ⟨rfl, rfl⟩
theorem cc_movesOutLeft (hR : Rp ad K C) (hc : Cl ad σ K) {b : Nat} (hb : b < cs_nb σ) {mm w : Nat} (hp0 : ¬ cs_yf σ b 0 = 0) (hm : cs_yf σ b 1 = nI mm) (hw0 : cs_yf σ b 2 = nI w) (hwm : w ≤ mm) (hmm : mm ≤ 12) : px_W ps_Y ps_P B sc (d + 2) 21 [.ref (ad (20 + 4 * b))] C 0 0 (fun v C' => C' = C ∧ v = some (.int (nI (pn_ct (fun i => decide (cs_ya σ b 2 (w + i) = 3)) (mm - w))))) px_no := by
  have h0 := hR.1 0 _ hc.1.1
  have hn := hc.2.2.2.2.2.2.2.2.2
  have hty := hR.1 _ _ (hc.2.2.1 b hb).2.2.2
  have hnb := hc.2.2.2.2.2.2.1
  generalize hp : (fun i => decide (cs_ya σ b 2 (w + i) = 3)) = p
  refine ⟨pm_Bay_movesOutLeft, rfl, Nat.le_of_ble_eq_true rfl, fun X hw hX => ?_⟩
  have loop : ∀ k i, i + k = (mm - w) → X (7, [(0, .ref (ad (20 + 4 * b))), (1, .int (nI (pn_ct p i))), (2, .int (nI (w + i)))], [], C, 0, 0) := by
    intro k
    induction k with
    | zero =>
      intro i hi
      have hlt : i = (mm - w) := hi
      iterate 3 refine px_go hX ?_
      refine ⟨_, _, (hR.1 _ _ (hc.2.2.1 b hb).1), rfl, ?_⟩
      refine px_go hX ?_
      refine ⟨fun (c1 : cs_yf σ b 1 ≤ nI (w + i)) => ?_, fun (c1 : ¬ cs_yf σ b 1 ≤ nI (w + i)) => absurd (by rw [hm]; exact nI_le (by omega) (by omega)) c1⟩
      iterate 2 refine px_go hX ?_
      rw [hlt]
      exact ⟨rfl, rfl⟩
    | succ k ih =>
      intro i hi
      have hlt : i < (mm - w) := by omega
      iterate 3 refine px_go hX ?_
      refine ⟨_, _, (hR.1 _ _ (hc.2.2.1 b hb).1), rfl, ?_⟩
      refine px_go hX ?_
      refine ⟨fun (c2 : cs_yf σ b 1 ≤ nI (w + i)) => absurd (by rw [hm] at c2; exact c2) (nI_ge (by omega : w + i < mm) (by omega)), fun (c2 : ¬ cs_yf σ b 1 ≤ nI (w + i)) => ?_⟩
      iterate 3 refine px_go hX ?_
      refine ⟨_, (hR.1 _ _ (hc.2.2.1 b hb).1), 0, 0, _, Nat.le_of_ble_eq_true rfl, Nat.le_of_ble_eq_true rfl, Nat.le_of_ble_eq_true rfl, cc_hasMove hR hc hb _, ?_⟩
      rintro _ C ⟨rfl, ⟨b3, rfl⟩ | ⟨b3, rfl⟩⟩
      · refine px_go hX ?_
        refine ⟨fun (c4 : 1 = 0) => absurd c4 (by decide), fun (c4 : ¬ 1 = 0) => ?_⟩
        iterate 2 refine px_go hX ?_
        refine ⟨_, _, (hR.1 _ _ (hc.2.2.1 b hb).1), rfl, ?_⟩
        iterate 2 refine px_go hX ?_
        refine ⟨_, _, hty, vp_in_nI (by omega) (by omega), ?_⟩
        rw [nI_clamp (by omega)]
        iterate 2 refine px_go hX ?_
        refine ⟨fun (c5 : ¬ cs_ya σ b 2 (w + i) = (3 : Int32)) => ?_, fun (c5 : cs_ya σ b 2 (w + i) = (3 : Int32)) => ?_⟩
        · iterate 2 refine px_go hX ?_
          exact px_lw hw [(0, .ref (ad (20 + 4 * b))), (1, .int (nI (pn_ct p (i + 1)))), (2, .int (nI (w + (i + 1))))] (ih (i + 1) (by omega)) ⟨rfl, by rw [pn_ct_f (by rw [← hp]; exact decide_eq_false (by simp [c2, b3, c4, c5]))]; rfl, (congrArg (fun z => some (Value.int z)) (nI_succ _).symm), trivial⟩
        · iterate 3 refine px_go hX ?_
          exact px_lw hw [(0, .ref (ad (20 + 4 * b))), (1, .int (nI (pn_ct p (i + 1)))), (2, .int (nI (w + (i + 1))))] (ih (i + 1) (by omega)) ⟨rfl, by rw [pn_ct_t (by rw [← hp]; exact decide_eq_true (by simp [c2, b3, c4, c5])), nI_succ]; rfl, (congrArg (fun z => some (Value.int z)) (nI_succ _).symm), trivial⟩
      · refine px_go hX ?_
        refine ⟨fun (c6 : 0 = 0) => ?_, fun (c6 : ¬ 0 = 0) => absurd rfl c6⟩
        iterate 2 refine px_go hX ?_
        exact px_lw hw [(0, .ref (ad (20 + 4 * b))), (1, .int (nI (pn_ct p (i + 1)))), (2, .int (nI (w + (i + 1))))] (ih (i + 1) (by omega)) ⟨rfl, by rw [pn_ct_f (by rw [← hp]; exact decide_eq_false (absurd ⟨hp0, nI_pos (by omega : w + i < 2 ^ 31), by rw [hm]; exact nI_ge (by omega : w + i < mm) (by omega : mm < 2 ^ 31), nI_ge (by omega : w + i < 12) (by omega : 12 < 2 ^ 31)⟩ b3))]; rfl, (congrArg (fun z => some (Value.int z)) (nI_succ _).symm), trivial⟩
  iterate 4 refine px_go hX ?_
  refine ⟨_, _, (hR.1 _ _ (hc.2.2.1 b hb).1), rfl, ?_⟩
  iterate 1 refine px_go hX ?_
  exact px_lw hw [(0, .ref (ad (20 + 4 * b))), (1, .int (nI (pn_ct p 0))), (2, .int (nI (w + 0)))] (loop ((mm - w) - 0) 0 (by omega)) ⟨rfl, rfl, (congrArg (fun z => some (Value.int z)) hw0), trivial⟩
def of_dual (σ : ck_S) (x : Int32) : cs_R := match cs_bq σ x with
  | none => (1, 0, σ)
  | some b => (0, if cs_yf σ b 0 = 0 then -1 else if nI (pn_ct (fun i => decide (cs_ya σ b 2 ((cs_yf σ b 2).toNatClampNeg + i) = 3)) ((cs_yf σ b 1).toNatClampNeg - (cs_yf σ b 2).toNatClampNeg)) < cs_yf σ b 3 then nI (pn_ct (fun i => decide (cs_ya σ b 2 ((cs_yf σ b 2).toNatClampNeg + i) = 3)) ((cs_yf σ b 1).toNatClampNeg - (cs_yf σ b 2).toNatClampNeg)) else cs_yf σ b 3, σ)
/-- a plan's numbers -/
def cs_pl (σ : ck_S) : Prop := ∀ b, b < cs_nb σ → ∃ m w : Nat, cs_yf σ b 1 = nI m ∧ cs_yf σ b 2 = nI w ∧ w ≤ m ∧ m ≤ 12 ∧ (cs_yf σ b 0 = 0 → m = 0)
theorem cc_dual (hR : Rp ad K C) (hc : Cl ad σ K) (hpl : cs_pl σ) (x : Int32) : px_W ps_Y ps_P B sc (d + 3) 22 [.ref (ad 0), .int x] C 1 6 (px_oC ad K (of_dual σ x)) (px_oT ad K (of_dual σ x)) := by
  have h0 := hR.1 0 _ hc.1.1
  have hn := hc.2.2.2.2.2.2.2.2.2
  refine ⟨pm_Mo_dual, rfl, Nat.le_of_ble_eq_true rfl, fun X hw hX => ?_⟩
  iterate 3 refine px_go hX ?_
  refine ⟨_, h0, 0, 0, _, Nat.le_of_ble_eq_true rfl, Nat.le_of_ble_eq_true rfl, Nat.le_of_ble_eq_true rfl, cc_bayAt hR hc _, ?_⟩
  rintro _ C ⟨rfl, ⟨b, hb, hx, rfl⟩ | ⟨hx, rfl⟩⟩
  · obtain ⟨m, w, hm, hw0, hwm, hmm, -⟩ := hpl b hb
    iterate 5 refine px_go hX ?_
    refine ⟨_, _, (hR.1 _ _ (hc.2.2.1 b hb).1), rfl, ?_⟩
    refine px_go hX ?_
    refine ⟨fun (c1 : cs_yf σ b 0 = 0) => ?_, fun (c1 : ¬ cs_yf σ b 0 = 0) => ?_⟩
    · iterate 2 refine px_go hX ?_
      have hr : of_dual σ x = (0, -1, σ) := by
        unfold of_dual
        rw [hx, cs_bq_s hc hb]
        exact congrArg (fun z => ((0, z, σ) : cs_R)) (if_pos c1)
      rw [hr]
      exact ⟨rfl, rfl, Ca.of hR hc⟩
    · iterate 2 refine px_go hX ?_
      refine ⟨_, _, (hR.1 _ _ (hc.2.2.1 b hb).1), rfl, ?_⟩
      iterate 2 refine px_go hX ?_
      refine ⟨_, (hR.1 _ _ (hc.2.2.1 b hb).1), 0, 0, _, Nat.le_of_ble_eq_true rfl, Nat.le_of_ble_eq_true rfl, Nat.le_of_ble_eq_true rfl, cc_movesOutLeft hR hc hb c1 hm hw0 hwm hmm, ?_⟩
      rintro _ C ⟨rfl, rfl⟩
      refine px_go hX ?_
      refine ⟨Nat.le_of_ble_eq_true rfl, ?_⟩
      iterate 2 refine px_go hX ?_
      have e1 : (cs_yf σ b 2).toNatClampNeg = w := by rw [hw0, nI_clamp (by omega)]
      have e2 : (cs_yf σ b 1).toNatClampNeg = m := by rw [hm, nI_clamp (by omega)]
      have hr : of_dual σ x = (0, (if nI (pn_ct (fun i => decide (cs_ya σ b 2 (w + i) = 3)) (m - w)) < cs_yf σ b 3 then nI (pn_ct (fun i => decide (cs_ya σ b 2 (w + i) = 3)) (m - w)) else cs_yf σ b 3), σ) := by
        unfold of_dual
        rw [hx, cs_bq_s hc hb]
        exact by rw [← e1, ← e2]; exact congrArg (fun z => ((0, z, σ) : cs_R)) (if_neg c1)
      rw [hr]
      exact ⟨rfl, rfl, Ca.of hR hc⟩
  · iterate 4 refine px_go hX ?_
    have hr : of_dual σ x = (1, 0, σ) := by
      unfold of_dual
      rw [cs_bq_n hx]
    refine ⟨Nat.le_refl 1, Nat.le_refl 6, rfl, ?_⟩
    rw [hr]
    exact ⟨Or.inl ⟨rfl, rfl⟩, Ca.of hR hc⟩
def of_loads (σ : ck_S) (x y : Int32) : cs_R := match cs_bq σ x with
  | none => (1, 0, σ)
  | some b => if y < 1 ∨ ¬ y ≤ 100 then (1, 0, σ) else if cs_yf σ b 3 + y ≤ 100 then (0, cs_yf σ b 3 + y, cs_sY σ b (fun k => match k with | 3 => cs_yf σ b 3 + y | k => cs_yf σ b k)) else (2, 0, σ)
theorem cc_loads (hR : Rp ad K C) (hc : Cl ad σ K) (x y : Int32) : px_W ps_Y ps_P B sc (d + 2) 28 [.ref (ad 0), .int x, .int y] C 1 6 (px_oC ad K (of_loads σ x y)) (px_oT ad K (of_loads σ x y)) := by
  have h0 := hR.1 0 _ hc.1.1
  have hn := hc.2.2.2.2.2.2.2.2.2
  have hnb := hc.2.2.2.2.2.2.1
  refine ⟨pm_Mo_loads, rfl, Nat.le_of_ble_eq_true rfl, fun X hw hX => ?_⟩
  iterate 3 refine px_go hX ?_
  refine ⟨_, h0, 0, 0, _, Nat.le_of_ble_eq_true rfl, Nat.le_of_ble_eq_true rfl, Nat.le_of_ble_eq_true rfl, cc_bayAt hR hc _, ?_⟩
  rintro _ C ⟨rfl, ⟨b, hb, hx, rfl⟩ | ⟨hx, rfl⟩⟩
  · iterate 6 refine px_go hX ?_
    refine ⟨fun (c1 : y < (1 : Int32)) => ?_, fun (c1 : ¬ y < (1 : Int32)) => ?_⟩
    · refine px_go hX ?_
      have hr : of_loads σ x y = (1, 0, σ) := by
        unfold of_loads
        rw [hx, cs_bq_s hc hb]
        exact if_pos (Or.inl c1)
      refine ⟨Nat.le_refl 1, Nat.le_refl 6, rfl, ?_⟩
      rw [hr]
      exact ⟨Or.inl ⟨rfl, rfl⟩, Ca.of hR hc⟩
    · iterate 3 refine px_go hX ?_
      refine ⟨fun (c2 : y ≤ (100 : Int32)) => ?_, fun (c2 : ¬ y ≤ (100 : Int32)) => ?_⟩
      · iterate 2 refine px_go hX ?_
        refine ⟨_, _, (hR.1 _ _ (hc.2.2.1 b hb).1), rfl, ?_⟩
        iterate 4 refine px_go hX ?_
        refine ⟨fun (c3 : (cs_yf σ b 3) + (y) ≤ (100 : Int32)) => ?_, fun (c3 : ¬ (cs_yf σ b 3) + (y) ≤ (100 : Int32)) => ?_⟩
        · iterate 3 refine px_go hX ?_
          refine ⟨_, _, (hR.1 _ _ (hc.2.2.1 b hb).1), rfl, ?_⟩
          iterate 3 refine px_go hX ?_
          refine ⟨_, (hR.1 _ _ (hc.2.2.1 b hb).1), Nat.le_of_ble_eq_true rfl, rfl, rfl, ?_⟩
          iterate 2 refine px_go hX ?_
          refine ⟨_, _, (px_up_s _ _ _), rfl, ?_⟩
          refine px_go hX ?_
          have hr : of_loads σ x y = (0, cs_yf σ b 3 + y, cs_sY σ b (fun k => match k with | 3 => cs_yf σ b 3 + y | k => cs_yf σ b k)) := by
            unfold of_loads
            rw [hx, cs_bq_s hc hb]
            exact (if_neg (fun q => q.elim c1 (fun q => q c2))).trans (if_pos c3)
          rw [hr]
          exact ⟨rfl, rfl, Ck.ca ⟨_, hR.put (hc.2.2.1 b hb).1 _, hc.sY hb _, fun i hi => rp_up_n _ _ (by omega)⟩⟩
        · refine px_go hX ?_
          have hr : of_loads σ x y = (2, 0, σ) := by
            unfold of_loads
            rw [hx, cs_bq_s hc hb]
            exact (if_neg (fun q => q.elim c1 (fun q => q c2))).trans (if_neg c3)
          refine ⟨Nat.le_refl 1, Nat.le_refl 6, rfl, ?_⟩
          rw [hr]
          exact ⟨Or.inr (Or.inl ⟨rfl, rfl⟩), Ca.of hR hc⟩
      · refine px_go hX ?_
        have hr : of_loads σ x y = (1, 0, σ) := by
          unfold of_loads
          rw [hx, cs_bq_s hc hb]
          exact if_pos (Or.inr c2)
        refine ⟨Nat.le_refl 1, Nat.le_refl 6, rfl, ?_⟩
        rw [hr]
        exact ⟨Or.inl ⟨rfl, rfl⟩, Ca.of hR hc⟩
  · iterate 4 refine px_go hX ?_
    have hr : of_loads σ x y = (1, 0, σ) := by
      unfold of_loads
      rw [cs_bq_n hx]
    refine ⟨Nat.le_refl 1, Nat.le_refl 6, rfl, ?_⟩
    rw [hr]
    exact ⟨Or.inl ⟨rfl, rfl⟩, Ca.of hR hc⟩
def of_look (σ : ck_S) (x y : Int32) : cs_R := match cs_xq σ x with
  | none => (1, 0, σ)
  | some j => if y < 0 ∨ ¬ y ≤ 3 then (1, 0, σ) else (0, if y = 0 then cs_bf σ j 0 else if y = 1 then cs_bf σ j 1 else if y = 2 then cs_bf σ j 2 else cs_bf σ j 3, σ)
theorem cc_look (hR : Rp ad K C) (hc : Cl ad σ K) (x y : Int32) : px_W ps_Y ps_P B sc (d + 2) 29 [.ref (ad 0), .int x, .int y] C 1 6 (px_oC ad K (of_look σ x y)) (px_oT ad K (of_look σ x y)) := by
  have h0 := hR.1 0 _ hc.1.1
  have hn := hc.2.2.2.2.2.2.2.2.2
  refine ⟨pm_Mo_look, rfl, Nat.le_of_ble_eq_true rfl, fun X hw hX => ?_⟩
  iterate 3 refine px_go hX ?_
  refine ⟨_, h0, 0, 0, _, Nat.le_of_ble_eq_true rfl, Nat.le_of_ble_eq_true rfl, Nat.le_of_ble_eq_true rfl, cc_boxAt hR hc _, ?_⟩
  rintro _ C ⟨rfl, ⟨j, hj, hx, rfl⟩ | ⟨hx, rfl⟩⟩
  · iterate 5 refine px_go hX ?_
    refine ⟨fun (c1 : y < 0) => ?_, fun (c1 : ¬ y < 0) => ?_⟩
    · refine px_go hX ?_
      have hr : of_look σ x y = (1, 0, σ) := by
        unfold of_look
        rw [hx, cs_xq_s hc hj]
        exact if_pos (Or.inl c1)
      refine ⟨Nat.le_refl 1, Nat.le_refl 6, rfl, ?_⟩
      rw [hr]
      exact ⟨Or.inr (Or.inr ⟨rfl, rfl⟩), Ca.of hR hc⟩
    · iterate 3 refine px_go hX ?_
      refine ⟨fun (c2 : y ≤ (3 : Int32)) => ?_, fun (c2 : ¬ y ≤ (3 : Int32)) => ?_⟩
      · iterate 2 refine px_go hX ?_
        refine ⟨fun c3 => ?_, fun c3 => ⟨fun c4 => ?_, fun c4 => ⟨fun c5 => ?_, fun c5 => ?_⟩⟩⟩
        · have c3 : y = (0 : Int32) := c3
          iterate 2 refine px_go hX ?_
          refine ⟨_, _, (hR.1 _ _ (hc.2.2.2.1 j hj)), rfl, ?_⟩
          refine px_go hX ?_
          have hr : of_look σ x y = (0, cs_bf σ j 0, σ) := by
            unfold of_look
            rw [hx, cs_xq_s hc hj]
            exact (if_neg (fun q => q.elim c1 (fun q => q c2))).trans (congrArg (fun z => ((0, z, σ) : cs_R)) (if_pos c3))
          rw [hr]
          exact ⟨rfl, rfl, Ca.of hR hc⟩
        · have c3 : ¬ y = (0 : Int32) := c3
          have c4 : y = (1 : Int32) := c4
          iterate 2 refine px_go hX ?_
          refine ⟨_, _, (hR.1 _ _ (hc.2.2.2.1 j hj)), rfl, ?_⟩
          refine px_go hX ?_
          have hr : of_look σ x y = (0, cs_bf σ j 1, σ) := by
            unfold of_look
            rw [hx, cs_xq_s hc hj]
            exact (if_neg (fun q => q.elim c1 (fun q => q c2))).trans (congrArg (fun z => ((0, z, σ) : cs_R)) ((if_neg c3).trans (if_pos c4)))
          rw [hr]
          exact ⟨rfl, rfl, Ca.of hR hc⟩
        · have c3 : ¬ y = (0 : Int32) := c3
          have c4 : ¬ y = (1 : Int32) := c4
          have c5 : y = (2 : Int32) := c5
          iterate 2 refine px_go hX ?_
          refine ⟨_, _, (hR.1 _ _ (hc.2.2.2.1 j hj)), rfl, ?_⟩
          refine px_go hX ?_
          have hr : of_look σ x y = (0, cs_bf σ j 2, σ) := by
            unfold of_look
            rw [hx, cs_xq_s hc hj]
            exact (if_neg (fun q => q.elim c1 (fun q => q c2))).trans (congrArg (fun z => ((0, z, σ) : cs_R)) (((if_neg c3).trans (if_neg c4)).trans (if_pos c5)))
          rw [hr]
          exact ⟨rfl, rfl, Ca.of hR hc⟩
        · have c3 : ¬ y = (0 : Int32) := c3
          have c4 : ¬ y = (1 : Int32) := c4
          have c5 : ¬ y = (2 : Int32) := c5
          iterate 2 refine px_go hX ?_
          refine ⟨_, _, (hR.1 _ _ (hc.2.2.2.1 j hj)), rfl, ?_⟩
          refine px_go hX ?_
          have hr : of_look σ x y = (0, cs_bf σ j 3, σ) := by
            unfold of_look
            rw [hx, cs_xq_s hc hj]
            exact (if_neg (fun q => q.elim c1 (fun q => q c2))).trans (congrArg (fun z => ((0, z, σ) : cs_R)) (((if_neg c3).trans (if_neg c4)).trans (if_neg c5)))
          rw [hr]
          exact ⟨rfl, rfl, Ca.of hR hc⟩
      · refine px_go hX ?_
        have hr : of_look σ x y = (1, 0, σ) := by
          unfold of_look
          rw [hx, cs_xq_s hc hj]
          exact if_pos (Or.inr c2)
        refine ⟨Nat.le_refl 1, Nat.le_refl 6, rfl, ?_⟩
        rw [hr]
        exact ⟨Or.inr (Or.inr ⟨rfl, rfl⟩), Ca.of hR hc⟩
  · iterate 4 refine px_go hX ?_
    have hr : of_look σ x y = (1, 0, σ) := by
      unfold of_look
      rw [cs_xq_n hx]
    refine ⟨Nat.le_refl 1, Nat.le_refl 6, rfl, ?_⟩
    rw [hr]
    exact ⟨Or.inr (Or.inr ⟨rfl, rfl⟩), Ca.of hR hc⟩
def of_move (σ : ck_S) (x y z : Int32) : cs_R := match cs_bq σ x with
  | none => (1, 0, σ)
  | some b => if ¬ (¬ cs_yf σ b 0 = 0 ∧ ¬ y < 0 ∧ ¬ cs_yf σ b 1 ≤ y ∧ ¬ 12 ≤ y) ∨ z < 0 ∨ ¬ z ≤ 3 then (1, 0, σ) else (0, if z = 0 then cs_ya σ b 0 y.toNatClampNeg else if z = 1 then cs_ya σ b 1 y.toNatClampNeg else if z = 2 then cs_ya σ b 2 y.toNatClampNeg else if cs_yf σ b 2 ≤ y then 0 else 1, σ)
theorem cc_move (hR : Rp ad K C) (hc : Cl ad σ K) (x y z : Int32) : px_W ps_Y ps_P B sc (d + 2) 30 [.ref (ad 0), .int x, .int y, .int z] C 1 6 (px_oC ad K (of_move σ x y z)) (px_oT ad K (of_move σ x y z)) := by
  have h0 := hR.1 0 _ hc.1.1
  have hn := hc.2.2.2.2.2.2.2.2.2
  refine ⟨pm_Mo_move, rfl, Nat.le_of_ble_eq_true rfl, fun X hw hX => ?_⟩
  iterate 3 refine px_go hX ?_
  refine ⟨_, h0, 0, 0, _, Nat.le_of_ble_eq_true rfl, Nat.le_of_ble_eq_true rfl, Nat.le_of_ble_eq_true rfl, cc_bayAt hR hc _, ?_⟩
  rintro _ C ⟨rfl, ⟨b, hb, hx, rfl⟩ | ⟨hx, rfl⟩⟩
  · iterate 6 refine px_go hX ?_
    refine ⟨_, (hR.1 _ _ (hc.2.2.1 b hb).1), 0, 0, _, Nat.le_of_ble_eq_true rfl, Nat.le_of_ble_eq_true rfl, Nat.le_of_ble_eq_true rfl, cc_hasMove hR hc hb _, ?_⟩
    rintro _ C ⟨rfl, ⟨b1, rfl⟩ | ⟨b1, rfl⟩⟩
    · refine px_go hX ?_
      refine ⟨fun (c2 : 1 = 0) => absurd c2 (by decide), fun (c2 : ¬ 1 = 0) => ?_⟩
      iterate 2 refine px_go hX ?_
      refine ⟨fun (c3 : z < 0) => ?_, fun (c3 : ¬ z < 0) => ?_⟩
      · refine px_go hX ?_
        have hr : of_move σ x y z = (1, 0, σ) := by
          unfold of_move
          rw [hx, cs_bq_s hc hb]
          exact if_pos (Or.inr (Or.inl c3))
        refine ⟨Nat.le_refl 1, Nat.le_refl 6, rfl, ?_⟩
        rw [hr]
        exact ⟨Or.inr (Or.inr ⟨rfl, rfl⟩), Ca.of hR hc⟩
      · iterate 3 refine px_go hX ?_
        refine ⟨fun (c4 : z ≤ (3 : Int32)) => ?_, fun (c4 : ¬ z ≤ (3 : Int32)) => ?_⟩
        · iterate 2 refine px_go hX ?_
          refine ⟨fun c5 => ?_, fun c5 => ⟨fun c6 => ?_, fun c6 => ⟨fun c7 => ?_, fun c7 => ?_⟩⟩⟩
          · have c5 : z = (0 : Int32) := c5
            iterate 2 refine px_go hX ?_
            refine ⟨_, _, (hR.1 _ _ (hc.2.2.1 b hb).1), rfl, ?_⟩
            iterate 2 refine px_go hX ?_
            refine ⟨_, _, (hR.1 _ _ (hc.2.2.1 b hb).2.1), (by rcases px_ixx y 12 (by omega) with ⟨i, hi, rfl⟩ | h | h; exact vp_in_nI hi (by omega); exact absurd h b1.2.1; exact absurd h b1.2.2.2), ?_⟩
            refine px_go hX ?_
            have hr : of_move σ x y z = (0, cs_ya σ b 0 y.toNatClampNeg, σ) := by
              unfold of_move
              rw [hx, cs_bq_s hc hb]
              exact (if_neg (fun q => q.elim (fun q => q b1) (fun q => q.elim c3 (fun q => q c4)))).trans (congrArg (fun z => ((0, z, σ) : cs_R)) (if_pos c5))
            rw [hr]
            exact ⟨rfl, rfl, Ca.of hR hc⟩
          · have c5 : ¬ z = (0 : Int32) := c5
            have c6 : z = (1 : Int32) := c6
            iterate 2 refine px_go hX ?_
            refine ⟨_, _, (hR.1 _ _ (hc.2.2.1 b hb).1), rfl, ?_⟩
            iterate 2 refine px_go hX ?_
            refine ⟨_, _, (hR.1 _ _ (hc.2.2.1 b hb).2.2.1), (by rcases px_ixx y 12 (by omega) with ⟨i, hi, rfl⟩ | h | h; exact vp_in_nI hi (by omega); exact absurd h b1.2.1; exact absurd h b1.2.2.2), ?_⟩
            refine px_go hX ?_
            have hr : of_move σ x y z = (0, cs_ya σ b 1 y.toNatClampNeg, σ) := by
              unfold of_move
              rw [hx, cs_bq_s hc hb]
              exact (if_neg (fun q => q.elim (fun q => q b1) (fun q => q.elim c3 (fun q => q c4)))).trans (congrArg (fun z => ((0, z, σ) : cs_R)) ((if_neg c5).trans (if_pos c6)))
            rw [hr]
            exact ⟨rfl, rfl, Ca.of hR hc⟩
          · have c5 : ¬ z = (0 : Int32) := c5
            have c6 : ¬ z = (1 : Int32) := c6
            have c7 : z = (2 : Int32) := c7
            iterate 2 refine px_go hX ?_
            refine ⟨_, _, (hR.1 _ _ (hc.2.2.1 b hb).1), rfl, ?_⟩
            iterate 2 refine px_go hX ?_
            refine ⟨_, _, (hR.1 _ _ (hc.2.2.1 b hb).2.2.2), (by rcases px_ixx y 12 (by omega) with ⟨i, hi, rfl⟩ | h | h; exact vp_in_nI hi (by omega); exact absurd h b1.2.1; exact absurd h b1.2.2.2), ?_⟩
            refine px_go hX ?_
            have hr : of_move σ x y z = (0, cs_ya σ b 2 y.toNatClampNeg, σ) := by
              unfold of_move
              rw [hx, cs_bq_s hc hb]
              exact (if_neg (fun q => q.elim (fun q => q b1) (fun q => q.elim c3 (fun q => q c4)))).trans (congrArg (fun z => ((0, z, σ) : cs_R)) (((if_neg c5).trans (if_neg c6)).trans (if_pos c7)))
            rw [hr]
            exact ⟨rfl, rfl, Ca.of hR hc⟩
          · have c5 : ¬ z = (0 : Int32) := c5
            have c6 : ¬ z = (1 : Int32) := c6
            have c7 : ¬ z = (2 : Int32) := c7
            iterate 3 refine px_go hX ?_
            refine ⟨_, _, (hR.1 _ _ (hc.2.2.1 b hb).1), rfl, ?_⟩
            refine px_go hX ?_
            refine ⟨fun (c8 : cs_yf σ b 2 ≤ y) => ?_, fun (c8 : ¬ cs_yf σ b 2 ≤ y) => ?_⟩
            · iterate 2 refine px_go hX ?_
              have hr : of_move σ x y z = (0, (0 : Int32), σ) := by
                unfold of_move
                rw [hx, cs_bq_s hc hb]
                exact (if_neg (fun q => q.elim (fun q => q b1) (fun q => q.elim c3 (fun q => q c4)))).trans (congrArg (fun z => ((0, z, σ) : cs_R)) ((((if_neg c5).trans (if_neg c6)).trans (if_neg c7)).trans (if_pos c8)))
              rw [hr]
              exact ⟨rfl, rfl, Ca.of hR hc⟩
            · iterate 3 refine px_go hX ?_
              have hr : of_move σ x y z = (0, (1 : Int32), σ) := by
                unfold of_move
                rw [hx, cs_bq_s hc hb]
                exact (if_neg (fun q => q.elim (fun q => q b1) (fun q => q.elim c3 (fun q => q c4)))).trans (congrArg (fun z => ((0, z, σ) : cs_R)) ((((if_neg c5).trans (if_neg c6)).trans (if_neg c7)).trans (if_neg c8)))
              rw [hr]
              exact ⟨rfl, rfl, Ca.of hR hc⟩
        · refine px_go hX ?_
          have hr : of_move σ x y z = (1, 0, σ) := by
            unfold of_move
            rw [hx, cs_bq_s hc hb]
            exact if_pos (Or.inr (Or.inr c4))
          refine ⟨Nat.le_refl 1, Nat.le_refl 6, rfl, ?_⟩
          rw [hr]
          exact ⟨Or.inr (Or.inr ⟨rfl, rfl⟩), Ca.of hR hc⟩
    · refine px_go hX ?_
      refine ⟨fun (c9 : 0 = 0) => ?_, fun (c9 : ¬ 0 = 0) => absurd rfl c9⟩
      refine px_go hX ?_
      have hr : of_move σ x y z = (1, 0, σ) := by
        unfold of_move
        rw [hx, cs_bq_s hc hb]
        exact if_pos (Or.inl b1)
      refine ⟨Nat.le_refl 1, Nat.le_refl 6, rfl, ?_⟩
      rw [hr]
      exact ⟨Or.inr (Or.inr ⟨rfl, rfl⟩), Ca.of hR hc⟩
  · iterate 4 refine px_go hX ?_
    have hr : of_move σ x y z = (1, 0, σ) := by
      unfold of_move
      rw [cs_bq_n hx]
    refine ⟨Nat.le_refl 1, Nat.le_refl 6, rfl, ?_⟩
    rw [hr]
    exact ⟨Or.inr (Or.inr ⟨rfl, rfl⟩), Ca.of hR hc⟩
end RG
end
section
/-! The class's calls that change its state: swap, work, before. -/
section RH
variable {B : Nat} {sc : Option (Nat × Nat × (Nat → Int32))} {d : Nat} {ad : Nat → Nat} {σ : ck_S} {K : rp_K} {C : px_P}
def cs_sw (σ : ck_S) (j k : Nat) : ck_S := cs_sB (cs_sB σ j (fun q => match q with | 0 => cs_bf σ j 0 | 1 => cs_bf σ k 1 | 2 => cs_bf σ k 2 | 3 => cs_bf σ k 3 | _ => cs_bf σ j 4)) k (fun q => match q with | 0 => cs_bf σ k 0 | 1 => cs_bf σ j 1 | 2 => cs_bf σ j 2 | 3 => cs_bf σ j 3 | _ => cs_bf σ k 4)
theorem cc_changePlaces (hR : Rp ad K C) (hc : Cl ad σ K) {j k : Nat} (hj : j < cs_n σ) (hk : k < cs_n σ) (hjk : j ≠ k) : px_W ps_Y ps_P B sc (d + 1) 49 [.ref (ad (40 + j)), .ref (ad (40 + k))] C 0 0 (fun v C' => v = none ∧ Ck ad (cs_sw σ j k) K C') px_no := by
  have h0 := hR.1 0 _ hc.1.1
  have hn := hc.2.2.2.2.2.2.2.2.2
  refine ⟨pm_Box_changePlaces, rfl, Nat.le_of_ble_eq_true rfl, fun X hw hX => ?_⟩
  iterate 2 refine px_go hX ?_
  refine ⟨_, _, (hR.1 _ _ (hc.2.2.2.1 j hj)), rfl, ?_⟩
  iterate 3 refine px_go hX ?_
  refine ⟨_, _, (hR.1 _ _ (hc.2.2.2.1 j hj)), rfl, ?_⟩
  iterate 3 refine px_go hX ?_
  refine ⟨_, _, (hR.1 _ _ (hc.2.2.2.1 j hj)), rfl, ?_⟩
  iterate 4 refine px_go hX ?_
  refine ⟨_, _, (hR.1 _ _ (hc.2.2.2.1 k hk)), rfl, ?_⟩
  refine px_go hX ?_
  refine ⟨_, (hR.1 _ _ (hc.2.2.2.1 j hj)), Nat.le_of_ble_eq_true rfl, rfl, rfl, ?_⟩
  iterate 3 refine px_go hX ?_
  refine ⟨_, _, ((px_up_n _ _ (hR.ne (hc.2.2.2.1 k hk) (hc.2.2.2.1 j hj) (by omega))).trans (hR.1 _ _ (hc.2.2.2.1 k hk))), rfl, ?_⟩
  refine px_go hX ?_
  refine ⟨_, (px_up_s _ _ _), Nat.le_of_ble_eq_true rfl, rfl, rfl, ?_⟩
  iterate 3 refine px_go hX ?_
  refine ⟨_, _, ((px_up_n _ _ (hR.ne (hc.2.2.2.1 k hk) (hc.2.2.2.1 j hj) (by omega))).trans ((px_up_n _ _ (hR.ne (hc.2.2.2.1 k hk) (hc.2.2.2.1 j hj) (by omega))).trans (hR.1 _ _ (hc.2.2.2.1 k hk)))), rfl, ?_⟩
  refine px_go hX ?_
  refine ⟨_, (px_up_s _ _ _), Nat.le_of_ble_eq_true rfl, rfl, rfl, ?_⟩
  iterate 3 refine px_go hX ?_
  refine ⟨_, ((px_up_n _ _ (hR.ne (hc.2.2.2.1 k hk) (hc.2.2.2.1 j hj) (by omega))).trans ((px_up_n _ _ (hR.ne (hc.2.2.2.1 k hk) (hc.2.2.2.1 j hj) (by omega))).trans ((px_up_n _ _ (hR.ne (hc.2.2.2.1 k hk) (hc.2.2.2.1 j hj) (by omega))).trans (hR.1 _ _ (hc.2.2.2.1 k hk))))), Nat.le_of_ble_eq_true rfl, rfl, rfl, ?_⟩
  iterate 3 refine px_go hX ?_
  refine ⟨_, (px_up_s _ _ _), Nat.le_of_ble_eq_true rfl, rfl, rfl, ?_⟩
  iterate 3 refine px_go hX ?_
  refine ⟨_, (px_up_s _ _ _), Nat.le_of_ble_eq_true rfl, rfl, rfl, ?_⟩
  refine px_go hX ?_
  have hR1 := ((((((hR.put (i := 40 + j) (hc.2.2.2.1 j hj) (px_o 2 [.int (cs_bf σ j 0), .int (cs_bf σ k 1), .int (cs_bf σ j 2), .int (cs_bf σ j 3), .int (cs_bf σ j 4)])).put (i := 40 + j) (rp_up_s _ _ _) (px_o 2 [.int (cs_bf σ j 0), .int (cs_bf σ k 1), .int (cs_bf σ k 2), .int (cs_bf σ j 3), .int (cs_bf σ j 4)])).put (i := 40 + j) (rp_up_s _ _ _) (px_o 2 [.int (cs_bf σ j 0), .int (cs_bf σ k 1), .int (cs_bf σ k 2), .int (cs_bf σ k 3), .int (cs_bf σ j 4)])).put (i := 40 + k) ((rp_up_n _ _ (by omega)).trans ((rp_up_n _ _ (by omega)).trans ((rp_up_n _ _ (by omega)).trans (hc.2.2.2.1 k hk)))) (px_o 2 [.int (cs_bf σ k 0), .int (cs_bf σ j 1), .int (cs_bf σ k 2), .int (cs_bf σ k 3), .int (cs_bf σ k 4)])).put (i := 40 + k) (rp_up_s _ _ _) (px_o 2 [.int (cs_bf σ k 0), .int (cs_bf σ j 1), .int (cs_bf σ j 2), .int (cs_bf σ k 3), .int (cs_bf σ k 4)])).put (i := 40 + k) (rp_up_s _ _ _) (px_o 2 [.int (cs_bf σ k 0), .int (cs_bf σ j 1), .int (cs_bf σ j 2), .int (cs_bf σ j 3), .int (cs_bf σ k 4)]))
  have hc1 : Cl ad (cs_sw σ j k) (rp_up (rp_up (rp_up (rp_up (rp_up (rp_up (K) (40 + j) (px_o 2 [.int (cs_bf σ j 0), .int (cs_bf σ k 1), .int (cs_bf σ j 2), .int (cs_bf σ j 3), .int (cs_bf σ j 4)])) (40 + j) (px_o 2 [.int (cs_bf σ j 0), .int (cs_bf σ k 1), .int (cs_bf σ k 2), .int (cs_bf σ j 3), .int (cs_bf σ j 4)])) (40 + j) (px_o 2 [.int (cs_bf σ j 0), .int (cs_bf σ k 1), .int (cs_bf σ k 2), .int (cs_bf σ k 3), .int (cs_bf σ j 4)])) (40 + k) (px_o 2 [.int (cs_bf σ k 0), .int (cs_bf σ j 1), .int (cs_bf σ k 2), .int (cs_bf σ k 3), .int (cs_bf σ k 4)])) (40 + k) (px_o 2 [.int (cs_bf σ k 0), .int (cs_bf σ j 1), .int (cs_bf σ j 2), .int (cs_bf σ k 3), .int (cs_bf σ k 4)])) (40 + k) (px_o 2 [.int (cs_bf σ k 0), .int (cs_bf σ j 1), .int (cs_bf σ j 2), .int (cs_bf σ j 3), .int (cs_bf σ k 4)])) := by
    rw [rp_up_up, rp_up_up, rp_up_up, rp_up_up]
    exact (hc.sB hj _).sB hk _
  have hK1 : ∀ i, 100 ≤ i → (rp_up (rp_up (rp_up (rp_up (rp_up (rp_up (K) (40 + j) (px_o 2 [.int (cs_bf σ j 0), .int (cs_bf σ k 1), .int (cs_bf σ j 2), .int (cs_bf σ j 3), .int (cs_bf σ j 4)])) (40 + j) (px_o 2 [.int (cs_bf σ j 0), .int (cs_bf σ k 1), .int (cs_bf σ k 2), .int (cs_bf σ j 3), .int (cs_bf σ j 4)])) (40 + j) (px_o 2 [.int (cs_bf σ j 0), .int (cs_bf σ k 1), .int (cs_bf σ k 2), .int (cs_bf σ k 3), .int (cs_bf σ j 4)])) (40 + k) (px_o 2 [.int (cs_bf σ k 0), .int (cs_bf σ j 1), .int (cs_bf σ k 2), .int (cs_bf σ k 3), .int (cs_bf σ k 4)])) (40 + k) (px_o 2 [.int (cs_bf σ k 0), .int (cs_bf σ j 1), .int (cs_bf σ j 2), .int (cs_bf σ k 3), .int (cs_bf σ k 4)])) (40 + k) (px_o 2 [.int (cs_bf σ k 0), .int (cs_bf σ j 1), .int (cs_bf σ j 2), .int (cs_bf σ j 3), .int (cs_bf σ k 4)])) i = (K) i := fun i hi => by rw [rp_up_n _ _ (by omega), rp_up_n _ _ (by omega), rp_up_n _ _ (by omega), rp_up_n _ _ (by omega), rp_up_n _ _ (by omega), rp_up_n _ _ (by omega)]
  exact ⟨rfl, _, hR1, hc1, hK1⟩
/-- boxes stand in bays -/
def cs_inb (σ : ck_S) : Prop := ∀ j, j < cs_n σ → ∃ b, b < cs_nb σ ∧ cs_bf σ j 1 = nI b
def of_swap (σ : ck_S) (x y : Int32) : cs_R := match cs_xq σ x, cs_xq σ y with
  | some j, some k => if x = y ∨ ¬ cs_bf σ j 0 = cs_bf σ k 0 ∨ 3 ≤ cs_bf σ j 2 ∨ 3 ≤ cs_bf σ k 2 ∨ cs_nds σ j ∨ cs_nds σ k then (0, 0, σ) else (0, 1, cs_sw (cs_fp (cs_fp σ (cs_bf σ j 1).toNatClampNeg) (cs_bf σ k 1).toNatClampNeg) j k)
  | _, _ => (1, 0, σ)
theorem cc_swap (hR : Rp ad K C) (hc : Cl ad σ K) (hB : cs_inb σ) (x y : Int32) : px_W ps_Y ps_P B sc (d + 3) 50 [.ref (ad 0), .int x, .int y] C 1 6 (px_oC ad K (of_swap σ x y)) (px_oT ad K (of_swap σ x y)) := by
  have h0 := hR.1 0 _ hc.1.1
  have hn := hc.2.2.2.2.2.2.2.2.2
  have hnb := hc.2.2.2.2.2.2.1
  refine ⟨pm_Mo_swap, rfl, Nat.le_of_ble_eq_true rfl, fun X hw hX => ?_⟩
  iterate 3 refine px_go hX ?_
  refine ⟨_, h0, 0, 0, _, Nat.le_of_ble_eq_true rfl, Nat.le_of_ble_eq_true rfl, Nat.le_of_ble_eq_true rfl, cc_boxAt hR hc _, ?_⟩
  rintro _ C ⟨rfl, ⟨j, hj, hx, rfl⟩ | ⟨hx, rfl⟩⟩
  · iterate 4 refine px_go hX ?_
    refine ⟨_, h0, 0, 0, _, Nat.le_of_ble_eq_true rfl, Nat.le_of_ble_eq_true rfl, Nat.le_of_ble_eq_true rfl, cc_boxAt hR hc _, ?_⟩
    rintro _ C ⟨rfl, ⟨k, hk, hy, rfl⟩ | ⟨hy, rfl⟩⟩
    · iterate 8 refine px_go hX ?_
      refine ⟨fun (c1 : x = y) => ?_, fun (c1 : ¬ x = y) => ?_⟩
      · iterate 2 refine px_go hX ?_
        have hr : of_swap σ x y = (0, 0, σ) := by
          have h3 : cs_xq σ x = some j := by rw [hx]; exact cs_xq_s hc hj
          have h4 : cs_xq σ y = some k := by rw [hy]; exact cs_xq_s hc hk
          unfold of_swap
          rw [h3, h4]
          exact if_pos (Or.inl c1)
        rw [hr]
        exact ⟨rfl, rfl, Ca.of hR hc⟩
      · iterate 2 refine px_go hX ?_
        refine ⟨_, _, (hR.1 _ _ (hc.2.2.2.1 j hj)), rfl, ?_⟩
        iterate 2 refine px_go hX ?_
        refine ⟨_, _, (hR.1 _ _ (hc.2.2.2.1 k hk)), rfl, ?_⟩
        refine px_go hX ?_
        refine ⟨fun (c2 : ¬ cs_bf σ j 0 = cs_bf σ k 0) => ?_, fun (c2 : cs_bf σ j 0 = cs_bf σ k 0) => ?_⟩
        · iterate 2 refine px_go hX ?_
          have hr : of_swap σ x y = (0, 0, σ) := by
            have h3 : cs_xq σ x = some j := by rw [hx]; exact cs_xq_s hc hj
            have h4 : cs_xq σ y = some k := by rw [hy]; exact cs_xq_s hc hk
            unfold of_swap
            rw [h3, h4]
            exact if_pos (Or.inr (Or.inl c2))
          rw [hr]
          exact ⟨rfl, rfl, Ca.of hR hc⟩
        · iterate 2 refine px_go hX ?_
          refine ⟨_, (hR.1 _ _ (hc.2.2.2.1 j hj)), 0, 0, _, Nat.le_of_ble_eq_true rfl, Nat.le_of_ble_eq_true rfl, Nat.le_of_ble_eq_true rfl, cc_liesInStack hR hc hj, ?_⟩
          rintro _ C ⟨rfl, ⟨b3, rfl⟩ | ⟨b3, rfl⟩⟩
          · refine px_go hX ?_
            refine ⟨fun (c4 : 1 = 0) => absurd c4 (by decide), fun (c4 : ¬ 1 = 0) => ?_⟩
            iterate 2 refine px_go hX ?_
            refine ⟨_, (hR.1 _ _ (hc.2.2.2.1 k hk)), 0, 0, _, Nat.le_of_ble_eq_true rfl, Nat.le_of_ble_eq_true rfl, Nat.le_of_ble_eq_true rfl, cc_liesInStack hR hc hk, ?_⟩
            rintro _ C ⟨rfl, ⟨b5, rfl⟩ | ⟨b5, rfl⟩⟩
            · refine px_go hX ?_
              refine ⟨fun (c6 : ¬ 1 = 0) => ?_, fun (c6 : 1 = 0) => absurd c6 (by decide)⟩
              iterate 4 refine px_go hX ?_
              refine ⟨_, h0, 0, 0, _, Nat.le_of_ble_eq_true rfl, Nat.le_of_ble_eq_true rfl, Nat.le_of_ble_eq_true rfl, (by rw [hx]; exact cc_hasNeeds hR hc hj), ?_⟩
              rintro _ C ⟨rfl, ⟨b7, rfl⟩ | ⟨b7, rfl⟩⟩
              · refine px_go hX ?_
                refine ⟨fun (c8 : ¬ 1 = 0) => ?_, fun (c8 : 1 = 0) => absurd c8 (by decide)⟩
                iterate 2 refine px_go hX ?_
                have hr : of_swap σ x y = (0, 0, σ) := by
                  have h3 : cs_xq σ x = some j := by rw [hx]; exact cs_xq_s hc hj
                  have h4 : cs_xq σ y = some k := by rw [hy]; exact cs_xq_s hc hk
                  unfold of_swap
                  rw [h3, h4]
                  exact if_pos (Or.inr (Or.inr (Or.inr (Or.inr (Or.inl b7)))))
                rw [hr]
                exact ⟨rfl, rfl, Ca.of hR hc⟩
              · refine px_go hX ?_
                refine ⟨fun (c9 : ¬ 0 = 0) => absurd rfl c9, fun (c9 : 0 = 0) => ?_⟩
                iterate 4 refine px_go hX ?_
                refine ⟨_, h0, 0, 0, _, Nat.le_of_ble_eq_true rfl, Nat.le_of_ble_eq_true rfl, Nat.le_of_ble_eq_true rfl, (by rw [hy]; exact cc_hasNeeds hR hc hk), ?_⟩
                rintro _ C ⟨rfl, ⟨b10, rfl⟩ | ⟨b10, rfl⟩⟩
                · refine px_go hX ?_
                  refine ⟨fun (c11 : 1 = 0) => absurd c11 (by decide), fun (c11 : ¬ 1 = 0) => ?_⟩
                  iterate 2 refine px_go hX ?_
                  have hr : of_swap σ x y = (0, 0, σ) := by
                    have h3 : cs_xq σ x = some j := by rw [hx]; exact cs_xq_s hc hj
                    have h4 : cs_xq σ y = some k := by rw [hy]; exact cs_xq_s hc hk
                    unfold of_swap
                    rw [h3, h4]
                    exact if_pos (Or.inr (Or.inr (Or.inr (Or.inr (Or.inr b10)))))
                  rw [hr]
                  exact ⟨rfl, rfl, Ca.of hR hc⟩
                · refine px_go hX ?_
                  refine ⟨fun (c12 : 0 = 0) => ?_, fun (c12 : ¬ 0 = 0) => absurd rfl c12⟩
                  obtain ⟨bj, hbj1, hbj⟩ := hB j hj
                  obtain ⟨bk, hbk1, hbk⟩ := hB k hk
                  iterate 3 refine px_go hX ?_
                  refine ⟨_, _, (hR.1 _ _ (hc.2.2.2.1 j hj)), rfl, ?_⟩
                  refine px_go hX ?_
                  refine ⟨_, h0, 0, 0, _, Nat.le_of_ble_eq_true rfl, Nat.le_of_ble_eq_true rfl, Nat.le_of_ble_eq_true rfl, (by rw [show cs_bf σ j 1 = nI bj from hbj]; exact cc_forgetPlanOf hR hc hbj1), ?_⟩
                  rintro _ C ⟨rfl, K1, hR1, hc1, hK1⟩
                  iterate 3 refine px_go hX ?_
                  refine ⟨_, _, (hR1.1 _ _ (hc1.2.2.2.1 k hk)), rfl, ?_⟩
                  refine px_go hX ?_
                  refine ⟨_, (hR1.1 0 _ hc1.1.1), 0, 0, _, Nat.le_of_ble_eq_true rfl, Nat.le_of_ble_eq_true rfl, Nat.le_of_ble_eq_true rfl, (by rw [show cs_bf (cs_fp σ bj) k 1 = nI bk from hbk]; exact cc_forgetPlanOf hR1 hc1 hbk1), ?_⟩
                  rintro _ C ⟨rfl, K2, hR2, hc2, hK2⟩
                  iterate 3 refine px_go hX ?_
                  refine ⟨_, (hR2.1 _ _ (hc2.2.2.2.1 j hj)), 0, 0, _, Nat.le_of_ble_eq_true rfl, Nat.le_of_ble_eq_true rfl, Nat.le_of_ble_eq_true rfl, cc_changePlaces hR2 hc2 hj hk (fun w => c1 (by rw [hx, hy, w])), ?_⟩
                  rintro _ C ⟨rfl, K3, hR3, hc3, hK3⟩
                  iterate 2 refine px_go hX ?_
                  have hr : of_swap σ x y = (0, 1, cs_sw (cs_fp (cs_fp σ bj) bk) j k) := by
                    have h3 : cs_xq σ x = some j := by rw [hx]; exact cs_xq_s hc hj
                    have h4 : cs_xq σ y = some k := by rw [hy]; exact cs_xq_s hc hk
                    unfold of_swap
                    rw [h3, h4]
                    refine (if_neg ?_).trans ?_
                    · rintro (q | q | q | q | q | q)
                      · exact c1 q
                      · exact q c2
                      · exact b3 q
                      · exact b5 q
                      · exact b7 q
                      · exact b10 q
                    · rw [hbj, hbk, nI_clamp (by omega), nI_clamp (by omega)]
                  rw [hr]
                  exact ⟨rfl, rfl, Ck.ca ⟨K3, hR3, hc3, fun i hi => by rw [hK3 i hi, hK2 i hi, hK1 i hi]⟩⟩
            · refine px_go hX ?_
              refine ⟨fun (c13 : ¬ 0 = 0) => absurd rfl c13, fun (c13 : 0 = 0) => ?_⟩
              iterate 2 refine px_go hX ?_
              have hr : of_swap σ x y = (0, 0, σ) := by
                have h3 : cs_xq σ x = some j := by rw [hx]; exact cs_xq_s hc hj
                have h4 : cs_xq σ y = some k := by rw [hy]; exact cs_xq_s hc hk
                unfold of_swap
                rw [h3, h4]
                exact if_pos (Or.inr (Or.inr (Or.inr (Or.inl (Classical.not_not.mp b5)))))
              rw [hr]
              exact ⟨rfl, rfl, Ca.of hR hc⟩
          · refine px_go hX ?_
            refine ⟨fun (c14 : 0 = 0) => ?_, fun (c14 : ¬ 0 = 0) => absurd rfl c14⟩
            iterate 2 refine px_go hX ?_
            have hr : of_swap σ x y = (0, 0, σ) := by
              have h3 : cs_xq σ x = some j := by rw [hx]; exact cs_xq_s hc hj
              have h4 : cs_xq σ y = some k := by rw [hy]; exact cs_xq_s hc hk
              unfold of_swap
              rw [h3, h4]
              exact if_pos (Or.inr (Or.inr (Or.inl (Classical.not_not.mp b3))))
            rw [hr]
            exact ⟨rfl, rfl, Ca.of hR hc⟩
    · iterate 6 refine px_go hX ?_
      have hr : of_swap σ x y = (1, 0, σ) := by
        unfold of_swap
        rw [hx, cs_xq_s hc hj, cs_xq_n hy]
      refine ⟨Nat.le_refl 1, Nat.le_refl 6, rfl, ?_⟩
      rw [hr]
      exact ⟨Or.inl ⟨rfl, rfl⟩, Ca.of hR hc⟩
  · iterate 4 refine px_go hX ?_
    refine ⟨_, h0, 0, 0, _, Nat.le_of_ble_eq_true rfl, Nat.le_of_ble_eq_true rfl, Nat.le_of_ble_eq_true rfl, cc_boxAt hR hc _, ?_⟩
    rintro _ C ⟨rfl, ⟨k, hk, hy, rfl⟩ | ⟨hy, rfl⟩⟩
    · iterate 4 refine px_go hX ?_
      have hr : of_swap σ x y = (1, 0, σ) := by
        unfold of_swap
        rw [cs_xq_n hx]
      refine ⟨Nat.le_refl 1, Nat.le_refl 6, rfl, ?_⟩
      rw [hr]
      exact ⟨Or.inl ⟨rfl, rfl⟩, Ca.of hR hc⟩
    · iterate 4 refine px_go hX ?_
      have hr : of_swap σ x y = (1, 0, σ) := by
        unfold of_swap
        rw [cs_xq_n hx]
      refine ⟨Nat.le_refl 1, Nat.le_refl 6, rfl, ?_⟩
      rw [hr]
      exact ⟨Or.inl ⟨rfl, rfl⟩, Ca.of hR hc⟩
end RH
end
section
/-! The class's calls that change its state: work, before. -/
section RI
variable {B : Nat} {sc : Option (Nat × Nat × (Nat → Int32))} {d : Nat} {ad : Nat → Nat} {σ : ck_S} {K : rp_K} {C : px_P}
theorem px_inm {y : Int32} (h1 : ¬ y < 0) (h2 : ¬ 12 ≤ y) : vp_in y 12 := by
  rcases px_ixx y 12 (by omega) with ⟨i, hi, rfl⟩ | h | h
  · exact vp_in_nI hi (by omega)
  · exact absurd h h1
  · exact absurd h h2
def cs_hgt (σ : ck_S) (x y : Int32) : Int32 := nI (pn_ct (fun j => decide (cs_bf σ j 1 = x) && decide (cs_bf σ j 2 = y)) (cs_n σ))
def cs_wt (σ : ck_S) (x to : Int32) : Int32 := if 3 ≤ to then -1 else cs_hgt σ x to
def cs_w1 (σ : ck_S) (b j : Nat) (t to : Int32) : ck_S := cs_sM (cs_sY (cs_sB σ j (fun q => match q with | 0 => cs_bf σ j 0 | 1 => cs_bf σ j 1 | 2 => to | 3 => t | _ => cs_bf σ j 4)) b (fun q => match q with | 0 => cs_yf σ b 0 | 1 => cs_yf σ b 1 | 2 => cs_yf σ b 2 + 1 | _ => cs_yf σ b 3)) (cs_mw σ + 1) (cs_lg σ)
def cs_w2 (σ : ck_S) (b j : Nat) (t to : Int32) : ck_S := cs_sM (cs_sY (cs_w1 σ b j t to) b (fun q => match q with | 0 => cs_yf σ b 0 | 1 => cs_yf σ b 1 | 2 => cs_yf σ b 2 + 1 | _ => cs_yf σ b 3 - 1)) (cs_mw σ + 1) (cs_lg σ + 1)
def cs_hm (σ : ck_S) (b : Nat) (y : Int32) : Prop := ¬ cs_yf σ b 0 = 0 ∧ ¬ y < 0 ∧ ¬ cs_yf σ b 1 ≤ y ∧ ¬ 12 ≤ y
def of_wk (σ : ck_S) (x : Int32) (b j : Nat) (to : Int32) : cs_R := if to = 3 ∧ 0 < cs_yf σ b 3 then (0, cs_lft (cs_w2 σ b j (cs_wt σ x to) to) b, cs_w2 σ b j (cs_wt σ x to) to) else (0, cs_lft (cs_w1 σ b j (cs_wt σ x to) to) b, cs_w1 σ b j (cs_wt σ x to) to)
def of_work (σ : ck_S) (x : Int32) : cs_R := match cs_bq σ x with
  | none => (1, 0, σ)
  | some b => if cs_yf σ b 0 = 0 ∨ cs_yf σ b 2 < 0 ∨ cs_yf σ b 1 ≤ cs_yf σ b 2 ∨ 12 ≤ cs_yf σ b 2 then (2, 0, σ) else match cs_xq σ (cs_ya σ b 0 (cs_yf σ b 2).toNatClampNeg) with
    | none => (2, 0, σ)
    | some j => of_wk σ x b j (cs_ya σ b 2 (cs_yf σ b 2).toNatClampNeg)
theorem of_work_3 (hc : Cl ad σ K) {b j : Nat} {x : Int32} (hx : x = nI b) (hb : b < cs_nb σ) (h : ¬ cs_yf σ b 0 = 0 ∧ ¬ cs_yf σ b 2 < 0 ∧ ¬ cs_yf σ b 1 ≤ cs_yf σ b 2 ∧ ¬ 12 ≤ cs_yf σ b 2) (hj : j < cs_n σ) (hy : cs_ya σ b 0 (cs_yf σ b 2).toNatClampNeg = nI j) : of_work σ x = of_wk σ x b j (cs_ya σ b 2 (cs_yf σ b 2).toNatClampNeg) := by
  have h1 : cs_bq σ x = some b := by rw [hx]; exact cs_bq_s hc hb
  have h2 : cs_xq σ (cs_ya σ b 0 (cs_yf σ b 2).toNatClampNeg) = some j := by rw [hy]; exact cs_xq_s hc hj
  unfold of_work
  rw [h1]
  show (if _ then _ else _) = _
  rw [if_neg (fun q => by rcases q with q | q | q | q; exact h.1 q; exact h.2.1 q; exact h.2.2.1 q; exact h.2.2.2 q), h2]
theorem of_work_2 (hc : Cl ad σ K) {b : Nat} {x : Int32} (hx : x = nI b) (hb : b < cs_nb σ) (h : ¬ (¬ cs_yf σ b 0 = 0 ∧ ¬ cs_yf σ b 2 < 0 ∧ ¬ cs_yf σ b 1 ≤ cs_yf σ b 2 ∧ ¬ 12 ≤ cs_yf σ b 2) ∨ (cs_ya σ b 0 (cs_yf σ b 2).toNatClampNeg < 0 ∨ nI (cs_n σ) ≤ cs_ya σ b 0 (cs_yf σ b 2).toNatClampNeg)) : of_work σ x = (2, 0, σ) := by
  have h1 : cs_bq σ x = some b := by rw [hx]; exact cs_bq_s hc hb
  unfold of_work
  rw [h1]
  show (if _ then _ else _) = _
  by_cases h2 : cs_yf σ b 0 = 0 ∨ cs_yf σ b 2 < 0 ∨ cs_yf σ b 1 ≤ cs_yf σ b 2 ∨ 12 ≤ cs_yf σ b 2
  · rw [if_pos h2]
  · rw [if_neg h2]
    rcases h with h | h
    · exact absurd ⟨fun q => h2 (Or.inl q), fun q => h2 (Or.inr (Or.inl q)), fun q => h2 (Or.inr (Or.inr (Or.inl q))), fun q => h2 (Or.inr (Or.inr (Or.inr q)))⟩ h
    · rw [cs_xq_n h]
theorem cc_work (hR : Rp ad K C) (hc : Cl ad σ K) (x : Int32) : px_W ps_Y ps_P B sc (d + 3) 51 [.ref (ad 0), .int x] C 1 6 (px_oC ad K (of_work σ x)) (px_oT ad K (of_work σ x)) := by
  have h0 := hR.1 0 _ hc.1.1
  have hn := hc.2.2.2.2.2.2.2.2.2
  have hnb := hc.2.2.2.2.2.2.1
  refine ⟨pm_Mo_work, rfl, Nat.le_of_ble_eq_true rfl, fun X hw hX => ?_⟩
  iterate 3 refine px_go hX ?_
  refine ⟨_, h0, 0, 0, _, Nat.le_of_ble_eq_true rfl, Nat.le_of_ble_eq_true rfl, Nat.le_of_ble_eq_true rfl, cc_bayAt hR hc _, ?_⟩
  rintro _ C ⟨rfl, ⟨b, hb, hx, rfl⟩ | ⟨hx, rfl⟩⟩
  · iterate 5 refine px_go hX ?_
    refine ⟨_, _, (hR.1 _ _ (hc.2.2.1 b hb).1), rfl, ?_⟩
    iterate 4 refine px_go hX ?_
    refine ⟨_, (hR.1 _ _ (hc.2.2.1 b hb).1), 0, 0, _, Nat.le_of_ble_eq_true rfl, Nat.le_of_ble_eq_true rfl, Nat.le_of_ble_eq_true rfl, cc_hasMove hR hc hb _, ?_⟩
    rintro _ C ⟨rfl, ⟨b1, rfl⟩ | ⟨b1, rfl⟩⟩
    · refine px_go hX ?_
      refine ⟨fun (c2 : 1 = 0) => absurd c2 (by decide), fun (c2 : ¬ 1 = 0) => ?_⟩
      iterate 3 refine px_go hX ?_
      refine ⟨_, _, (hR.1 _ _ (hc.2.2.1 b hb).1), rfl, ?_⟩
      iterate 2 refine px_go hX ?_
      refine ⟨_, _, (hR.1 _ _ (hc.2.2.1 b hb).2.1), (px_inm (y := cs_yf σ b 2) b1.2.1 b1.2.2.2), ?_⟩
      refine px_go hX ?_
      refine ⟨_, h0, 0, 0, _, Nat.le_of_ble_eq_true rfl, Nat.le_of_ble_eq_true rfl, Nat.le_of_ble_eq_true rfl, cc_boxAt hR hc _, ?_⟩
      rintro _ C ⟨rfl, ⟨j, hj, hy, rfl⟩ | ⟨hy, rfl⟩⟩
      · iterate 6 refine px_go hX ?_
        refine ⟨_, _, (hR.1 _ _ (hc.2.2.1 b hb).1), rfl, ?_⟩
        iterate 2 refine px_go hX ?_
        refine ⟨_, _, (hR.1 _ _ (hc.2.2.1 b hb).2.2.2), (px_inm (y := cs_yf σ b 2) b1.2.1 b1.2.2.2), ?_⟩
        iterate 5 refine px_go hX ?_
        refine ⟨fun (c3 : (3 : Int32) ≤ cs_ya σ b 2 (cs_yf σ b 2).toNatClampNeg) => ?_, fun (c3 : ¬ (3 : Int32) ≤ cs_ya σ b 2 (cs_yf σ b 2).toNatClampNeg) => ?_⟩
        · iterate 2 refine px_go hX ?_
          refine ⟨_, (hR.1 _ _ (hc.2.2.2.1 j hj)), Nat.le_of_ble_eq_true rfl, rfl, rfl, ?_⟩
          iterate 3 refine px_go hX ?_
          refine ⟨_, (px_up_s _ _ _), Nat.le_of_ble_eq_true rfl, rfl, rfl, ?_⟩
          iterate 3 refine px_go hX ?_
          refine ⟨_, _, ((px_up_n _ _ (hR.ne (hc.2.2.1 b hb).1 (hc.2.2.2.1 j hj) (by omega))).trans ((px_up_n _ _ (hR.ne (hc.2.2.1 b hb).1 (hc.2.2.2.1 j hj) (by omega))).trans (hR.1 _ _ (hc.2.2.1 b hb).1))), rfl, ?_⟩
          iterate 3 refine px_go hX ?_
          refine ⟨_, ((px_up_n _ _ (hR.ne (hc.2.2.1 b hb).1 (hc.2.2.2.1 j hj) (by omega))).trans ((px_up_n _ _ (hR.ne (hc.2.2.1 b hb).1 (hc.2.2.2.1 j hj) (by omega))).trans (hR.1 _ _ (hc.2.2.1 b hb).1))), Nat.le_of_ble_eq_true rfl, rfl, rfl, ?_⟩
          iterate 3 refine px_go hX ?_
          refine ⟨_, _, ((px_up_n _ _ (hR.ne hc.1.1 (hc.2.2.1 b hb).1 (by omega))).trans ((px_up_n _ _ (hR.ne hc.1.1 (hc.2.2.2.1 j hj) (by omega))).trans ((px_up_n _ _ (hR.ne hc.1.1 (hc.2.2.2.1 j hj) (by omega))).trans h0))), rfl, ?_⟩
          iterate 3 refine px_go hX ?_
          refine ⟨_, ((px_up_n _ _ (hR.ne hc.1.1 (hc.2.2.1 b hb).1 (by omega))).trans ((px_up_n _ _ (hR.ne hc.1.1 (hc.2.2.2.1 j hj) (by omega))).trans ((px_up_n _ _ (hR.ne hc.1.1 (hc.2.2.2.1 j hj) (by omega))).trans h0))), Nat.le_of_ble_eq_true rfl, rfl, rfl, ?_⟩
          have hR1 := ((((hR.put (i := 40 + j) (hc.2.2.2.1 j hj) (px_o 2 [.int (cs_bf σ j 0), .int (cs_bf σ j 1), .int (cs_bf σ j 2), .int ((-1 : Int32)), .int (cs_bf σ j 4)])).put (i := 40 + j) (rp_up_s _ _ _) (px_o 2 [.int (cs_bf σ j 0), .int (cs_bf σ j 1), .int (cs_ya σ b 2 (cs_yf σ b 2).toNatClampNeg), .int ((-1 : Int32)), .int (cs_bf σ j 4)])).put (i := 20 + 4 * b) ((rp_up_n _ _ (by omega)).trans ((rp_up_n _ _ (by omega)).trans (hc.2.2.1 b hb).1)) (px_o 1 [.ref (ad (21 + 4 * b)), .ref (ad (22 + 4 * b)), .ref (ad (23 + 4 * b)), .int (cs_yf σ b 0), .int (cs_yf σ b 1), .int ((cs_yf σ b 2) + ((1 : Int32))), .int (cs_yf σ b 3)])).put (i := 0) ((rp_up_n _ _ (by omega)).trans ((rp_up_n _ _ (by omega)).trans ((rp_up_n _ _ (by omega)).trans hc.1.1))) (px_o 0 [.int (nI (cs_ti σ)), .ref (ad 1), .ref (ad 2), .ref (ad 3), .int (nI (cs_n σ)), .int ((cs_mw σ) + ((1 : Int32))), .int (cs_lg σ)]))
          have hc1 : Cl ad (cs_w1 σ b j (-1) (cs_ya σ b 2 (cs_yf σ b 2).toNatClampNeg)) (rp_up (rp_up (rp_up (rp_up (K) (40 + j) (px_o 2 [.int (cs_bf σ j 0), .int (cs_bf σ j 1), .int (cs_bf σ j 2), .int ((-1 : Int32)), .int (cs_bf σ j 4)])) (40 + j) (px_o 2 [.int (cs_bf σ j 0), .int (cs_bf σ j 1), .int (cs_ya σ b 2 (cs_yf σ b 2).toNatClampNeg), .int ((-1 : Int32)), .int (cs_bf σ j 4)])) (20 + 4 * b) (px_o 1 [.ref (ad (21 + 4 * b)), .ref (ad (22 + 4 * b)), .ref (ad (23 + 4 * b)), .int (cs_yf σ b 0), .int (cs_yf σ b 1), .int ((cs_yf σ b 2) + ((1 : Int32))), .int (cs_yf σ b 3)])) (0) (px_o 0 [.int (nI (cs_ti σ)), .ref (ad 1), .ref (ad 2), .ref (ad 3), .int (nI (cs_n σ)), .int ((cs_mw σ) + ((1 : Int32))), .int (cs_lg σ)])) := by
            rw [rp_up_up]
            exact ((hc.sB hj _).sY (b := b) hb _).sM _ _
          have hK1 : ∀ i, 100 ≤ i → (rp_up (rp_up (rp_up (rp_up (K) (40 + j) (px_o 2 [.int (cs_bf σ j 0), .int (cs_bf σ j 1), .int (cs_bf σ j 2), .int ((-1 : Int32)), .int (cs_bf σ j 4)])) (40 + j) (px_o 2 [.int (cs_bf σ j 0), .int (cs_bf σ j 1), .int (cs_ya σ b 2 (cs_yf σ b 2).toNatClampNeg), .int ((-1 : Int32)), .int (cs_bf σ j 4)])) (20 + 4 * b) (px_o 1 [.ref (ad (21 + 4 * b)), .ref (ad (22 + 4 * b)), .ref (ad (23 + 4 * b)), .int (cs_yf σ b 0), .int (cs_yf σ b 1), .int ((cs_yf σ b 2) + ((1 : Int32))), .int (cs_yf σ b 3)])) (0) (px_o 0 [.int (nI (cs_ti σ)), .ref (ad 1), .ref (ad 2), .ref (ad 3), .int (nI (cs_n σ)), .int ((cs_mw σ) + ((1 : Int32))), .int (cs_lg σ)])) i = (K) i := fun i hi => by rw [rp_up_n _ _ (by omega), rp_up_n _ _ (by omega), rp_up_n _ _ (by omega), rp_up_n _ _ (by omega)]
          iterate 3 refine px_go hX ?_
          refine ⟨fun (c4 : ¬ cs_ya σ b 2 (cs_yf σ b 2).toNatClampNeg = (3 : Int32)) => ?_, fun (c4 : cs_ya σ b 2 (cs_yf σ b 2).toNatClampNeg = (3 : Int32)) => ?_⟩
          · iterate 2 refine px_go hX ?_
            refine ⟨_, ((px_up_n _ _ (hR.ne (hc.2.2.1 b hb).1 hc.1.1 (by omega))).trans (px_up_s _ _ _)), 0, 0, _, Nat.le_of_ble_eq_true rfl, Nat.le_of_ble_eq_true rfl, Nat.le_of_ble_eq_true rfl, cc_movesLeft hR1 hc1 hb, ?_⟩
            rintro _ C ⟨rfl, ⟨b2, rfl⟩ | ⟨b2, rfl⟩⟩
            · refine px_go hX ?_
              have ht : cs_wt σ x (cs_ya σ b 2 (cs_yf σ b 2).toNatClampNeg) = -1 := if_pos c3
              rw [of_work_3 hc hx hb b1 hj hy, show of_wk σ x b j (cs_ya σ b 2 (cs_yf σ b 2).toNatClampNeg) = (0, cs_lft (cs_w1 σ b j (-1) (cs_ya σ b 2 (cs_yf σ b 2).toNatClampNeg)) b, cs_w1 σ b j (-1) (cs_ya σ b 2 (cs_yf σ b 2).toNatClampNeg)) from by rw [← ht]; exact if_neg (fun q => c4 q.1)]
              exact ⟨rfl, congrArg (fun z => some (Value.int z)) (if_pos b2).symm, Ck.ca ⟨_, hR1, hc1, fun i hi => hK1 i hi⟩⟩
            · refine px_go hX ?_
              have ht : cs_wt σ x (cs_ya σ b 2 (cs_yf σ b 2).toNatClampNeg) = -1 := if_pos c3
              rw [of_work_3 hc hx hb b1 hj hy, show of_wk σ x b j (cs_ya σ b 2 (cs_yf σ b 2).toNatClampNeg) = (0, cs_lft (cs_w1 σ b j (-1) (cs_ya σ b 2 (cs_yf σ b 2).toNatClampNeg)) b, cs_w1 σ b j (-1) (cs_ya σ b 2 (cs_yf σ b 2).toNatClampNeg)) from by rw [← ht]; exact if_neg (fun q => c4 q.1)]
              exact ⟨rfl, congrArg (fun z => some (Value.int z)) (if_neg b2).symm, Ck.ca ⟨_, hR1, hc1, fun i hi => hK1 i hi⟩⟩
          · iterate 2 refine px_go hX ?_
            refine ⟨_, _, ((px_up_n _ _ (hR.ne (hc.2.2.1 b hb).1 hc.1.1 (by omega))).trans (px_up_s _ _ _)), rfl, ?_⟩
            refine px_go hX ?_
            refine ⟨fun (c5 : cs_yf σ b 3 ≤ 0) => ?_, fun (c5 : ¬ cs_yf σ b 3 ≤ 0) => ?_⟩
            · iterate 2 refine px_go hX ?_
              refine ⟨_, ((px_up_n _ _ (hR.ne (hc.2.2.1 b hb).1 hc.1.1 (by omega))).trans (px_up_s _ _ _)), 0, 0, _, Nat.le_of_ble_eq_true rfl, Nat.le_of_ble_eq_true rfl, Nat.le_of_ble_eq_true rfl, cc_movesLeft hR1 hc1 hb, ?_⟩
              rintro _ C ⟨rfl, ⟨b2, rfl⟩ | ⟨b2, rfl⟩⟩
              · refine px_go hX ?_
                have ht : cs_wt σ x (cs_ya σ b 2 (cs_yf σ b 2).toNatClampNeg) = -1 := if_pos c3
                rw [of_work_3 hc hx hb b1 hj hy, show of_wk σ x b j (cs_ya σ b 2 (cs_yf σ b 2).toNatClampNeg) = (0, cs_lft (cs_w1 σ b j (-1) (cs_ya σ b 2 (cs_yf σ b 2).toNatClampNeg)) b, cs_w1 σ b j (-1) (cs_ya σ b 2 (cs_yf σ b 2).toNatClampNeg)) from by rw [← ht]; exact if_neg (fun q => absurd q.2 (Int32.not_lt.mpr c5))]
                exact ⟨rfl, congrArg (fun z => some (Value.int z)) (if_pos b2).symm, Ck.ca ⟨_, hR1, hc1, fun i hi => hK1 i hi⟩⟩
              · refine px_go hX ?_
                have ht : cs_wt σ x (cs_ya σ b 2 (cs_yf σ b 2).toNatClampNeg) = -1 := if_pos c3
                rw [of_work_3 hc hx hb b1 hj hy, show of_wk σ x b j (cs_ya σ b 2 (cs_yf σ b 2).toNatClampNeg) = (0, cs_lft (cs_w1 σ b j (-1) (cs_ya σ b 2 (cs_yf σ b 2).toNatClampNeg)) b, cs_w1 σ b j (-1) (cs_ya σ b 2 (cs_yf σ b 2).toNatClampNeg)) from by rw [← ht]; exact if_neg (fun q => absurd q.2 (Int32.not_lt.mpr c5))]
                exact ⟨rfl, congrArg (fun z => some (Value.int z)) (if_neg b2).symm, Ck.ca ⟨_, hR1, hc1, fun i hi => hK1 i hi⟩⟩
            · iterate 3 refine px_go hX ?_
              refine ⟨_, _, ((px_up_n _ _ (hR.ne (hc.2.2.1 b hb).1 hc.1.1 (by omega))).trans (px_up_s _ _ _)), rfl, ?_⟩
              iterate 3 refine px_go hX ?_
              refine ⟨_, ((px_up_n _ _ (hR.ne (hc.2.2.1 b hb).1 hc.1.1 (by omega))).trans (px_up_s _ _ _)), Nat.le_of_ble_eq_true rfl, rfl, rfl, ?_⟩
              iterate 3 refine px_go hX ?_
              refine ⟨_, _, ((px_up_n _ _ (hR.ne hc.1.1 (hc.2.2.1 b hb).1 (by omega))).trans (px_up_s _ _ _)), rfl, ?_⟩
              iterate 3 refine px_go hX ?_
              refine ⟨_, ((px_up_n _ _ (hR.ne hc.1.1 (hc.2.2.1 b hb).1 (by omega))).trans (px_up_s _ _ _)), Nat.le_of_ble_eq_true rfl, rfl, rfl, ?_⟩
              have hR2 := ((hR1.put (i := 20 + 4 * b) (hc1.2.2.1 b hb).1 (px_o 1 [.ref (ad (21 + 4 * b)), .ref (ad (22 + 4 * b)), .ref (ad (23 + 4 * b)), .int (cs_yf σ b 0), .int (cs_yf σ b 1), .int ((cs_yf σ b 2) + ((1 : Int32))), .int ((cs_yf σ b 3) - ((1 : Int32)))])).put (i := 0) ((rp_up_n _ _ (by omega)).trans hc1.1.1) (px_o 0 [.int (nI (cs_ti σ)), .ref (ad 1), .ref (ad 2), .ref (ad 3), .int (nI (cs_n σ)), .int ((cs_mw σ) + ((1 : Int32))), .int ((cs_lg σ) + ((1 : Int32)))]))
              have hc2 : Cl ad (cs_w2 σ b j (-1) (cs_ya σ b 2 (cs_yf σ b 2).toNatClampNeg)) (rp_up (rp_up (rp_up (rp_up (rp_up (rp_up (K) (40 + j) (px_o 2 [.int (cs_bf σ j 0), .int (cs_bf σ j 1), .int (cs_bf σ j 2), .int ((-1 : Int32)), .int (cs_bf σ j 4)])) (40 + j) (px_o 2 [.int (cs_bf σ j 0), .int (cs_bf σ j 1), .int (cs_ya σ b 2 (cs_yf σ b 2).toNatClampNeg), .int ((-1 : Int32)), .int (cs_bf σ j 4)])) (20 + 4 * b) (px_o 1 [.ref (ad (21 + 4 * b)), .ref (ad (22 + 4 * b)), .ref (ad (23 + 4 * b)), .int (cs_yf σ b 0), .int (cs_yf σ b 1), .int ((cs_yf σ b 2) + ((1 : Int32))), .int (cs_yf σ b 3)])) (0) (px_o 0 [.int (nI (cs_ti σ)), .ref (ad 1), .ref (ad 2), .ref (ad 3), .int (nI (cs_n σ)), .int ((cs_mw σ) + ((1 : Int32))), .int (cs_lg σ)])) (20 + 4 * b) (px_o 1 [.ref (ad (21 + 4 * b)), .ref (ad (22 + 4 * b)), .ref (ad (23 + 4 * b)), .int (cs_yf σ b 0), .int (cs_yf σ b 1), .int ((cs_yf σ b 2) + ((1 : Int32))), .int ((cs_yf σ b 3) - ((1 : Int32)))])) (0) (px_o 0 [.int (nI (cs_ti σ)), .ref (ad 1), .ref (ad 2), .ref (ad 3), .int (nI (cs_n σ)), .int ((cs_mw σ) + ((1 : Int32))), .int ((cs_lg σ) + ((1 : Int32)))])) := by
                exact (hc1.sY (b := b) hb _).sM _ _
              have hK2 : ∀ i, 100 ≤ i → (rp_up (rp_up (rp_up (rp_up (rp_up (rp_up (K) (40 + j) (px_o 2 [.int (cs_bf σ j 0), .int (cs_bf σ j 1), .int (cs_bf σ j 2), .int ((-1 : Int32)), .int (cs_bf σ j 4)])) (40 + j) (px_o 2 [.int (cs_bf σ j 0), .int (cs_bf σ j 1), .int (cs_ya σ b 2 (cs_yf σ b 2).toNatClampNeg), .int ((-1 : Int32)), .int (cs_bf σ j 4)])) (20 + 4 * b) (px_o 1 [.ref (ad (21 + 4 * b)), .ref (ad (22 + 4 * b)), .ref (ad (23 + 4 * b)), .int (cs_yf σ b 0), .int (cs_yf σ b 1), .int ((cs_yf σ b 2) + ((1 : Int32))), .int (cs_yf σ b 3)])) (0) (px_o 0 [.int (nI (cs_ti σ)), .ref (ad 1), .ref (ad 2), .ref (ad 3), .int (nI (cs_n σ)), .int ((cs_mw σ) + ((1 : Int32))), .int (cs_lg σ)])) (20 + 4 * b) (px_o 1 [.ref (ad (21 + 4 * b)), .ref (ad (22 + 4 * b)), .ref (ad (23 + 4 * b)), .int (cs_yf σ b 0), .int (cs_yf σ b 1), .int ((cs_yf σ b 2) + ((1 : Int32))), .int ((cs_yf σ b 3) - ((1 : Int32)))])) (0) (px_o 0 [.int (nI (cs_ti σ)), .ref (ad 1), .ref (ad 2), .ref (ad 3), .int (nI (cs_n σ)), .int ((cs_mw σ) + ((1 : Int32))), .int ((cs_lg σ) + ((1 : Int32)))])) i = (rp_up (rp_up (rp_up (rp_up (K) (40 + j) (px_o 2 [.int (cs_bf σ j 0), .int (cs_bf σ j 1), .int (cs_bf σ j 2), .int ((-1 : Int32)), .int (cs_bf σ j 4)])) (40 + j) (px_o 2 [.int (cs_bf σ j 0), .int (cs_bf σ j 1), .int (cs_ya σ b 2 (cs_yf σ b 2).toNatClampNeg), .int ((-1 : Int32)), .int (cs_bf σ j 4)])) (20 + 4 * b) (px_o 1 [.ref (ad (21 + 4 * b)), .ref (ad (22 + 4 * b)), .ref (ad (23 + 4 * b)), .int (cs_yf σ b 0), .int (cs_yf σ b 1), .int ((cs_yf σ b 2) + ((1 : Int32))), .int (cs_yf σ b 3)])) (0) (px_o 0 [.int (nI (cs_ti σ)), .ref (ad 1), .ref (ad 2), .ref (ad 3), .int (nI (cs_n σ)), .int ((cs_mw σ) + ((1 : Int32))), .int (cs_lg σ)])) i := fun i hi => by rw [rp_up_n _ _ (by omega), rp_up_n _ _ (by omega)]
              iterate 2 refine px_go hX ?_
              refine ⟨_, ((px_up_n _ _ (hR.ne (hc.2.2.1 b hb).1 hc.1.1 (by omega))).trans (px_up_s _ _ _)), 0, 0, _, Nat.le_of_ble_eq_true rfl, Nat.le_of_ble_eq_true rfl, Nat.le_of_ble_eq_true rfl, cc_movesLeft hR2 hc2 hb, ?_⟩
              rintro _ C ⟨rfl, ⟨b2, rfl⟩ | ⟨b2, rfl⟩⟩
              · refine px_go hX ?_
                have ht : cs_wt σ x (cs_ya σ b 2 (cs_yf σ b 2).toNatClampNeg) = -1 := if_pos c3
                rw [of_work_3 hc hx hb b1 hj hy, show of_wk σ x b j (cs_ya σ b 2 (cs_yf σ b 2).toNatClampNeg) = (0, cs_lft (cs_w2 σ b j (-1) (cs_ya σ b 2 (cs_yf σ b 2).toNatClampNeg)) b, cs_w2 σ b j (-1) (cs_ya σ b 2 (cs_yf σ b 2).toNatClampNeg)) from by rw [← ht]; exact if_pos ⟨c4, Int32.not_le.mp c5⟩]
                exact ⟨rfl, congrArg (fun z => some (Value.int z)) (if_pos b2).symm, Ck.ca ⟨_, hR2, hc2, fun i hi => (hK2 i hi).trans (hK1 i hi)⟩⟩
              · refine px_go hX ?_
                have ht : cs_wt σ x (cs_ya σ b 2 (cs_yf σ b 2).toNatClampNeg) = -1 := if_pos c3
                rw [of_work_3 hc hx hb b1 hj hy, show of_wk σ x b j (cs_ya σ b 2 (cs_yf σ b 2).toNatClampNeg) = (0, cs_lft (cs_w2 σ b j (-1) (cs_ya σ b 2 (cs_yf σ b 2).toNatClampNeg)) b, cs_w2 σ b j (-1) (cs_ya σ b 2 (cs_yf σ b 2).toNatClampNeg)) from by rw [← ht]; exact if_pos ⟨c4, Int32.not_le.mp c5⟩]
                exact ⟨rfl, congrArg (fun z => some (Value.int z)) (if_neg b2).symm, Ck.ca ⟨_, hR2, hc2, fun i hi => (hK2 i hi).trans (hK1 i hi)⟩⟩
        · iterate 4 refine px_go hX ?_
          refine ⟨_, h0, 0, 0, _, Nat.le_of_ble_eq_true rfl, Nat.le_of_ble_eq_true rfl, Nat.le_of_ble_eq_true rfl, cc_heightOf hR hc _ _, ?_⟩
          rintro _ C ⟨rfl, rfl⟩
          iterate 2 refine px_go hX ?_
          refine ⟨_, (hR.1 _ _ (hc.2.2.2.1 j hj)), Nat.le_of_ble_eq_true rfl, rfl, rfl, ?_⟩
          iterate 3 refine px_go hX ?_
          refine ⟨_, (px_up_s _ _ _), Nat.le_of_ble_eq_true rfl, rfl, rfl, ?_⟩
          iterate 3 refine px_go hX ?_
          refine ⟨_, _, ((px_up_n _ _ (hR.ne (hc.2.2.1 b hb).1 (hc.2.2.2.1 j hj) (by omega))).trans ((px_up_n _ _ (hR.ne (hc.2.2.1 b hb).1 (hc.2.2.2.1 j hj) (by omega))).trans (hR.1 _ _ (hc.2.2.1 b hb).1))), rfl, ?_⟩
          iterate 3 refine px_go hX ?_
          refine ⟨_, ((px_up_n _ _ (hR.ne (hc.2.2.1 b hb).1 (hc.2.2.2.1 j hj) (by omega))).trans ((px_up_n _ _ (hR.ne (hc.2.2.1 b hb).1 (hc.2.2.2.1 j hj) (by omega))).trans (hR.1 _ _ (hc.2.2.1 b hb).1))), Nat.le_of_ble_eq_true rfl, rfl, rfl, ?_⟩
          iterate 3 refine px_go hX ?_
          refine ⟨_, _, ((px_up_n _ _ (hR.ne hc.1.1 (hc.2.2.1 b hb).1 (by omega))).trans ((px_up_n _ _ (hR.ne hc.1.1 (hc.2.2.2.1 j hj) (by omega))).trans ((px_up_n _ _ (hR.ne hc.1.1 (hc.2.2.2.1 j hj) (by omega))).trans h0))), rfl, ?_⟩
          iterate 3 refine px_go hX ?_
          refine ⟨_, ((px_up_n _ _ (hR.ne hc.1.1 (hc.2.2.1 b hb).1 (by omega))).trans ((px_up_n _ _ (hR.ne hc.1.1 (hc.2.2.2.1 j hj) (by omega))).trans ((px_up_n _ _ (hR.ne hc.1.1 (hc.2.2.2.1 j hj) (by omega))).trans h0))), Nat.le_of_ble_eq_true rfl, rfl, rfl, ?_⟩
          have hR1 := ((((hR.put (i := 40 + j) (hc.2.2.2.1 j hj) (px_o 2 [.int (cs_bf σ j 0), .int (cs_bf σ j 1), .int (cs_bf σ j 2), .int (cs_hgt σ x (cs_ya σ b 2 (cs_yf σ b 2).toNatClampNeg)), .int (cs_bf σ j 4)])).put (i := 40 + j) (rp_up_s _ _ _) (px_o 2 [.int (cs_bf σ j 0), .int (cs_bf σ j 1), .int (cs_ya σ b 2 (cs_yf σ b 2).toNatClampNeg), .int (cs_hgt σ x (cs_ya σ b 2 (cs_yf σ b 2).toNatClampNeg)), .int (cs_bf σ j 4)])).put (i := 20 + 4 * b) ((rp_up_n _ _ (by omega)).trans ((rp_up_n _ _ (by omega)).trans (hc.2.2.1 b hb).1)) (px_o 1 [.ref (ad (21 + 4 * b)), .ref (ad (22 + 4 * b)), .ref (ad (23 + 4 * b)), .int (cs_yf σ b 0), .int (cs_yf σ b 1), .int ((cs_yf σ b 2) + ((1 : Int32))), .int (cs_yf σ b 3)])).put (i := 0) ((rp_up_n _ _ (by omega)).trans ((rp_up_n _ _ (by omega)).trans ((rp_up_n _ _ (by omega)).trans hc.1.1))) (px_o 0 [.int (nI (cs_ti σ)), .ref (ad 1), .ref (ad 2), .ref (ad 3), .int (nI (cs_n σ)), .int ((cs_mw σ) + ((1 : Int32))), .int (cs_lg σ)]))
          have hc1 : Cl ad (cs_w1 σ b j (cs_hgt σ x (cs_ya σ b 2 (cs_yf σ b 2).toNatClampNeg)) (cs_ya σ b 2 (cs_yf σ b 2).toNatClampNeg)) (rp_up (rp_up (rp_up (rp_up (K) (40 + j) (px_o 2 [.int (cs_bf σ j 0), .int (cs_bf σ j 1), .int (cs_bf σ j 2), .int (cs_hgt σ x (cs_ya σ b 2 (cs_yf σ b 2).toNatClampNeg)), .int (cs_bf σ j 4)])) (40 + j) (px_o 2 [.int (cs_bf σ j 0), .int (cs_bf σ j 1), .int (cs_ya σ b 2 (cs_yf σ b 2).toNatClampNeg), .int (cs_hgt σ x (cs_ya σ b 2 (cs_yf σ b 2).toNatClampNeg)), .int (cs_bf σ j 4)])) (20 + 4 * b) (px_o 1 [.ref (ad (21 + 4 * b)), .ref (ad (22 + 4 * b)), .ref (ad (23 + 4 * b)), .int (cs_yf σ b 0), .int (cs_yf σ b 1), .int ((cs_yf σ b 2) + ((1 : Int32))), .int (cs_yf σ b 3)])) (0) (px_o 0 [.int (nI (cs_ti σ)), .ref (ad 1), .ref (ad 2), .ref (ad 3), .int (nI (cs_n σ)), .int ((cs_mw σ) + ((1 : Int32))), .int (cs_lg σ)])) := by
            rw [rp_up_up]
            exact ((hc.sB hj _).sY (b := b) hb _).sM _ _
          have hK1 : ∀ i, 100 ≤ i → (rp_up (rp_up (rp_up (rp_up (K) (40 + j) (px_o 2 [.int (cs_bf σ j 0), .int (cs_bf σ j 1), .int (cs_bf σ j 2), .int (cs_hgt σ x (cs_ya σ b 2 (cs_yf σ b 2).toNatClampNeg)), .int (cs_bf σ j 4)])) (40 + j) (px_o 2 [.int (cs_bf σ j 0), .int (cs_bf σ j 1), .int (cs_ya σ b 2 (cs_yf σ b 2).toNatClampNeg), .int (cs_hgt σ x (cs_ya σ b 2 (cs_yf σ b 2).toNatClampNeg)), .int (cs_bf σ j 4)])) (20 + 4 * b) (px_o 1 [.ref (ad (21 + 4 * b)), .ref (ad (22 + 4 * b)), .ref (ad (23 + 4 * b)), .int (cs_yf σ b 0), .int (cs_yf σ b 1), .int ((cs_yf σ b 2) + ((1 : Int32))), .int (cs_yf σ b 3)])) (0) (px_o 0 [.int (nI (cs_ti σ)), .ref (ad 1), .ref (ad 2), .ref (ad 3), .int (nI (cs_n σ)), .int ((cs_mw σ) + ((1 : Int32))), .int (cs_lg σ)])) i = (K) i := fun i hi => by rw [rp_up_n _ _ (by omega), rp_up_n _ _ (by omega), rp_up_n _ _ (by omega), rp_up_n _ _ (by omega)]
          iterate 3 refine px_go hX ?_
          refine ⟨fun (c6 : ¬ cs_ya σ b 2 (cs_yf σ b 2).toNatClampNeg = (3 : Int32)) => ?_, fun (c6 : cs_ya σ b 2 (cs_yf σ b 2).toNatClampNeg = (3 : Int32)) => ?_⟩
          · iterate 2 refine px_go hX ?_
            refine ⟨_, ((px_up_n _ _ (hR.ne (hc.2.2.1 b hb).1 hc.1.1 (by omega))).trans (px_up_s _ _ _)), 0, 0, _, Nat.le_of_ble_eq_true rfl, Nat.le_of_ble_eq_true rfl, Nat.le_of_ble_eq_true rfl, cc_movesLeft hR1 hc1 hb, ?_⟩
            rintro _ C ⟨rfl, ⟨b2, rfl⟩ | ⟨b2, rfl⟩⟩
            · refine px_go hX ?_
              have ht : cs_wt σ x (cs_ya σ b 2 (cs_yf σ b 2).toNatClampNeg) = cs_hgt σ x (cs_ya σ b 2 (cs_yf σ b 2).toNatClampNeg) := if_neg c3
              rw [of_work_3 hc hx hb b1 hj hy, show of_wk σ x b j (cs_ya σ b 2 (cs_yf σ b 2).toNatClampNeg) = (0, cs_lft (cs_w1 σ b j (cs_hgt σ x (cs_ya σ b 2 (cs_yf σ b 2).toNatClampNeg)) (cs_ya σ b 2 (cs_yf σ b 2).toNatClampNeg)) b, cs_w1 σ b j (cs_hgt σ x (cs_ya σ b 2 (cs_yf σ b 2).toNatClampNeg)) (cs_ya σ b 2 (cs_yf σ b 2).toNatClampNeg)) from by rw [← ht]; exact if_neg (fun q => c6 q.1)]
              exact ⟨rfl, congrArg (fun z => some (Value.int z)) (if_pos b2).symm, Ck.ca ⟨_, hR1, hc1, fun i hi => hK1 i hi⟩⟩
            · refine px_go hX ?_
              have ht : cs_wt σ x (cs_ya σ b 2 (cs_yf σ b 2).toNatClampNeg) = cs_hgt σ x (cs_ya σ b 2 (cs_yf σ b 2).toNatClampNeg) := if_neg c3
              rw [of_work_3 hc hx hb b1 hj hy, show of_wk σ x b j (cs_ya σ b 2 (cs_yf σ b 2).toNatClampNeg) = (0, cs_lft (cs_w1 σ b j (cs_hgt σ x (cs_ya σ b 2 (cs_yf σ b 2).toNatClampNeg)) (cs_ya σ b 2 (cs_yf σ b 2).toNatClampNeg)) b, cs_w1 σ b j (cs_hgt σ x (cs_ya σ b 2 (cs_yf σ b 2).toNatClampNeg)) (cs_ya σ b 2 (cs_yf σ b 2).toNatClampNeg)) from by rw [← ht]; exact if_neg (fun q => c6 q.1)]
              exact ⟨rfl, congrArg (fun z => some (Value.int z)) (if_neg b2).symm, Ck.ca ⟨_, hR1, hc1, fun i hi => hK1 i hi⟩⟩
          · iterate 2 refine px_go hX ?_
            refine ⟨_, _, ((px_up_n _ _ (hR.ne (hc.2.2.1 b hb).1 hc.1.1 (by omega))).trans (px_up_s _ _ _)), rfl, ?_⟩
            refine px_go hX ?_
            refine ⟨fun (c7 : cs_yf σ b 3 ≤ 0) => ?_, fun (c7 : ¬ cs_yf σ b 3 ≤ 0) => ?_⟩
            · iterate 2 refine px_go hX ?_
              refine ⟨_, ((px_up_n _ _ (hR.ne (hc.2.2.1 b hb).1 hc.1.1 (by omega))).trans (px_up_s _ _ _)), 0, 0, _, Nat.le_of_ble_eq_true rfl, Nat.le_of_ble_eq_true rfl, Nat.le_of_ble_eq_true rfl, cc_movesLeft hR1 hc1 hb, ?_⟩
              rintro _ C ⟨rfl, ⟨b2, rfl⟩ | ⟨b2, rfl⟩⟩
              · refine px_go hX ?_
                have ht : cs_wt σ x (cs_ya σ b 2 (cs_yf σ b 2).toNatClampNeg) = cs_hgt σ x (cs_ya σ b 2 (cs_yf σ b 2).toNatClampNeg) := if_neg c3
                rw [of_work_3 hc hx hb b1 hj hy, show of_wk σ x b j (cs_ya σ b 2 (cs_yf σ b 2).toNatClampNeg) = (0, cs_lft (cs_w1 σ b j (cs_hgt σ x (cs_ya σ b 2 (cs_yf σ b 2).toNatClampNeg)) (cs_ya σ b 2 (cs_yf σ b 2).toNatClampNeg)) b, cs_w1 σ b j (cs_hgt σ x (cs_ya σ b 2 (cs_yf σ b 2).toNatClampNeg)) (cs_ya σ b 2 (cs_yf σ b 2).toNatClampNeg)) from by rw [← ht]; exact if_neg (fun q => absurd q.2 (Int32.not_lt.mpr c7))]
                exact ⟨rfl, congrArg (fun z => some (Value.int z)) (if_pos b2).symm, Ck.ca ⟨_, hR1, hc1, fun i hi => hK1 i hi⟩⟩
              · refine px_go hX ?_
                have ht : cs_wt σ x (cs_ya σ b 2 (cs_yf σ b 2).toNatClampNeg) = cs_hgt σ x (cs_ya σ b 2 (cs_yf σ b 2).toNatClampNeg) := if_neg c3
                rw [of_work_3 hc hx hb b1 hj hy, show of_wk σ x b j (cs_ya σ b 2 (cs_yf σ b 2).toNatClampNeg) = (0, cs_lft (cs_w1 σ b j (cs_hgt σ x (cs_ya σ b 2 (cs_yf σ b 2).toNatClampNeg)) (cs_ya σ b 2 (cs_yf σ b 2).toNatClampNeg)) b, cs_w1 σ b j (cs_hgt σ x (cs_ya σ b 2 (cs_yf σ b 2).toNatClampNeg)) (cs_ya σ b 2 (cs_yf σ b 2).toNatClampNeg)) from by rw [← ht]; exact if_neg (fun q => absurd q.2 (Int32.not_lt.mpr c7))]
                exact ⟨rfl, congrArg (fun z => some (Value.int z)) (if_neg b2).symm, Ck.ca ⟨_, hR1, hc1, fun i hi => hK1 i hi⟩⟩
            · iterate 3 refine px_go hX ?_
              refine ⟨_, _, ((px_up_n _ _ (hR.ne (hc.2.2.1 b hb).1 hc.1.1 (by omega))).trans (px_up_s _ _ _)), rfl, ?_⟩
              iterate 3 refine px_go hX ?_
              refine ⟨_, ((px_up_n _ _ (hR.ne (hc.2.2.1 b hb).1 hc.1.1 (by omega))).trans (px_up_s _ _ _)), Nat.le_of_ble_eq_true rfl, rfl, rfl, ?_⟩
              iterate 3 refine px_go hX ?_
              refine ⟨_, _, ((px_up_n _ _ (hR.ne hc.1.1 (hc.2.2.1 b hb).1 (by omega))).trans (px_up_s _ _ _)), rfl, ?_⟩
              iterate 3 refine px_go hX ?_
              refine ⟨_, ((px_up_n _ _ (hR.ne hc.1.1 (hc.2.2.1 b hb).1 (by omega))).trans (px_up_s _ _ _)), Nat.le_of_ble_eq_true rfl, rfl, rfl, ?_⟩
              have hR2 := ((hR1.put (i := 20 + 4 * b) (hc1.2.2.1 b hb).1 (px_o 1 [.ref (ad (21 + 4 * b)), .ref (ad (22 + 4 * b)), .ref (ad (23 + 4 * b)), .int (cs_yf σ b 0), .int (cs_yf σ b 1), .int ((cs_yf σ b 2) + ((1 : Int32))), .int ((cs_yf σ b 3) - ((1 : Int32)))])).put (i := 0) ((rp_up_n _ _ (by omega)).trans hc1.1.1) (px_o 0 [.int (nI (cs_ti σ)), .ref (ad 1), .ref (ad 2), .ref (ad 3), .int (nI (cs_n σ)), .int ((cs_mw σ) + ((1 : Int32))), .int ((cs_lg σ) + ((1 : Int32)))]))
              have hc2 : Cl ad (cs_w2 σ b j (cs_hgt σ x (cs_ya σ b 2 (cs_yf σ b 2).toNatClampNeg)) (cs_ya σ b 2 (cs_yf σ b 2).toNatClampNeg)) (rp_up (rp_up (rp_up (rp_up (rp_up (rp_up (K) (40 + j) (px_o 2 [.int (cs_bf σ j 0), .int (cs_bf σ j 1), .int (cs_bf σ j 2), .int (cs_hgt σ x (cs_ya σ b 2 (cs_yf σ b 2).toNatClampNeg)), .int (cs_bf σ j 4)])) (40 + j) (px_o 2 [.int (cs_bf σ j 0), .int (cs_bf σ j 1), .int (cs_ya σ b 2 (cs_yf σ b 2).toNatClampNeg), .int (cs_hgt σ x (cs_ya σ b 2 (cs_yf σ b 2).toNatClampNeg)), .int (cs_bf σ j 4)])) (20 + 4 * b) (px_o 1 [.ref (ad (21 + 4 * b)), .ref (ad (22 + 4 * b)), .ref (ad (23 + 4 * b)), .int (cs_yf σ b 0), .int (cs_yf σ b 1), .int ((cs_yf σ b 2) + ((1 : Int32))), .int (cs_yf σ b 3)])) (0) (px_o 0 [.int (nI (cs_ti σ)), .ref (ad 1), .ref (ad 2), .ref (ad 3), .int (nI (cs_n σ)), .int ((cs_mw σ) + ((1 : Int32))), .int (cs_lg σ)])) (20 + 4 * b) (px_o 1 [.ref (ad (21 + 4 * b)), .ref (ad (22 + 4 * b)), .ref (ad (23 + 4 * b)), .int (cs_yf σ b 0), .int (cs_yf σ b 1), .int ((cs_yf σ b 2) + ((1 : Int32))), .int ((cs_yf σ b 3) - ((1 : Int32)))])) (0) (px_o 0 [.int (nI (cs_ti σ)), .ref (ad 1), .ref (ad 2), .ref (ad 3), .int (nI (cs_n σ)), .int ((cs_mw σ) + ((1 : Int32))), .int ((cs_lg σ) + ((1 : Int32)))])) := by
                exact (hc1.sY (b := b) hb _).sM _ _
              have hK2 : ∀ i, 100 ≤ i → (rp_up (rp_up (rp_up (rp_up (rp_up (rp_up (K) (40 + j) (px_o 2 [.int (cs_bf σ j 0), .int (cs_bf σ j 1), .int (cs_bf σ j 2), .int (cs_hgt σ x (cs_ya σ b 2 (cs_yf σ b 2).toNatClampNeg)), .int (cs_bf σ j 4)])) (40 + j) (px_o 2 [.int (cs_bf σ j 0), .int (cs_bf σ j 1), .int (cs_ya σ b 2 (cs_yf σ b 2).toNatClampNeg), .int (cs_hgt σ x (cs_ya σ b 2 (cs_yf σ b 2).toNatClampNeg)), .int (cs_bf σ j 4)])) (20 + 4 * b) (px_o 1 [.ref (ad (21 + 4 * b)), .ref (ad (22 + 4 * b)), .ref (ad (23 + 4 * b)), .int (cs_yf σ b 0), .int (cs_yf σ b 1), .int ((cs_yf σ b 2) + ((1 : Int32))), .int (cs_yf σ b 3)])) (0) (px_o 0 [.int (nI (cs_ti σ)), .ref (ad 1), .ref (ad 2), .ref (ad 3), .int (nI (cs_n σ)), .int ((cs_mw σ) + ((1 : Int32))), .int (cs_lg σ)])) (20 + 4 * b) (px_o 1 [.ref (ad (21 + 4 * b)), .ref (ad (22 + 4 * b)), .ref (ad (23 + 4 * b)), .int (cs_yf σ b 0), .int (cs_yf σ b 1), .int ((cs_yf σ b 2) + ((1 : Int32))), .int ((cs_yf σ b 3) - ((1 : Int32)))])) (0) (px_o 0 [.int (nI (cs_ti σ)), .ref (ad 1), .ref (ad 2), .ref (ad 3), .int (nI (cs_n σ)), .int ((cs_mw σ) + ((1 : Int32))), .int ((cs_lg σ) + ((1 : Int32)))])) i = (rp_up (rp_up (rp_up (rp_up (K) (40 + j) (px_o 2 [.int (cs_bf σ j 0), .int (cs_bf σ j 1), .int (cs_bf σ j 2), .int (cs_hgt σ x (cs_ya σ b 2 (cs_yf σ b 2).toNatClampNeg)), .int (cs_bf σ j 4)])) (40 + j) (px_o 2 [.int (cs_bf σ j 0), .int (cs_bf σ j 1), .int (cs_ya σ b 2 (cs_yf σ b 2).toNatClampNeg), .int (cs_hgt σ x (cs_ya σ b 2 (cs_yf σ b 2).toNatClampNeg)), .int (cs_bf σ j 4)])) (20 + 4 * b) (px_o 1 [.ref (ad (21 + 4 * b)), .ref (ad (22 + 4 * b)), .ref (ad (23 + 4 * b)), .int (cs_yf σ b 0), .int (cs_yf σ b 1), .int ((cs_yf σ b 2) + ((1 : Int32))), .int (cs_yf σ b 3)])) (0) (px_o 0 [.int (nI (cs_ti σ)), .ref (ad 1), .ref (ad 2), .ref (ad 3), .int (nI (cs_n σ)), .int ((cs_mw σ) + ((1 : Int32))), .int (cs_lg σ)])) i := fun i hi => by rw [rp_up_n _ _ (by omega), rp_up_n _ _ (by omega)]
              iterate 2 refine px_go hX ?_
              refine ⟨_, ((px_up_n _ _ (hR.ne (hc.2.2.1 b hb).1 hc.1.1 (by omega))).trans (px_up_s _ _ _)), 0, 0, _, Nat.le_of_ble_eq_true rfl, Nat.le_of_ble_eq_true rfl, Nat.le_of_ble_eq_true rfl, cc_movesLeft hR2 hc2 hb, ?_⟩
              rintro _ C ⟨rfl, ⟨b2, rfl⟩ | ⟨b2, rfl⟩⟩
              · refine px_go hX ?_
                have ht : cs_wt σ x (cs_ya σ b 2 (cs_yf σ b 2).toNatClampNeg) = cs_hgt σ x (cs_ya σ b 2 (cs_yf σ b 2).toNatClampNeg) := if_neg c3
                rw [of_work_3 hc hx hb b1 hj hy, show of_wk σ x b j (cs_ya σ b 2 (cs_yf σ b 2).toNatClampNeg) = (0, cs_lft (cs_w2 σ b j (cs_hgt σ x (cs_ya σ b 2 (cs_yf σ b 2).toNatClampNeg)) (cs_ya σ b 2 (cs_yf σ b 2).toNatClampNeg)) b, cs_w2 σ b j (cs_hgt σ x (cs_ya σ b 2 (cs_yf σ b 2).toNatClampNeg)) (cs_ya σ b 2 (cs_yf σ b 2).toNatClampNeg)) from by rw [← ht]; exact if_pos ⟨c6, Int32.not_le.mp c7⟩]
                exact ⟨rfl, congrArg (fun z => some (Value.int z)) (if_pos b2).symm, Ck.ca ⟨_, hR2, hc2, fun i hi => (hK2 i hi).trans (hK1 i hi)⟩⟩
              · refine px_go hX ?_
                have ht : cs_wt σ x (cs_ya σ b 2 (cs_yf σ b 2).toNatClampNeg) = cs_hgt σ x (cs_ya σ b 2 (cs_yf σ b 2).toNatClampNeg) := if_neg c3
                rw [of_work_3 hc hx hb b1 hj hy, show of_wk σ x b j (cs_ya σ b 2 (cs_yf σ b 2).toNatClampNeg) = (0, cs_lft (cs_w2 σ b j (cs_hgt σ x (cs_ya σ b 2 (cs_yf σ b 2).toNatClampNeg)) (cs_ya σ b 2 (cs_yf σ b 2).toNatClampNeg)) b, cs_w2 σ b j (cs_hgt σ x (cs_ya σ b 2 (cs_yf σ b 2).toNatClampNeg)) (cs_ya σ b 2 (cs_yf σ b 2).toNatClampNeg)) from by rw [← ht]; exact if_pos ⟨c6, Int32.not_le.mp c7⟩]
                exact ⟨rfl, congrArg (fun z => some (Value.int z)) (if_neg b2).symm, Ck.ca ⟨_, hR2, hc2, fun i hi => (hK2 i hi).trans (hK1 i hi)⟩⟩
      · iterate 5 refine px_go hX ?_
        refine ⟨Nat.le_refl 1, Nat.le_refl 6, rfl, ?_⟩
        rw [of_work_2 hc hx hb (Or.inr hy)]
        exact ⟨Or.inr (Or.inl ⟨rfl, rfl⟩), Ca.of hR hc⟩
    · refine px_go hX ?_
      refine ⟨fun (c8 : 0 = 0) => ?_, fun (c8 : ¬ 0 = 0) => absurd rfl c8⟩
      iterate 5 refine px_go hX ?_
      refine ⟨Nat.le_refl 1, Nat.le_refl 6, rfl, ?_⟩
      rw [of_work_2 hc hx hb (Or.inl b1)]
      exact ⟨Or.inr (Or.inl ⟨rfl, rfl⟩), Ca.of hR hc⟩
  · iterate 4 refine px_go hX ?_
    have hr : of_work σ x = (1, 0, σ) := by
      unfold of_work
      rw [cs_bq_n hx]
    refine ⟨Nat.le_refl 1, Nat.le_refl 6, rfl, ?_⟩
    rw [hr]
    exact ⟨Or.inl ⟨rfl, rfl⟩, Ca.of hR hc⟩
/-- one round of the class's closure of needs, all of them -/
def cs_k1 (σ : ck_S) (kn : Int32) : Nat → Int32
  | 0 => kn
  | i + 1 => if (cs_k1 σ kn i >>> (nI i &&& 31)) &&& 1 = 0 then cs_k1 σ kn i else cs_k1 σ kn i ||| cs_bf σ i 4
def cs_kn (σ : ck_S) (kn : Int32) : Nat → Int32
  | 0 => kn
  | r + 1 => cs_k1 σ (cs_kn σ kn r) (cs_n σ)
theorem cc_comesBefore (hR : Rp ad K C) (hc : Cl ad σ K) {j : Nat} (hj : j < cs_n σ) (x : Int32) : px_W ps_Y ps_P B sc (d + 2) 7 [.ref (ad 0), .int x, .ref (ad (40 + j))] C 0 0 (px_bo (¬ ((cs_kn σ (cs_bf σ j 4) 16 >>> (x &&& 31)) &&& 1) = 0) C) px_no := by
  have h0 := hR.1 0 _ hc.1.1
  have hn := hc.2.2.2.2.2.2.2.2.2
  refine ⟨pm_Mo_comesBefore, rfl, Nat.le_of_ble_eq_true rfl, fun X hw hX => ?_⟩
  have loop : ∀ kr r, r + kr = 16 → X (8, [(0, .ref (ad 0)), (1, .int (x)), (3, .int (cs_kn σ (cs_bf σ j 4) r)), (4, .int (nI r))], [], C, 0, 0) := by
    intro kr
    induction kr with
    | zero =>
      intro r hir
      have hltr : r = 16 := hir
      iterate 3 refine px_go hX ?_
      refine ⟨fun (c1 : (16 : Int32) ≤ nI r) => ?_, fun (c1 : ¬ (16 : Int32) ≤ nI r) => absurd (by rw [hltr]; exact Int32.le_refl _) c1⟩
      iterate 6 refine px_go hX ?_
      refine ⟨fun (c2 : ((cs_kn σ (cs_bf σ j 4) r) >>> ((x) &&& 31)) &&& ((1 : Int32)) = 0) => ?_, fun (c2 : ¬ ((cs_kn σ (cs_bf σ j 4) r) >>> ((x) &&& 31)) &&& ((1 : Int32)) = 0) => ?_⟩
      · iterate 2 refine px_go hX ?_
        rw [hltr] at c2
        exact ⟨Or.inl rfl, rfl, Or.inr ⟨fun q => q c2, rfl⟩⟩
      · iterate 3 refine px_go hX ?_
        rw [hltr] at c2
        exact ⟨Or.inr rfl, rfl, Or.inl ⟨c2, rfl⟩⟩
    | succ kr ihr =>
      intro r hir
      have hltr : r < 16 := by omega
      iterate 3 refine px_go hX ?_
      refine ⟨fun (c3 : (16 : Int32) ≤ nI r) => absurd c3 (nI_ge hltr (by omega : 16 < 2 ^ 31)), fun (c3 : ¬ (16 : Int32) ≤ nI r) => ?_⟩
      iterate 2 refine px_go hX ?_
      have loopi : ∀ k i, i + k = cs_n σ → X (18, [(0, .ref (ad 0)), (1, .int (x)), (3, .int (cs_k1 σ (cs_kn σ (cs_bf σ j 4) r) i)), (4, .int (nI r)), (5, .int (nI i))], [], C, 0, 0) := by
        intro k
        induction k with
        | zero =>
          intro i hi
          have hlt : i = cs_n σ := hi
          iterate 3 refine px_go hX ?_
          refine ⟨_, _, h0, rfl, ?_⟩
          refine px_go hX ?_
          refine ⟨fun (c4 : nI (cs_n σ) ≤ nI i) => ?_, fun (c4 : ¬ nI (cs_n σ) ≤ nI i) => absurd (nI_le (by omega) (by omega)) c4⟩
          iterate 2 refine px_go hX ?_
          exact px_lw hw [(0, .ref (ad 0)), (1, .int (x)), (3, .int (cs_kn σ (cs_bf σ j 4) (r + 1))), (4, .int (nI (r + 1)))] (ihr (r + 1) (by omega)) ⟨rfl, rfl, (congrArg (fun z => some (Value.int z)) (by rw [hlt]; rfl)), (congrArg (fun z => some (Value.int z)) (nI_succ _).symm), trivial⟩
        | succ k ih =>
          intro i hi
          have hlt : i < cs_n σ := by omega
          iterate 3 refine px_go hX ?_
          refine ⟨_, _, h0, rfl, ?_⟩
          refine px_go hX ?_
          refine ⟨fun (c5 : nI (cs_n σ) ≤ nI i) => absurd c5 (nI_ge hlt (by omega)), fun (c5 : ¬ nI (cs_n σ) ≤ nI i) => ?_⟩
          iterate 3 refine px_go hX ?_
          refine ⟨_, h0, 0, 0, _, Nat.le_of_ble_eq_true rfl, Nat.le_of_ble_eq_true rfl, Nat.le_of_ble_eq_true rfl, cc_boxAtI hR hc hlt, ?_⟩
          rintro _ C ⟨rfl, rfl⟩
          iterate 9 refine px_go hX ?_
          refine ⟨fun (c6 : ((cs_k1 σ (cs_kn σ (cs_bf σ j 4) r) i) >>> ((nI i) &&& 31)) &&& ((1 : Int32)) = 0) => ?_, fun (c6 : ¬ ((cs_k1 σ (cs_kn σ (cs_bf σ j 4) r) i) >>> ((nI i) &&& 31)) &&& ((1 : Int32)) = 0) => ?_⟩
          · iterate 2 refine px_go hX ?_
            exact px_lw hw [(0, .ref (ad 0)), (1, .int (x)), (3, .int (cs_k1 σ (cs_kn σ (cs_bf σ j 4) r) (i + 1))), (4, .int (nI r)), (5, .int (nI (i + 1)))] (ih (i + 1) (by omega)) ⟨rfl, rfl, (congrArg (fun z => some (Value.int z)) (if_pos c6).symm), rfl, (congrArg (fun z => some (Value.int z)) (nI_succ _).symm), trivial⟩
          · iterate 3 refine px_go hX ?_
            refine ⟨_, _, (hR.1 _ _ (hc.2.2.2.1 i hlt)), rfl, ?_⟩
            iterate 4 refine px_go hX ?_
            exact px_lw hw [(0, .ref (ad 0)), (1, .int (x)), (3, .int (cs_k1 σ (cs_kn σ (cs_bf σ j 4) r) (i + 1))), (4, .int (nI r)), (5, .int (nI (i + 1)))] (ih (i + 1) (by omega)) ⟨rfl, rfl, (congrArg (fun z => some (Value.int z)) (if_neg c6).symm), rfl, (congrArg (fun z => some (Value.int z)) (nI_succ _).symm), trivial⟩
      exact px_lw hw [(0, .ref (ad 0)), (1, .int (x)), (3, .int (cs_k1 σ (cs_kn σ (cs_bf σ j 4) r) 0)), (4, .int (nI r)), (5, .int (nI 0))] (loopi (cs_n σ - 0) 0 (by omega)) ⟨rfl, rfl, rfl, rfl, rfl, trivial⟩
  iterate 2 refine px_go hX ?_
  refine ⟨_, _, (hR.1 _ _ (hc.2.2.2.1 j hj)), rfl, ?_⟩
  iterate 3 refine px_go hX ?_
  exact px_lw hw [(0, .ref (ad 0)), (1, .int (x)), (3, .int (cs_kn σ (cs_bf σ j 4) 0)), (4, .int (nI 0))] (loop (16 - 0) 0 (by omega)) ⟨rfl, rfl, rfl, rfl, trivial⟩
end RI
end
section
/-! The class's calls that change its state: before, box. -/
section RJ
variable {B : Nat} {sc : Option (Nat × Nat × (Nat → Int32))} {d : Nat} {ad : Nat → Nat} {σ : ck_S} {K : rp_K} {C : px_P}
def cs_nd (σ : ck_S) (k : Nat) (x : Int32) : ck_S := cs_sB σ k (fun q => match q with | 0 => cs_bf σ k 0 | 1 => cs_bf σ k 1 | 2 => cs_bf σ k 2 | 3 => cs_bf σ k 3 | _ => cs_bf σ k 4 ||| (1 <<< (x &&& 31)))
def of_before (σ : ck_S) (x y : Int32) : cs_R := match cs_xq σ x, cs_xq σ y with
  | some j, some k => if ¬ cs_bf σ j 1 = cs_bf σ k 1 ∨ ¬ (cs_bf σ j 0 = 0 ∧ ¬ cs_bf σ j 2 = 3) ∨ ¬ (cs_bf σ k 0 = 0 ∧ ¬ cs_bf σ k 2 = 3) ∨ x = y ∨ ¬ ((cs_bf σ k 4 >>> (x &&& 31)) &&& 1) = 0 ∨ ¬ ((cs_kn σ (cs_bf σ j 4) 16 >>> (y &&& 31)) &&& 1) = 0 then (0, 0, σ) else (0, 1, cs_fp (cs_nd σ k x) (cs_bf σ j 1).toNatClampNeg)
  | _, _ => (0, 0, σ)
theorem cc_before (hR : Rp ad K C) (hc : Cl ad σ K) (hB : cs_inb σ) (x y : Int32) : px_W ps_Y ps_P B sc (d + 3) 10 [.ref (ad 0), .int x, .int y] C 0 0 (px_oC ad K (of_before σ x y)) px_no := by
  have h0 := hR.1 0 _ hc.1.1
  have hn := hc.2.2.2.2.2.2.2.2.2
  have hnb := hc.2.2.2.2.2.2.1
  refine ⟨pm_Mo_before, rfl, Nat.le_of_ble_eq_true rfl, fun X hw hX => ?_⟩
  iterate 3 refine px_go hX ?_
  refine ⟨_, h0, 0, 0, _, Nat.le_of_ble_eq_true rfl, Nat.le_of_ble_eq_true rfl, Nat.le_of_ble_eq_true rfl, cc_boxAt hR hc _, ?_⟩
  rintro _ C ⟨rfl, ⟨j, hj, hx, rfl⟩ | ⟨hx, rfl⟩⟩
  · iterate 4 refine px_go hX ?_
    refine ⟨_, h0, 0, 0, _, Nat.le_of_ble_eq_true rfl, Nat.le_of_ble_eq_true rfl, Nat.le_of_ble_eq_true rfl, cc_boxAt hR hc _, ?_⟩
    rintro _ C ⟨rfl, ⟨k, hk, hy, rfl⟩ | ⟨hy, rfl⟩⟩
    · iterate 7 refine px_go hX ?_
      refine ⟨_, _, (hR.1 _ _ (hc.2.2.2.1 j hj)), rfl, ?_⟩
      iterate 2 refine px_go hX ?_
      refine ⟨_, _, (hR.1 _ _ (hc.2.2.2.1 k hk)), rfl, ?_⟩
      refine px_go hX ?_
      refine ⟨fun (c1 : cs_bf σ j 1 = cs_bf σ k 1) => ?_, fun (c1 : ¬ cs_bf σ j 1 = cs_bf σ k 1) => ?_⟩
      · iterate 2 refine px_go hX ?_
        refine ⟨_, (hR.1 _ _ (hc.2.2.2.1 j hj)), 0, 0, _, Nat.le_of_ble_eq_true rfl, Nat.le_of_ble_eq_true rfl, Nat.le_of_ble_eq_true rfl, cc_isToLeave hR hc hj, ?_⟩
        rintro _ C ⟨rfl, ⟨b2, rfl⟩ | ⟨b2, rfl⟩⟩
        · refine px_go hX ?_
          refine ⟨fun (c3 : 1 = 0) => absurd c3 (by decide), fun (c3 : ¬ 1 = 0) => ?_⟩
          iterate 2 refine px_go hX ?_
          refine ⟨_, (hR.1 _ _ (hc.2.2.2.1 k hk)), 0, 0, _, Nat.le_of_ble_eq_true rfl, Nat.le_of_ble_eq_true rfl, Nat.le_of_ble_eq_true rfl, cc_isToLeave hR hc hk, ?_⟩
          rintro _ C ⟨rfl, ⟨b4, rfl⟩ | ⟨b4, rfl⟩⟩
          · refine px_go hX ?_
            refine ⟨fun (c5 : ¬ 1 = 0) => ?_, fun (c5 : 1 = 0) => absurd c5 (by decide)⟩
            iterate 3 refine px_go hX ?_
            refine ⟨fun (c6 : x = y) => ?_, fun (c6 : ¬ x = y) => ?_⟩
            · iterate 2 refine px_go hX ?_
              have hr : of_before σ x y = (0, 0, σ) := by
                have h3 : cs_xq σ x = some j := by rw [hx]; exact cs_xq_s hc hj
                have h4 : cs_xq σ y = some k := by rw [hy]; exact cs_xq_s hc hk
                unfold of_before
                rw [h3, h4]
                exact if_pos (Or.inr (Or.inr (Or.inr (Or.inl c6))))
              rw [hr]
              exact ⟨Or.inl rfl, rfl, rfl, Ca.of hR hc⟩
            · iterate 3 refine px_go hX ?_
              refine ⟨_, (hR.1 _ _ (hc.2.2.2.1 k hk)), 0, 0, _, Nat.le_of_ble_eq_true rfl, Nat.le_of_ble_eq_true rfl, Nat.le_of_ble_eq_true rfl, cc_follows hR hc hk _, ?_⟩
              rintro _ C ⟨rfl, ⟨b7, rfl⟩ | ⟨b7, rfl⟩⟩
              · refine px_go hX ?_
                refine ⟨fun (c8 : ¬ 1 = 0) => ?_, fun (c8 : 1 = 0) => absurd c8 (by decide)⟩
                iterate 2 refine px_go hX ?_
                have hr : of_before σ x y = (0, 0, σ) := by
                  have h3 : cs_xq σ x = some j := by rw [hx]; exact cs_xq_s hc hj
                  have h4 : cs_xq σ y = some k := by rw [hy]; exact cs_xq_s hc hk
                  unfold of_before
                  rw [h3, h4]
                  exact if_pos (Or.inr (Or.inr (Or.inr (Or.inr (Or.inl b7)))))
                rw [hr]
                exact ⟨Or.inl rfl, rfl, rfl, Ca.of hR hc⟩
              · refine px_go hX ?_
                refine ⟨fun (c9 : ¬ 0 = 0) => absurd rfl c9, fun (c9 : 0 = 0) => ?_⟩
                iterate 4 refine px_go hX ?_
                refine ⟨_, h0, 0, 0, _, Nat.le_of_ble_eq_true rfl, Nat.le_of_ble_eq_true rfl, Nat.le_of_ble_eq_true rfl, cc_comesBefore hR hc hj _, ?_⟩
                rintro _ C ⟨rfl, ⟨b10, rfl⟩ | ⟨b10, rfl⟩⟩
                · refine px_go hX ?_
                  refine ⟨fun (c11 : 1 = 0) => absurd c11 (by decide), fun (c11 : ¬ 1 = 0) => ?_⟩
                  iterate 2 refine px_go hX ?_
                  have hr : of_before σ x y = (0, 0, σ) := by
                    have h3 : cs_xq σ x = some j := by rw [hx]; exact cs_xq_s hc hj
                    have h4 : cs_xq σ y = some k := by rw [hy]; exact cs_xq_s hc hk
                    unfold of_before
                    rw [h3, h4]
                    exact if_pos (Or.inr (Or.inr (Or.inr (Or.inr (Or.inr b10)))))
                  rw [hr]
                  exact ⟨Or.inl rfl, rfl, rfl, Ca.of hR hc⟩
                · refine px_go hX ?_
                  refine ⟨fun (c12 : 0 = 0) => ?_, fun (c12 : ¬ 0 = 0) => absurd rfl c12⟩
                  have hjk : j ≠ k := fun w => c6 (by rw [hx, hy, w])
                  obtain ⟨bj, hbj1, hbj⟩ := hB j hj
                  iterate 3 refine px_go hX ?_
                  refine ⟨_, _, (hR.1 _ _ (hc.2.2.2.1 k hk)), rfl, ?_⟩
                  iterate 5 refine px_go hX ?_
                  refine ⟨_, (hR.1 _ _ (hc.2.2.2.1 k hk)), Nat.le_of_ble_eq_true rfl, rfl, rfl, ?_⟩
                  have hR1 := (hR.put (i := 40 + k) (hc.2.2.2.1 k hk) (px_o 2 [.int (cs_bf σ k 0), .int (cs_bf σ k 1), .int (cs_bf σ k 2), .int (cs_bf σ k 3), .int ((cs_bf σ k 4) ||| (((1 : Int32)) <<< ((x) &&& 31)))]))
                  have hc1 : Cl ad (cs_nd σ k x) (rp_up (K) (40 + k) (px_o 2 [.int (cs_bf σ k 0), .int (cs_bf σ k 1), .int (cs_bf σ k 2), .int (cs_bf σ k 3), .int ((cs_bf σ k 4) ||| (((1 : Int32)) <<< ((x) &&& 31)))])) := by
                    exact hc.sB hk _
                  have hK1 : ∀ i, 100 ≤ i → (rp_up (K) (40 + k) (px_o 2 [.int (cs_bf σ k 0), .int (cs_bf σ k 1), .int (cs_bf σ k 2), .int (cs_bf σ k 3), .int ((cs_bf σ k 4) ||| (((1 : Int32)) <<< ((x) &&& 31)))])) i = (K) i := fun i hi => by rw [rp_up_n _ _ (by omega)]
                  iterate 3 refine px_go hX ?_
                  refine ⟨_, _, ((px_up_n _ _ (hR.ne (hc.2.2.2.1 j hj) (hc.2.2.2.1 k hk) (by omega))).trans (hR.1 _ _ (hc.2.2.2.1 j hj))), rfl, ?_⟩
                  refine px_go hX ?_
                  refine ⟨_, ((px_up_n _ _ (hR.ne hc.1.1 (hc.2.2.2.1 k hk) (by omega))).trans h0), 0, 0, _, Nat.le_of_ble_eq_true rfl, Nat.le_of_ble_eq_true rfl, Nat.le_of_ble_eq_true rfl, (by rw [show cs_bf σ j 1 = nI bj from hbj]; exact cc_forgetPlanOf hR1 hc1 hbj1), ?_⟩
                  rintro _ C ⟨rfl, K2, hR2, hc2, hK2⟩
                  iterate 2 refine px_go hX ?_
                  have hr : of_before σ x y = (0, 1, cs_fp (cs_nd σ k x) bj) := by
                    have h3 : cs_xq σ x = some j := by rw [hx]; exact cs_xq_s hc hj
                    have h4 : cs_xq σ y = some k := by rw [hy]; exact cs_xq_s hc hk
                    unfold of_before
                    rw [h3, h4]
                    refine (if_neg ?_).trans ?_
                    · rintro (q | q | q | q | q | q)
                      · exact q c1
                      · exact q b2
                      · exact q b4
                      · exact c6 q
                      · exact b7 q
                      · exact b10 q
                    · rw [hbj, nI_clamp (by omega)]
                  rw [hr]
                  exact ⟨Or.inr rfl, rfl, rfl, Ck.ca ⟨K2, hR2, hc2, fun i hi => by rw [hK2 i hi, hK1 i hi]⟩⟩
          · refine px_go hX ?_
            refine ⟨fun (c13 : ¬ 0 = 0) => absurd rfl c13, fun (c13 : 0 = 0) => ?_⟩
            iterate 2 refine px_go hX ?_
            have hr : of_before σ x y = (0, 0, σ) := by
              have h3 : cs_xq σ x = some j := by rw [hx]; exact cs_xq_s hc hj
              have h4 : cs_xq σ y = some k := by rw [hy]; exact cs_xq_s hc hk
              unfold of_before
              rw [h3, h4]
              exact if_pos (Or.inr (Or.inr (Or.inl b4)))
            rw [hr]
            exact ⟨Or.inl rfl, rfl, rfl, Ca.of hR hc⟩
        · refine px_go hX ?_
          refine ⟨fun (c14 : 0 = 0) => ?_, fun (c14 : ¬ 0 = 0) => absurd rfl c14⟩
          iterate 2 refine px_go hX ?_
          have hr : of_before σ x y = (0, 0, σ) := by
            have h3 : cs_xq σ x = some j := by rw [hx]; exact cs_xq_s hc hj
            have h4 : cs_xq σ y = some k := by rw [hy]; exact cs_xq_s hc hk
            unfold of_before
            rw [h3, h4]
            exact if_pos (Or.inr (Or.inl b2))
          rw [hr]
          exact ⟨Or.inl rfl, rfl, rfl, Ca.of hR hc⟩
      · iterate 2 refine px_go hX ?_
        have hr : of_before σ x y = (0, 0, σ) := by
          have h3 : cs_xq σ x = some j := by rw [hx]; exact cs_xq_s hc hj
          have h4 : cs_xq σ y = some k := by rw [hy]; exact cs_xq_s hc hk
          unfold of_before
          rw [h3, h4]
          exact if_pos (Or.inl c1)
        rw [hr]
        exact ⟨Or.inl rfl, rfl, rfl, Ca.of hR hc⟩
    · iterate 7 refine px_go hX ?_
      have hr : of_before σ x y = (0, 0, σ) := by
        unfold of_before
        rw [hx, cs_xq_s hc hj, cs_xq_n hy]
      rw [hr]
      exact ⟨Or.inl rfl, rfl, rfl, Ca.of hR hc⟩
  · iterate 4 refine px_go hX ?_
    refine ⟨_, h0, 0, 0, _, Nat.le_of_ble_eq_true rfl, Nat.le_of_ble_eq_true rfl, Nat.le_of_ble_eq_true rfl, cc_boxAt hR hc _, ?_⟩
    rintro _ C ⟨rfl, ⟨k, hk, hy, rfl⟩ | ⟨hy, rfl⟩⟩
    · iterate 5 refine px_go hX ?_
      have hr : of_before σ x y = (0, 0, σ) := by
        unfold of_before
        rw [cs_xq_n hx]
      rw [hr]
      exact ⟨Or.inl rfl, rfl, rfl, Ca.of hR hc⟩
    · iterate 5 refine px_go hX ?_
      have hr : of_before σ x y = (0, 0, σ) := by
        unfold of_before
        rw [cs_xq_n hx]
      rw [hr]
      exact ⟨Or.inl rfl, rfl, rfl, Ca.of hR hc⟩
theorem px_up_up (C : px_P) (a : Nat) (e1 e2 : px_E) : px_up (px_up C a e1) a e2 = px_up C a e2 := by
  funext j
  unfold px_up
  by_cases h : j = a
  · rw [if_pos h, if_pos h]
  · rw [if_neg h, if_neg h, if_neg h]
theorem px_nq {C : px_P} {a q : Nat} {e : px_E} (h : C a = some e) (hq : C q = none) : a ≠ q := fun w => by rw [w, hq] at h; cases h
theorem cc_Box_init {q : Nat} {v0 v1 v2 v3 v4 : Int32} (hq : C q = some (px_o 2 [.int v0, .int v1, .int v2, .int v3, .int v4])) (x y z t : Int32) : px_W ps_Y ps_P B sc (d + 2) 14 [.ref q, .int x, .int y, .int z, .int t] C 0 0 (fun v C' => v = none ∧ C' = px_up C q (px_o 2 [.int x, .int y, .int z, .int t, .int 0])) px_no := by
  refine ⟨pm_Box_init, rfl, Nat.le_of_ble_eq_true rfl, fun X hw hX => ?_⟩
  iterate 2 refine px_go hX ?_
  refine ⟨Nat.le_of_ble_eq_true rfl, ?_⟩
  iterate 3 refine px_go hX ?_
  refine ⟨_, hq, Nat.le_of_ble_eq_true rfl, rfl, rfl, ?_⟩
  iterate 3 refine px_go hX ?_
  refine ⟨_, (px_up_s _ _ _), Nat.le_of_ble_eq_true rfl, rfl, rfl, ?_⟩
  iterate 3 refine px_go hX ?_
  refine ⟨_, (px_up_s _ _ _), Nat.le_of_ble_eq_true rfl, rfl, rfl, ?_⟩
  iterate 3 refine px_go hX ?_
  refine ⟨_, (px_up_s _ _ _), Nat.le_of_ble_eq_true rfl, rfl, rfl, ?_⟩
  iterate 3 refine px_go hX ?_
  refine ⟨_, (px_up_s _ _ _), Nat.le_of_ble_eq_true rfl, rfl, rfl, ?_⟩
  refine px_go hX ?_
  exact ⟨rfl, by rw [px_up_up, px_up_up, px_up_up, px_up_up]; rfl⟩
def cs_nw (σ : ck_S) (f : Nat → Int32) : ck_S := ((cs_nb σ, cs_ti σ, cs_n σ + 1), σ.2.1, va_up (cs_bf σ) (cs_n σ) f, σ.2.2.2)
theorem Cl.new (h : Cl ad σ K) (hn : cs_n σ < 16) (f : Nat → Int32) (q : Nat) : Cl (va_up ad (40 + cs_n σ) q) (cs_nw σ f) (rp_up (rp_up (rp_up K (40 + cs_n σ) (px_o 2 [.int (f 0), .int (f 1), .int (f 2), .int (f 3), .int (f 4)])) 2 (px_r 4 16 (va_up (fun j => if j < cs_n σ then some (ad (40 + j)) else none) (cs_n σ) (some q)))) 0 (px_o 0 [.int (nI (cs_ti σ)), .ref (ad 1), .ref (ad 2), .ref (ad 3), .int (nI (cs_n σ + 1)), .int (cs_mw σ), .int (cs_lg σ)])) := by
  obtain ⟨⟨a0, a1, a2, a3⟩, ⟨b4, b5, b6, b7, b8, b9, b10, b11⟩, hy, hx, hz, q1, q2, q3, q4, q5⟩ := h
  have hne : ∀ i, i < 40 → va_up ad (40 + cs_n σ) q i = ad i := fun i hi => va_up_ne _ _ (by omega)
  have up : ∀ i e, i ≠ 0 → i ≠ 2 → i < 40 → K i = some e → rp_up (rp_up (rp_up K (40 + cs_n σ) (px_o 2 [.int (f 0), .int (f 1), .int (f 2), .int (f 3), .int (f 4)])) 2 (px_r 4 16 (va_up (fun j => if j < cs_n σ then some (ad (40 + j)) else none) (cs_n σ) (some q)))) 0 (px_o 0 [.int (nI (cs_ti σ)), .ref (ad 1), .ref (ad 2), .ref (ad 3), .int (nI (cs_n σ + 1)), .int (cs_mw σ), .int (cs_lg σ)]) i = some e := fun i e h0 h2 h4 h => by
    rw [rp_up_n _ _ h0, rp_up_n _ _ h2, rp_up_n _ _ (by omega)]
    exact h
  refine ⟨⟨?_, ?_, ?_, ?_⟩, ⟨up 4 _ (by omega) (by omega) (by omega) b4, up 5 _ (by omega) (by omega) (by omega) b5, up 6 _ (by omega) (by omega) (by omega) b6, up 7 _ (by omega) (by omega) (by omega) b7, up 8 _ (by omega) (by omega) (by omega) b8, up 9 _ (by omega) (by omega) (by omega) b9, up 10 _ (by omega) (by omega) (by omega) b10, up 11 _ (by omega) (by omega) (by omega) b11⟩, fun c hc => ?_, fun j hj => ?_, fun j hj hj2 => ?_, q1, q2, q3, q4, hn⟩
  · rw [rp_up_s]
    show _ = some (px_o 0 [_, .ref (va_up ad (40 + cs_n σ) q 1), .ref (va_up ad (40 + cs_n σ) q 2), .ref (va_up ad (40 + cs_n σ) q 3), _, _, _])
    rw [hne 1 (by omega), hne 2 (by omega), hne 3 (by omega)]
    rfl
  · rw [up 1 _ (by omega) (by omega) (by omega) a1]
    exact congrArg (fun z => some (px_r 3 (cs_nb σ) z)) (funext fun b => by
      show _ = if b < cs_nb σ then some (va_up ad (40 + cs_n σ) q (20 + 4 * b)) else none
      by_cases h : b < cs_nb σ
      · rw [if_pos h, if_pos h, va_up_ne _ _ (by omega)]
      · rw [if_neg h, if_neg h])
  · rw [rp_up_n _ _ (by omega), rp_up_s]
    refine congrArg (fun z => some (px_r 4 16 z)) (funext fun j => ?_)
    show _ = if j < cs_n σ + 1 then some (va_up ad (40 + cs_n σ) q (40 + j)) else none
    by_cases h1 : j = cs_n σ
    · subst h1
      rw [va_up_self, va_up_self, if_pos (by omega)]
    · rw [va_up_ne _ _ h1]
      by_cases h2 : j < cs_n σ
      · rw [if_pos h2, if_pos (by omega), va_up_ne _ _ (by omega)]
      · rw [if_neg h2, if_neg (by omega)]
  · rw [up 3 _ (by omega) (by omega) (by omega) a3]
    show _ = some (px_o 3 [_, .ref (va_up ad (40 + cs_n σ) q 4), .ref (va_up ad (40 + cs_n σ) q 5), .ref (va_up ad (40 + cs_n σ) q 6), .ref (va_up ad (40 + cs_n σ) q 7), .ref (va_up ad (40 + cs_n σ) q 8), .ref (va_up ad (40 + cs_n σ) q 9), .ref (va_up ad (40 + cs_n σ) q 10), .ref (va_up ad (40 + cs_n σ) q 11), _, _, _, _, _])
    rw [hne 4 (by omega), hne 5 (by omega), hne 6 (by omega), hne 7 (by omega), hne 8 (by omega), hne 9 (by omega), hne 10 (by omega), hne 11 (by omega)]
    rfl
  · have hc : c < cs_nb σ := hc
    obtain ⟨y0, y1, y2, y3⟩ := hy c hc
    refine ⟨?_, up _ _ (by omega) (by omega) (by omega) y1, up _ _ (by omega) (by omega) (by omega) y2, up _ _ (by omega) (by omega) (by omega) y3⟩
    rw [up _ _ (by omega) (by omega) (by omega) y0]
    show _ = some (px_o 1 [.ref (va_up ad (40 + cs_n σ) q (21 + 4 * c)), .ref (va_up ad (40 + cs_n σ) q (22 + 4 * c)), .ref (va_up ad (40 + cs_n σ) q (23 + 4 * c)), _, _, _, _])
    rw [hne (21 + 4 * c) (by omega), hne (22 + 4 * c) (by omega), hne (23 + 4 * c) (by omega)]
    rfl
  · have hj : j < cs_n σ + 1 := hj
    show _ = some (px_o 2 [.int (va_up (cs_bf σ) (cs_n σ) f j 0), .int (va_up (cs_bf σ) (cs_n σ) f j 1), .int (va_up (cs_bf σ) (cs_n σ) f j 2), .int (va_up (cs_bf σ) (cs_n σ) f j 3), .int (va_up (cs_bf σ) (cs_n σ) f j 4)])
    rw [rp_up_n _ _ (by omega), rp_up_n _ _ (by omega)]
    by_cases h1 : j = cs_n σ
    · subst h1
      rw [rp_up_s, va_up_self]
    · rw [rp_up_n _ _ (by omega), va_up_ne _ _ h1]
      exact hx j (by omega)
  · have hj : cs_n σ + 1 ≤ j := hj
    rw [rp_up_n _ _ (by omega), rp_up_n _ _ (by omega), rp_up_n _ _ (by omega)]
    exact hz j (by omega) hj2
def cs_bin (σ : ck_S) (x : Int32) : Int32 := nI (pn_ct (fun j => decide (cs_bf σ j 1 = x ∧ ¬ cs_bf σ j 2 = 3)) (cs_n σ))
def of_box (σ : ck_S) (x y z : Int32) : cs_R := match cs_bq σ x with
  | none => (1, 0, σ)
  | some b => if y < 0 ∨ 3 ≤ y ∨ z < 0 ∨ ¬ z ≤ 5 then (1, 0, σ) else if 16 ≤ nI (cs_n σ) ∨ 4 ≤ cs_bin σ x ∨ ¬ cs_hgt σ x y < nI (cs_ti σ) then (2, 0, σ) else (0, nI (cs_n σ), cs_fp (cs_nw σ (fun q => match q with | 0 => z | 1 => x | 2 => y | 3 => cs_hgt σ x y | _ => 0)) b)
theorem cc_boxM (hR : Rp ad K C) (hc : Cl ad σ K) (x y z : Int32) : px_W ps_Y ps_P B sc (d + 3) 15 [.ref (ad 0), .int x, .int y, .int z] C 1 6 (px_oC ad K (of_box σ x y z)) (px_oT ad K (of_box σ x y z)) := by
  have h0 := hR.1 0 _ hc.1.1
  have hn := hc.2.2.2.2.2.2.2.2.2
  have h2 := hR.1 2 _ hc.1.2.2.1
  have hnb := hc.2.2.2.2.2.2.1
  refine ⟨pm_Mo_box, rfl, Nat.le_of_ble_eq_true rfl, fun X hw hX => ?_⟩
  iterate 3 refine px_go hX ?_
  refine ⟨_, h0, 0, 0, _, Nat.le_of_ble_eq_true rfl, Nat.le_of_ble_eq_true rfl, Nat.le_of_ble_eq_true rfl, cc_bayAt hR hc _, ?_⟩
  rintro _ C ⟨rfl, ⟨b, hb, hx, rfl⟩ | ⟨hx, rfl⟩⟩
  · iterate 5 refine px_go hX ?_
    refine ⟨fun (c1 : y < 0) => ?_, fun (c1 : ¬ y < 0) => ?_⟩
    · refine px_go hX ?_
      have hr : of_box σ x y z = (1, 0, σ) := by
        unfold of_box
        rw [show cs_bq σ x = some b from by rw [hx]; exact cs_bq_s hc hb]
        exact if_pos (Or.inl c1)
      refine ⟨Nat.le_refl 1, Nat.le_refl 6, rfl, ?_⟩
      rw [hr]
      exact ⟨Or.inl ⟨rfl, rfl⟩, Ca.of hR hc⟩
    · iterate 3 refine px_go hX ?_
      refine ⟨fun (c2 : (3 : Int32) ≤ y) => ?_, fun (c2 : ¬ (3 : Int32) ≤ y) => ?_⟩
      · refine px_go hX ?_
        have hr : of_box σ x y z = (1, 0, σ) := by
          unfold of_box
          rw [show cs_bq σ x = some b from by rw [hx]; exact cs_bq_s hc hb]
          exact if_pos (Or.inr (Or.inl c2))
        refine ⟨Nat.le_refl 1, Nat.le_refl 6, rfl, ?_⟩
        rw [hr]
        exact ⟨Or.inl ⟨rfl, rfl⟩, Ca.of hR hc⟩
      · iterate 2 refine px_go hX ?_
        refine ⟨fun (c3 : z < 0) => ?_, fun (c3 : ¬ z < 0) => ?_⟩
        · refine px_go hX ?_
          have hr : of_box σ x y z = (1, 0, σ) := by
            unfold of_box
            rw [show cs_bq σ x = some b from by rw [hx]; exact cs_bq_s hc hb]
            exact if_pos (Or.inr (Or.inr (Or.inl c3)))
          refine ⟨Nat.le_refl 1, Nat.le_refl 6, rfl, ?_⟩
          rw [hr]
          exact ⟨Or.inl ⟨rfl, rfl⟩, Ca.of hR hc⟩
        · iterate 3 refine px_go hX ?_
          refine ⟨fun (c4 : z ≤ (5 : Int32)) => ?_, fun (c4 : ¬ z ≤ (5 : Int32)) => ?_⟩
          · iterate 4 refine px_go hX ?_
            refine ⟨_, h0, 0, 0, _, Nat.le_of_ble_eq_true rfl, Nat.le_of_ble_eq_true rfl, Nat.le_of_ble_eq_true rfl, cc_heightOf hR hc _ _, ?_⟩
            rintro _ C ⟨rfl, rfl⟩
            iterate 3 refine px_go hX ?_
            refine ⟨_, _, h0, rfl, ?_⟩
            iterate 2 refine px_go hX ?_
            refine ⟨fun (c5 : (16 : Int32) ≤ nI (cs_n σ)) => ?_, fun (c5 : ¬ (16 : Int32) ≤ nI (cs_n σ)) => ?_⟩
            · refine px_go hX ?_
              have hr : of_box σ x y z = (2, 0, σ) := by
                unfold of_box
                rw [show cs_bq σ x = some b from by rw [hx]; exact cs_bq_s hc hb]
                exact (if_neg (fun q => q.elim c1 (fun q => q.elim c2 (fun q => q.elim c3 (fun q => q c4))))).trans (if_pos (Or.inl c5))
              refine ⟨Nat.le_refl 1, Nat.le_refl 6, rfl, ?_⟩
              rw [hr]
              exact ⟨Or.inr (Or.inl ⟨rfl, rfl⟩), Ca.of hR hc⟩
            · iterate 3 refine px_go hX ?_
              refine ⟨_, h0, 0, 0, _, Nat.le_of_ble_eq_true rfl, Nat.le_of_ble_eq_true rfl, Nat.le_of_ble_eq_true rfl, cc_boxesIn hR hc _, ?_⟩
              rintro _ C ⟨rfl, rfl⟩
              iterate 2 refine px_go hX ?_
              refine ⟨fun (c6 : (4 : Int32) ≤ cs_bin σ x) => ?_, fun (c6 : ¬ (4 : Int32) ≤ cs_bin σ x) => ?_⟩
              · refine px_go hX ?_
                have hr : of_box σ x y z = (2, 0, σ) := by
                  unfold of_box
                  rw [show cs_bq σ x = some b from by rw [hx]; exact cs_bq_s hc hb]
                  exact (if_neg (fun q => q.elim c1 (fun q => q.elim c2 (fun q => q.elim c3 (fun q => q c4))))).trans (if_pos (Or.inr (Or.inl c6)))
                refine ⟨Nat.le_refl 1, Nat.le_refl 6, rfl, ?_⟩
                rw [hr]
                exact ⟨Or.inr (Or.inl ⟨rfl, rfl⟩), Ca.of hR hc⟩
              · iterate 3 refine px_go hX ?_
                refine ⟨_, _, h0, rfl, ?_⟩
                refine px_go hX ?_
                refine ⟨fun (c7 : cs_hgt σ x y < nI (cs_ti σ)) => ?_, fun (c7 : ¬ cs_hgt σ x y < nI (cs_ti σ)) => ?_⟩
                · have hlt : cs_n σ < 16 := by
                    rcases Nat.lt_or_ge (cs_n σ) 16 with h | h
                    · exact h
                    · exact absurd (nI_le h (by omega) : nI 16 ≤ nI (cs_n σ)) c5
                  iterate 2 refine px_go hX ?_
                  refine ⟨_, _, h0, rfl, ?_⟩
                  iterate 3 refine px_go hX ?_
                  refine ⟨_, _, h0, rfl, ?_⟩
                  iterate 2 refine px_go hX ?_
                  refine ⟨Nat.le_of_ble_eq_true rfl, Nat.le_of_ble_eq_true rfl, fun q1 hq1n hq1b => ?_⟩
                  iterate 6 refine px_go hX ?_
                  refine ⟨0, 0, _, Nat.le_of_ble_eq_true rfl, Nat.le_of_ble_eq_true rfl, Nat.le_of_ble_eq_true rfl, cc_Box_init (px_up_s _ _ _) _ _ _ _, ?_⟩
                  rintro _ C ⟨rfl, rfl⟩
                  rw [px_up_up]
                  refine px_go hX ?_
                  refine ⟨_, _, _, _, ((px_up_n _ _ (px_nq h2 hq1n)).trans h2), ⟨Nat.le_of_ble_eq_true rfl, Nat.le_of_ble_eq_true rfl⟩, vp_in_nI hlt (by omega), (px_up_s _ _ _), ?_⟩
                  rw [nI_clamp (by omega)]
                  iterate 3 refine px_go hX ?_
                  refine ⟨_, _, ((px_up_n _ _ (hR.ne hc.1.1 hc.1.2.2.1 (by omega))).trans ((px_up_n _ _ (px_nq h0 hq1n)).trans h0)), rfl, ?_⟩
                  iterate 3 refine px_go hX ?_
                  refine ⟨_, ((px_up_n _ _ (hR.ne hc.1.1 hc.1.2.2.1 (by omega))).trans ((px_up_n _ _ (px_nq h0 hq1n)).trans h0)), Nat.le_of_ble_eq_true rfl, rfl, rfl, ?_⟩
                  have hR1 := ((hR.new (hc.2.2.2.2.1 _ (Nat.le_refl _) hlt) hq1n (px_o 2 [.int z, .int x, .int y, .int (cs_hgt σ x y), .int 0])).put (i := 2) ((rp_up_n _ _ (by omega)).trans hc.1.2.2.1) (px_r 4 16 (va_up (fun j => if j < cs_n σ then some (ad (40 + j)) else none) (cs_n σ) (some q1)))).put (i := 0) ((rp_up_n _ _ (by omega)).trans ((rp_up_n _ _ (by omega)).trans hc.1.1)) (px_o 0 [.int (nI (cs_ti σ)), .ref (ad 1), .ref (ad 2), .ref (ad 3), .int (nI (cs_n σ + 1)), .int (cs_mw σ), .int (cs_lg σ)])
                  rw [show va_up ad (40 + cs_n σ) q1 2 = ad 2 from va_up_ne _ _ (by omega), show va_up ad (40 + cs_n σ) q1 0 = ad 0 from va_up_ne _ _ (by omega), nI_succ] at hR1
                  have hc1 := hc.new hlt (fun q => match q with | 0 => z | 1 => x | 2 => y | 3 => cs_hgt σ x y | _ => 0) q1
                  rw [nI_succ] at hc1
                  iterate 2 refine px_go hX ?_
                  refine ⟨_, ((px_up_n _ _ (hR.ne (hc.2.2.1 b hb).1 hc.1.1 (by omega))).trans ((px_up_n _ _ (hR.ne (hc.2.2.1 b hb).1 hc.1.2.2.1 (by omega))).trans ((px_up_n _ _ (px_nq (hR.1 _ _ (hc.2.2.1 b hb).1) hq1n)).trans (hR.1 _ _ (hc.2.2.1 b hb).1)))), 0, 0, _, Nat.le_of_ble_eq_true rfl, Nat.le_of_ble_eq_true rfl, Nat.le_of_ble_eq_true rfl, (by rw [← show va_up ad (40 + cs_n σ) q1 (20 + 4 * b) = ad (20 + 4 * b) from va_up_ne _ _ (by omega)]; exact cc_forgetPlan hR1 hc1 hb), ?_⟩
                  rintro _ C ⟨rfl, K2, hR2, hc2, hK2⟩
                  iterate 2 refine px_go hX ?_
                  have hr : of_box σ x y z = (0, nI (cs_n σ), cs_fp (cs_nw σ (fun q => match q with | 0 => z | 1 => x | 2 => y | 3 => cs_hgt σ x y | _ => 0)) b) := by
                    unfold of_box
                    rw [show cs_bq σ x = some b from by rw [hx]; exact cs_bq_s hc hb]
                    exact (if_neg (fun q => q.elim c1 (fun q => q.elim c2 (fun q => q.elim c3 (fun q => q c4))))).trans (if_neg (fun q => q.elim c5 (fun q => q.elim c6 (fun q => q c7))))
                  rw [hr]
                  exact ⟨rfl, rfl, ⟨_, K2, hR2, hc2, fun i hi => ⟨(hK2 i hi).trans (by rw [rp_up_n _ _ (by omega), rp_up_n _ _ (by omega), rp_up_n _ _ (by omega)]), va_up_ne _ _ (by omega)⟩, va_up_ne _ _ (by omega)⟩⟩
                · refine px_go hX ?_
                  have hr : of_box σ x y z = (2, 0, σ) := by
                    unfold of_box
                    rw [show cs_bq σ x = some b from by rw [hx]; exact cs_bq_s hc hb]
                    exact (if_neg (fun q => q.elim c1 (fun q => q.elim c2 (fun q => q.elim c3 (fun q => q c4))))).trans (if_pos (Or.inr (Or.inr c7)))
                  refine ⟨Nat.le_refl 1, Nat.le_refl 6, rfl, ?_⟩
                  rw [hr]
                  exact ⟨Or.inr (Or.inl ⟨rfl, rfl⟩), Ca.of hR hc⟩
          · refine px_go hX ?_
            have hr : of_box σ x y z = (1, 0, σ) := by
              unfold of_box
              rw [show cs_bq σ x = some b from by rw [hx]; exact cs_bq_s hc hb]
              exact if_pos (Or.inr (Or.inr (Or.inr c4)))
            refine ⟨Nat.le_refl 1, Nat.le_refl 6, rfl, ?_⟩
            rw [hr]
            exact ⟨Or.inl ⟨rfl, rfl⟩, Ca.of hR hc⟩
  · iterate 4 refine px_go hX ?_
    have hr : of_box σ x y z = (1, 0, σ) := by
      unfold of_box
      rw [cs_bq_n hx]
    refine ⟨Nat.le_refl 1, Nat.le_refl 6, rfl, ?_⟩
    rw [hr]
    exact ⟨Or.inl ⟨rfl, rfl⟩, Ca.of hR hc⟩
end RJ
end
section
/-! The search's cells; its codes: four bits for each box. -/
def ck_sz (k : Nat) : Nat := match k with | 0 => 4 | 1 => 4 | 2 => 3 | 3 => 3 | _ => 1240
theorem Cl.sSi {ad : Nat → Nat} {σ : ck_S} {K : rp_K} (h : Cl ad σ K) (f : Nat → Int32) : Cl ad (cs_sSi σ f) (rp_up K 3 (px_o 3 [.int (nI (cs_ti σ)), .ref (ad 4), .ref (ad 5), .ref (ad 6), .ref (ad 7), .ref (ad 8), .ref (ad 9), .ref (ad 10), .ref (ad 11), .int (f 0), .int (f 1), .int (f 2), .int (f 3), .int (f 4)])) := by
  obtain ⟨⟨a0, a1, a2, a3⟩, ⟨b4, b5, b6, b7, b8, b9, b10, b11⟩, hy, hx, hn, q1, q2, q3, q4, q5⟩ := h
  refine ⟨⟨?_, ?_, ?_, rp_up_s _ _ _⟩, ⟨?_, ?_, ?_, ?_, ?_, ?_, ?_, ?_⟩, fun c hc => ?_, fun j hj => ?_, fun j hj hj2 => ?_, q1, q2, q3, q4, q5⟩
  iterate 11 (first | (rw [rp_up_n K _ (by omega)]; assumption))
  · have hc : c < cs_nb σ := hc
    obtain ⟨y0, y1, y2, y3⟩ := hy c hc
    exact ⟨by rw [rp_up_n K _ (by omega)]; exact y0, by rw [rp_up_n K _ (by omega)]; exact y1, by rw [rp_up_n K _ (by omega)]; exact y2, by rw [rp_up_n K _ (by omega)]; exact y3⟩
  · have hj : j < cs_n σ := hj
    rw [rp_up_n K _ (by omega)]
    exact hx j hj
  · rw [rp_up_n K _ (by omega)]
    exact hn j hj hj2
theorem Cl.sSn {ad : Nat → Nat} {σ : ck_S} {K : rp_K} (h : Cl ad σ K) (g : Nat → Int64) : Cl ad (cs_sSn σ g) (rp_up K 11 (px_j 1024 g)) := by
  obtain ⟨⟨a0, a1, a2, a3⟩, ⟨b4, b5, b6, b7, b8, b9, b10, b11⟩, hy, hx, hn, q1, q2, q3, q4, q5⟩ := h
  refine ⟨⟨?_, ?_, ?_, ?_⟩, ⟨?_, ?_, ?_, ?_, ?_, ?_, ?_, rp_up_s _ _ _⟩, fun c hc => ?_, fun j hj => ?_, fun j hj hj2 => ?_, q1, q2, q3, q4, q5⟩
  iterate 11 (first | (rw [rp_up_n K _ (by omega)]; assumption))
  · have hc : c < cs_nb σ := hc
    obtain ⟨y0, y1, y2, y3⟩ := hy c hc
    exact ⟨by rw [rp_up_n K _ (by omega)]; exact y0, by rw [rp_up_n K _ (by omega)]; exact y1, by rw [rp_up_n K _ (by omega)]; exact y2, by rw [rp_up_n K _ (by omega)]; exact y3⟩
  · have hj : j < cs_n σ := hj
    rw [rp_up_n K _ (by omega)]
    exact hx j hj
  · rw [rp_up_n K _ (by omega)]
    exact hn j hj hj2
theorem Cl.sSa {ad : Nat → Nat} {σ : ck_S} {K : rp_K} (h : Cl ad σ K) {k : Nat} (hk : k < 7) (g : Nat → Int32) : Cl ad (cs_sSa σ k g) (rp_up K (4 + k) (px_i (ck_sz k) g)) := by
  obtain ⟨⟨a0, a1, a2, a3⟩, ⟨b4, b5, b6, b7, b8, b9, b10, b11⟩, hy, hx, hn, q1, q2, q3, q4, q5⟩ := h
  have key : ∀ m, K (4 + m) = some (px_i (ck_sz m) (cs_sa σ m)) → rp_up K (4 + k) (px_i (ck_sz k) g) (4 + m) = some (px_i (ck_sz m) (va_up (cs_sa σ) k g m)) := by
    intro m hm
    by_cases h : m = k
    · subst h
      rw [rp_up_s, va_up_self]
    · rw [rp_up_n K _ (by omega), va_up_ne _ _ h]
      exact hm
  refine ⟨⟨?_, ?_, ?_, ?_⟩, ⟨key 0 b4, key 1 b5, key 2 b6, key 3 b7, key 4 b8, key 5 b9, key 6 b10, ?_⟩, fun c hc => ?_, fun j hj => ?_, fun j hj hj2 => ?_, q1, q2, q3, q4, q5⟩
  iterate 5 (first | (rw [rp_up_n K _ (by omega)]; assumption))
  · have hc : c < cs_nb σ := hc
    obtain ⟨y0, y1, y2, y3⟩ := hy c hc
    exact ⟨by rw [rp_up_n K _ (by omega)]; exact y0, by rw [rp_up_n K _ (by omega)]; exact y1, by rw [rp_up_n K _ (by omega)]; exact y2, by rw [rp_up_n K _ (by omega)]; exact y3⟩
  · have hj : j < cs_n σ := hj
    rw [rp_up_n K _ (by omega)]
    exact hx j hj
  · rw [rp_up_n K _ (by omega)]
    exact hn j hj hj2
/-- the place of box k in a code; the code with another place there -/
def pl (c k : Nat) : Nat := c / 2 ^ (4 * k) % 2 ^ 4
def wp (c k p : Nat) : Nat := (c &&& (65535 - 15 * 2 ^ (4 * k))) ||| (p * 2 ^ (4 * k))
theorem pl_lt (c k : Nat) : pl c k < 16 := Nat.mod_lt _ (by decide)
theorem ie_pl {c k : Nat} (hc : c < 65536) (hk : k < 4) : (nI c >>> ((nI k * 4) &&& 31)) &&& 15 = nI (pl c k) := by
  have h31 : c < 2 ^ 31 := by omega
  have key : ∀ s : Int32, (s.toBitVec.smod 32).toNat = 4 * k → (nI c >>> s) &&& 15 = nI (pl c k) := fun s hs => by
    rw [pk_shrN h31 s (4 * k) hs, pk_andN (Nat.lt_of_le_of_lt (Nat.div_le_self _ _) (by omega)) 4 (by decide +kernel)]
    rfl
  match k, hk with
  | 0, _ => exact key _ (by decide +kernel)
  | 1, _ => exact key _ (by decide +kernel)
  | 2, _ => exact key _ (by decide +kernel)
  | 3, _ => exact key _ (by decide +kernel)
theorem nI_or (a b : Nat) : nI a ||| nI b = nI (a ||| b) := Int32.toBitVec_inj.mp (BitVec.eq_of_toNat_eq (by
  show (BitVec.ofNat 32 a ||| BitVec.ofNat 32 b).toNat = (BitVec.ofNat 32 (a ||| b)).toNat
  rw [BitVec.toNat_or, BitVec.toNat_ofNat, BitVec.toNat_ofNat, BitVec.toNat_ofNat, Nat.or_mod_two_pow]))
theorem nI_andc {c : Nat} (hc : c < 65536) (m : Int32) (M : Nat) (hm : m.toBitVec.toNat % 2 ^ 16 = M) : nI c &&& m = nI (c &&& M) := Int32.toBitVec_inj.mp (BitVec.eq_of_toNat_eq (by
  show (BitVec.ofNat 32 c &&& m.toBitVec).toNat = (BitVec.ofNat 32 (c &&& M)).toNat
  have h1 : c % 2 ^ 16 = c := Nat.mod_eq_of_lt hc
  have h2 : c &&& m.toBitVec.toNat = c &&& M := by
    rw [← hm]
    apply Nat.eq_of_testBit_eq
    intro i
    rw [Nat.testBit_and, Nat.testBit_and, Nat.testBit_mod_two_pow]
    by_cases hi : i < 16
    · simp [hi]
    · have : c.testBit i = false := Nat.testBit_lt_two_pow (Nat.lt_of_lt_of_le hc (show 2 ^ 16 ≤ 2 ^ i from Nat.pow_le_pow_right (by decide) (by omega)))
      simp [this]
  rw [BitVec.toNat_and, BitVec.toNat_ofNat, BitVec.toNat_ofNat, Nat.mod_eq_of_lt (by omega : c < 2 ^ 32), h2, Nat.mod_eq_of_lt (Nat.lt_of_le_of_lt Nat.and_le_left (by omega))]))
theorem ie_wp {c k p : Nat} (hc : c < 65536) (hk : k < 4) (hp : p < 16) : (nI c &&& ((15 <<< ((nI k * 4) &&& 31)) ^^^ (-1))) ||| (nI p <<< ((nI k * 4) &&& 31)) = nI (wp c k p) := by
  have key : ∀ s m : Int32, (s.toBitVec.smod 32).toNat = 4 * k → m.toBitVec.toNat % 2 ^ 16 = 65535 - 15 * 2 ^ (4 * k) → p * 2 ^ (4 * k) < 2 ^ 32 → (nI c &&& m) ||| (nI p <<< s) = nI (wp c k p) := fun s m hs hm hlt => by
    rw [nI_andc hc m _ hm, pk_shlN s (4 * k) hs hlt, nI_or]
    rfl
  match k, hk with
  | 0, _ => exact key _ _ (by decide +kernel) (by decide +kernel) (by omega)
  | 1, _ => exact key _ _ (by decide +kernel) (by decide +kernel) (by omega)
  | 2, _ => exact key _ _ (by decide +kernel) (by decide +kernel) (by omega)
  | 3, _ => exact key _ _ (by decide +kernel) (by decide +kernel) (by omega)
theorem ie_st : ∀ k, k < 4 → ∀ f, f < 7 → ∀ t, t < 5 → (nI k <<< ((6 : Int32) &&& 31)) ||| (nI f <<< ((3 : Int32) &&& 31)) ||| nI t = nI (64 * k + 8 * f + t) := by decide +kernel
theorem wp_lt {c k p : Nat} (hc : c < 65536) (hk : k < 4) (hp : p < 16) : wp c k p < 65536 := by
  unfold wp
  have h1 : c &&& (65535 - 15 * 2 ^ (4 * k)) < 2 ^ 16 := Nat.lt_of_le_of_lt Nat.and_le_left hc
  have h2 : p * 2 ^ (4 * k) < 2 ^ 16 := by
    match k, hk with
    | 0, _ => omega
    | 1, _ => omega
    | 2, _ => omega
    | 3, _ => omega
  exact Nat.or_lt_two_pow h1 h2
end
section
/-! The search's small methods. -/
def en (lv : Nat → Bool) (c : Nat) : Nat → Bool
  | 0 => true
  | k + 1 => en lv c k && (!(pl c k == 13) && (!lv k || pl c k == 12))
def mgj (nd : Nat → Nat → Bool) (c k : Nat) : Nat → Bool
  | 0 => true
  | j + 1 => mgj nd c k j && (!nd k j || pl c j == 12)
def hs (c s : Nat) : Nat → Nat
  | 0 => 0
  | k + 1 => if pl c k / 4 = s ∧ hs c s k ≤ pl c k % 4 then pl c k % 4 + 1 else hs c s k
def tp (c s : Nat) : Nat → Nat
  | 0 => 0
  | k + 1 => if pl c k / 4 = s ∧ hs c s k ≤ pl c k % 4 then k + 1 else tp c s k
theorem hs_le (c s : Nat) : ∀ n, hs c s n ≤ 4
  | 0 => by unfold hs; omega
  | n + 1 => by
    unfold hs
    split
    · omega
    · exact hs_le c s n
def cs_lv (σ : ck_S) (k : Nat) : Bool := !decide ((cs_si σ 1 >>> (nI k &&& 31)) &&& 1 = 0)
def cs_ndk (σ : ck_S) (k j : Nat) : Bool := !decide ((cs_sa σ 1 k >>> (cs_sa σ 0 j &&& 31)) &&& 1 = 0)
/-- the state with other cells of the search -/
abbrev cs_J : Type := (Nat → Nat → Int32) × (Nat → Int64) × (Nat → Int32)
def cs_jk (σ : ck_S) (J : cs_J) : ck_S := (σ.1, σ.2.1, σ.2.2.1, σ.2.2.2.1, σ.2.2.2.2.1, J)
section RK
variable {B : Nat} {sc : Option (Nat × Nat × (Nat → Int32))} {d : Nat} {ad : Nat → Nat} {σ : ck_S} {K : rp_K} {C : px_P}
theorem cc_placeOf {c k : Nat} (hc4 : c < 65536) (hk : k < 4) : px_W ps_Y ps_P B sc (d + 1) 35 [.int (nI c), .int (nI k)] C 0 0 (fun v C' => C' = C ∧ v = some (.int (nI (pl c k)))) px_no := by
  refine ⟨pm_Sea_placeOf, rfl, Nat.le_of_ble_eq_true rfl, fun X hw hX => ?_⟩
  iterate 8 refine px_go hX ?_
  exact ⟨rfl, congrArg (fun z => some (Value.int z)) (ie_pl hc4 hk)⟩
theorem cc_withPlace {c k p : Nat} (hc4 : c < 65536) (hk : k < 4) (hp : p < 16) : px_W ps_Y ps_P B sc (d + 1) 37 [.int (nI c), .int (nI k), .int (nI p)] C 0 0 (fun v C' => C' = C ∧ v = some (.int (nI (wp c k p)))) px_no := by
  refine ⟨pm_Sea_withPlace, rfl, Nat.le_of_ble_eq_true rfl, fun X hw hX => ?_⟩
  iterate 16 refine px_go hX ?_
  exact ⟨rfl, congrArg (fun z => some (Value.int z)) (ie_wp hc4 hk hp)⟩
theorem cc_stepOf {k f t : Nat} (hk : k < 4) (hf : f < 7) (ht : t < 5) : px_W ps_Y ps_P B sc (d + 1) 38 [.int (nI k), .int (nI f), .int (nI t)] C 0 0 (fun v C' => C' = C ∧ v = some (.int (nI (64 * k + 8 * f + t)))) px_no := by
  refine ⟨pm_Sea_stepOf, rfl, Nat.le_of_ble_eq_true rfl, fun X hw hX => ?_⟩
  iterate 10 refine px_go hX ?_
  exact ⟨rfl, congrArg (fun z => some (Value.int z)) (ie_st k hk f hf t ht)⟩
theorem en_at {lv : Nat → Bool} {c : Nat} : ∀ {n : Nat}, en lv c n = true → ∀ {i : Nat}, i < n → pl c i ≠ 13 ∧ (lv i = true → pl c i = 12)
  | n + 1, h, i, hi => by
    have h2 : (en lv c n && (!(pl c n == 13) && (!lv n || pl c n == 12))) = true := h
    simp only [Bool.and_eq_true] at h2
    rcases Nat.lt_succ_iff_lt_or_eq.mp hi with h3 | h3
    · exact en_at h2.1 h3
    · subst h3
      refine ⟨fun w => ?_, fun w => ?_⟩
      · have := h2.2.1
        rw [w] at this
        cases this
      · have := h2.2.2
        rw [w] at this
        simpa using this
theorem en_s {lv : Nat → Bool} {c i : Nat} (h : en lv c i = true) (h1 : pl c i ≠ 13) (h2 : lv i = true → pl c i = 12) : en lv c (i + 1) = true := by
  show (en lv c i && (!(pl c i == 13) && (!lv i || pl c i == 12))) = true
  rw [h]
  cases hl : lv i with
  | false => simp [h1]
  | true => simp [h1, h2 hl]
theorem cc_isEnd (hR : Rp ad K C) (hc : Cl ad σ K) {n c : Nat} (hc4 : c < 65536) (hsz : cs_si σ 0 = nI n) (hn4 : n ≤ 4) : px_W ps_Y ps_P B sc (d + 1) 33 [.ref (ad 3), .int (nI c)] C 0 0 (px_bo (en (cs_lv σ) c n = true) C) px_no := by
  refine ⟨pm_Sea_isEnd, rfl, Nat.le_of_ble_eq_true rfl, fun X hw hX => ?_⟩
  have h3 : C (ad 3) = some (px_o 3 [.int (nI (cs_ti σ)), .ref (ad 4), .ref (ad 5), .ref (ad 6), .ref (ad 7), .ref (ad 8), .ref (ad 9), .ref (ad 10), .ref (ad 11), .int (nI n), .int (cs_si σ 1), .int (cs_si σ 2), .int (cs_si σ 3), .int (cs_si σ 4)]) := by rw [← hsz]; exact hR.1 3 _ hc.1.2.2.2
  have loop : ∀ kk i, i + kk = n → en (cs_lv σ) c i = true → X (2, [(0, .ref (ad 3)), (1, .int (nI c)), (2, .int (nI i))], [], C, 0, 0) := by
    intro kk
    induction kk with
    | zero =>
      intro i hi hyp
      have hlt : i = n := hi
      iterate 3 refine px_go hX ?_
      refine ⟨_, _, h3, rfl, ?_⟩
      refine px_go hX ?_
      refine ⟨fun (c1 : nI n ≤ nI i) => ?_, fun (c1 : ¬ nI n ≤ nI i) => absurd (nI_le (by omega) (by omega)) c1⟩
      iterate 2 refine px_go hX ?_
      rw [hlt] at hyp
      exact ⟨Or.inr rfl, rfl, Or.inl ⟨hyp, rfl⟩⟩
    | succ kk ih =>
      intro i hi hyp
      have hlt : i < n := by omega
      iterate 3 refine px_go hX ?_
      refine ⟨_, _, h3, rfl, ?_⟩
      refine px_go hX ?_
      refine ⟨fun (c2 : nI n ≤ nI i) => absurd c2 (nI_ge hlt (by omega)), fun (c2 : ¬ nI n ≤ nI i) => ?_⟩
      iterate 10 refine px_go hX ?_
      refine ⟨_, _, h3, rfl, ?_⟩
      iterate 5 refine px_go hX ?_
      refine ⟨fun (c3 : ((cs_si σ 1) >>> ((nI i) &&& 31)) &&& ((1 : Int32)) = 0) => ?_, fun (c3 : ¬ ((cs_si σ 1) >>> ((nI i) &&& 31)) &&& ((1 : Int32)) = 0) => ?_⟩
      · have hlv : cs_lv σ i = false := by simp [cs_lv, c3]
        iterate 5 refine px_go hX ?_
        refine ⟨fun (c4 : ((nI c) >>> (((nI i) * ((4 : Int32))) &&& 31)) &&& ((15 : Int32)) = (13 : Int32)) => ?_, fun (c4 : ¬ ((nI c) >>> (((nI i) * ((4 : Int32))) &&& 31)) &&& ((15 : Int32)) = (13 : Int32)) => ?_⟩
        · iterate 2 refine px_go hX ?_
          exact ⟨Or.inl rfl, rfl, Or.inr ⟨fun q => absurd ((nI_eq (by have := pl_lt c i; omega) (by omega : 13 < 2 ^ 31)).mp ((ie_pl hc4 (by omega)).symm.trans c4)) (en_at q hlt).1, rfl⟩⟩
        · iterate 2 refine px_go hX ?_
          refine ⟨fun (c5 : (0 : Int32) = 0) => ?_, fun (c5 : ¬ (0 : Int32) = 0) => absurd rfl c5⟩
          iterate 2 refine px_go hX ?_
          exact px_lw hw [(0, .ref (ad 3)), (1, .int (nI c)), (2, .int (nI (i + 1)))] (ih (i + 1) (by omega) (en_s hyp (fun w => c4 ((ie_pl hc4 (by omega)).trans (congrArg nI w))) (fun w => absurd (hlv.symm.trans w) (by decide)))) ⟨rfl, rfl, (congrArg (fun z => some (Value.int z)) (nI_succ _).symm), trivial⟩
      · have hlv : cs_lv σ i = true := by simp [cs_lv, c3]
        iterate 6 refine px_go hX ?_
        refine ⟨fun (c6 : ((nI c) >>> (((nI i) * ((4 : Int32))) &&& 31)) &&& ((15 : Int32)) = (13 : Int32)) => ?_, fun (c6 : ¬ ((nI c) >>> (((nI i) * ((4 : Int32))) &&& 31)) &&& ((15 : Int32)) = (13 : Int32)) => ?_⟩
        · iterate 2 refine px_go hX ?_
          exact ⟨Or.inl rfl, rfl, Or.inr ⟨fun q => absurd ((nI_eq (by have := pl_lt c i; omega) (by omega : 13 < 2 ^ 31)).mp ((ie_pl hc4 (by omega)).symm.trans c6)) (en_at q hlt).1, rfl⟩⟩
        · iterate 2 refine px_go hX ?_
          refine ⟨fun (c7 : (1 : Int32) = 0) => absurd c7 (by decide), fun (c7 : ¬ (1 : Int32) = 0) => ?_⟩
          iterate 3 refine px_go hX ?_
          refine ⟨fun (c8 : ((nI c) >>> (((nI i) * ((4 : Int32))) &&& 31)) &&& ((15 : Int32)) = (12 : Int32)) => ?_, fun (c8 : ¬ ((nI c) >>> (((nI i) * ((4 : Int32))) &&& 31)) &&& ((15 : Int32)) = (12 : Int32)) => ?_⟩
          · iterate 2 refine px_go hX ?_
            exact px_lw hw [(0, .ref (ad 3)), (1, .int (nI c)), (2, .int (nI (i + 1)))] (ih (i + 1) (by omega) (en_s hyp (fun w => c6 ((ie_pl hc4 (by omega)).trans (congrArg nI w))) (fun _ => (nI_eq (by have := pl_lt c i; omega) (by omega : 12 < 2 ^ 31)).mp ((ie_pl hc4 (by omega)).symm.trans c8)))) ⟨rfl, rfl, (congrArg (fun z => some (Value.int z)) (nI_succ _).symm), trivial⟩
          · iterate 2 refine px_go hX ?_
            exact ⟨Or.inl rfl, rfl, Or.inr ⟨fun q => absurd ((ie_pl hc4 (by omega)).trans (congrArg nI ((en_at q hlt).2 hlv))) c8, rfl⟩⟩
  iterate 2 refine px_go hX ?_
  exact px_lw hw [(0, .ref (ad 3)), (1, .int (nI c)), (2, .int (nI 0))] (loop (n - 0) 0 (by omega) rfl) ⟨rfl, rfl, rfl, trivial⟩
theorem mgj_at {nd : Nat → Nat → Bool} {c k : Nat} : ∀ {n : Nat}, mgj nd c k n = true → ∀ {j : Nat}, j < n → nd k j = true → pl c j = 12
  | n + 1, h, j, hj, hd => by
    have h2 : (mgj nd c k n && (!nd k n || pl c n == 12)) = true := h
    simp only [Bool.and_eq_true] at h2
    rcases Nat.lt_succ_iff_lt_or_eq.mp hj with h3 | h3
    · exact mgj_at h2.1 h3 hd
    · subst h3
      have := h2.2
      rw [hd] at this
      simpa using this
theorem mgj_s {nd : Nat → Nat → Bool} {c k j : Nat} (h : mgj nd c k j = true) (h2 : nd k j = true → pl c j = 12) : mgj nd c k (j + 1) = true := by
  show (mgj nd c k j && (!nd k j || pl c j == 12)) = true
  rw [h]
  cases hl : nd k j with
  | false => simp
  | true => simp [h2 hl]
theorem cc_mayGoOut (hR : Rp ad K C) (hc : Cl ad σ K) {n c k : Nat} (hc4 : c < 65536) (hsz : cs_si σ 0 = nI n) (hn4 : n ≤ 4) (hk : k < n) : px_W ps_Y ps_P B sc (d + 2) 40 [.ref (ad 3), .int (nI c), .int (nI k)] C 0 0 (px_bo ((cs_lv σ k && mgj (cs_ndk σ) c k n) = true) C) px_no := by
  refine ⟨pm_Sea_mayGoOut, rfl, Nat.le_of_ble_eq_true rfl, fun X hw hX => ?_⟩
  have h3 : C (ad 3) = some (px_o 3 [.int (nI (cs_ti σ)), .ref (ad 4), .ref (ad 5), .ref (ad 6), .ref (ad 7), .ref (ad 8), .ref (ad 9), .ref (ad 10), .ref (ad 11), .int (nI n), .int (cs_si σ 1), .int (cs_si σ 2), .int (cs_si σ 3), .int (cs_si σ 4)]) := by rw [← hsz]; exact hR.1 3 _ hc.1.2.2.2
  iterate 2 refine px_go hX ?_
  refine ⟨fun (c1 : nI k < 0) => absurd c1 (nI_pos (by omega)), fun (c1 : ¬ nI k < 0) => ?_⟩
  iterate 3 refine px_go hX ?_
  refine ⟨_, _, h3, rfl, ?_⟩
  refine px_go hX ?_
  refine ⟨fun (c2 : nI n ≤ nI k) => absurd c2 (nI_ge hk (by omega)), fun (c2 : ¬ nI n ≤ nI k) => ?_⟩
  iterate 2 refine px_go hX ?_
  refine ⟨_, _, h3, rfl, ?_⟩
  iterate 5 refine px_go hX ?_
  refine ⟨fun (c3 : ¬ ((cs_si σ 1) >>> ((nI k) &&& 31)) &&& ((1 : Int32)) = 0) => ?_, fun (c3 : ((cs_si σ 1) >>> ((nI k) &&& 31)) &&& ((1 : Int32)) = 0) => ?_⟩
  · iterate 2 refine px_go hX ?_
    have hlv : cs_lv σ k = true := by simp [cs_lv, c3]
    have loop : ∀ kk i, i + kk = n → mgj (cs_ndk σ) c k i = true → X (27, [(0, .ref (ad 3)), (1, .int (nI c)), (2, .int (nI k)), (3, .int (nI i))], [], C, 0, 0) := by
      intro kk
      induction kk with
      | zero =>
        intro i hi hyp
        have hlt : i = n := hi
        iterate 3 refine px_go hX ?_
        refine ⟨_, _, h3, rfl, ?_⟩
        refine px_go hX ?_
        refine ⟨fun (c4 : nI n ≤ nI i) => ?_, fun (c4 : ¬ nI n ≤ nI i) => absurd (nI_le (by omega) (by omega)) c4⟩
        iterate 2 refine px_go hX ?_
        rw [hlt] at hyp
        exact ⟨Or.inr rfl, rfl, Or.inl ⟨by rw [hlv, hyp]; rfl, rfl⟩⟩
      | succ kk ih =>
        intro i hi hyp
        have hlt : i < n := by omega
        iterate 3 refine px_go hX ?_
        refine ⟨_, _, h3, rfl, ?_⟩
        refine px_go hX ?_
        refine ⟨fun (c5 : nI n ≤ nI i) => absurd c5 (nI_ge hlt (by omega)), fun (c5 : ¬ nI n ≤ nI i) => ?_⟩
        iterate 2 refine px_go hX ?_
        refine ⟨_, _, h3, rfl, ?_⟩
        iterate 2 refine px_go hX ?_
        refine ⟨_, _, (hR.1 5 _ hc.2.1.2.1), (vp_in_nI (by omega) (by omega)), ?_⟩
        rw [nI_clamp (by omega)]
        iterate 2 refine px_go hX ?_
        refine ⟨_, _, h3, rfl, ?_⟩
        iterate 2 refine px_go hX ?_
        refine ⟨_, _, (hR.1 4 _ hc.2.1.1), (vp_in_nI (by omega) (by omega)), ?_⟩
        rw [nI_clamp (by omega)]
        iterate 4 refine px_go hX ?_
        refine ⟨fun (c6 : ((cs_sa σ 1 k) >>> ((cs_sa σ 0 i) &&& 31)) &&& ((1 : Int32)) = 0) => ?_, fun (c6 : ¬ ((cs_sa σ 1 k) >>> ((cs_sa σ 0 i) &&& 31)) &&& ((1 : Int32)) = 0) => ?_⟩
        · iterate 2 refine px_go hX ?_
          exact px_lw hw [(0, .ref (ad 3)), (1, .int (nI c)), (2, .int (nI k)), (3, .int (nI (i + 1)))] (ih (i + 1) (by omega) (mgj_s hyp (fun w => absurd w (by simp [cs_ndk, c6])))) ⟨rfl, rfl, rfl, (congrArg (fun z => some (Value.int z)) (nI_succ _).symm), trivial⟩
        · iterate 3 refine px_go hX ?_
          refine ⟨Nat.le_of_ble_eq_true rfl, 0, 0, _, Nat.le_of_ble_eq_true rfl, Nat.le_of_ble_eq_true rfl, Nat.le_of_ble_eq_true rfl, cc_placeOf hc4 (by omega), ?_⟩
          rintro _ C ⟨rfl, rfl⟩
          iterate 2 refine px_go hX ?_
          refine ⟨fun (c7 : nI (pl c i) = (12 : Int32)) => ?_, fun (c7 : ¬ nI (pl c i) = (12 : Int32)) => ?_⟩
          · iterate 2 refine px_go hX ?_
            exact px_lw hw [(0, .ref (ad 3)), (1, .int (nI c)), (2, .int (nI k)), (3, .int (nI (i + 1)))] (ih (i + 1) (by omega) (mgj_s hyp (fun _ => (nI_eq (by have := pl_lt c i; omega) (by omega : 12 < 2 ^ 31)).mp c7))) ⟨rfl, rfl, rfl, (congrArg (fun z => some (Value.int z)) (nI_succ _).symm), trivial⟩
          · iterate 2 refine px_go hX ?_
            exact ⟨Or.inl rfl, rfl, Or.inr ⟨fun q => by
              rw [hlv] at q
              exact c7 (congrArg nI (mgj_at q hlt (by simp [cs_ndk, c6]))), rfl⟩⟩
    exact px_lw hw [(0, .ref (ad 3)), (1, .int (nI c)), (2, .int (nI k)), (3, .int (nI 0))] (loop (n - 0) 0 (by omega) rfl) ⟨rfl, rfl, rfl, rfl, trivial⟩
  · iterate 2 refine px_go hX ?_
    exact ⟨Or.inl rfl, rfl, Or.inr ⟨fun q => by simp [cs_lv, c3] at q, rfl⟩⟩
end RK
end
section
/-! The search: clear, add, the stacks' heights, reach. -/
section RL
variable {B : Nat} {sc : Option (Nat × Nat × (Nat → Int32))} {d : Nat} {ad : Nat → Nat} {σ : ck_S} {K : rp_K} {C : px_P}
def cs_clr (σ : ck_S) : ck_S := cs_sSi σ (fun q => match q with | 0 => 0 | 1 => 0 | 2 => 0 | 3 => cs_si σ 3 | _ => cs_si σ 4)
theorem cc_clear (hR : Rp ad K C) (hc : Cl ad σ K) : px_W ps_Y ps_P B sc (d + 1) 31 [.ref (ad 3)] C 0 0 (fun v C' => v = none ∧ Ck ad (cs_clr σ) K C') px_no := by
  refine ⟨pm_Sea_clear, rfl, Nat.le_of_ble_eq_true rfl, fun X hw hX => ?_⟩
  iterate 3 refine px_go hX ?_
  refine ⟨_, (hR.1 3 _ hc.1.2.2.2), Nat.le_of_ble_eq_true rfl, rfl, rfl, ?_⟩
  iterate 3 refine px_go hX ?_
  refine ⟨_, (px_up_s _ _ _), Nat.le_of_ble_eq_true rfl, rfl, rfl, ?_⟩
  iterate 3 refine px_go hX ?_
  refine ⟨_, (px_up_s _ _ _), Nat.le_of_ble_eq_true rfl, rfl, rfl, ?_⟩
  refine px_go hX ?_
  have hR1 := (((hR.put (i := 3) hc.1.2.2.2 (px_o 3 [.int (nI (cs_ti σ)), .ref (ad 4), .ref (ad 5), .ref (ad 6), .ref (ad 7), .ref (ad 8), .ref (ad 9), .ref (ad 10), .ref (ad 11), .int ((0 : Int32)), .int (cs_si σ 1), .int (cs_si σ 2), .int (cs_si σ 3), .int (cs_si σ 4)])).put (i := 3) (rp_up_s _ _ _) (px_o 3 [.int (nI (cs_ti σ)), .ref (ad 4), .ref (ad 5), .ref (ad 6), .ref (ad 7), .ref (ad 8), .ref (ad 9), .ref (ad 10), .ref (ad 11), .int ((0 : Int32)), .int ((0 : Int32)), .int (cs_si σ 2), .int (cs_si σ 3), .int (cs_si σ 4)])).put (i := 3) (rp_up_s _ _ _) (px_o 3 [.int (nI (cs_ti σ)), .ref (ad 4), .ref (ad 5), .ref (ad 6), .ref (ad 7), .ref (ad 8), .ref (ad 9), .ref (ad 10), .ref (ad 11), .int ((0 : Int32)), .int ((0 : Int32)), .int ((0 : Int32)), .int (cs_si σ 3), .int (cs_si σ 4)]))
  have hc1 : Cl ad (cs_clr σ) (rp_up (rp_up (rp_up (K) (3) (px_o 3 [.int (nI (cs_ti σ)), .ref (ad 4), .ref (ad 5), .ref (ad 6), .ref (ad 7), .ref (ad 8), .ref (ad 9), .ref (ad 10), .ref (ad 11), .int ((0 : Int32)), .int (cs_si σ 1), .int (cs_si σ 2), .int (cs_si σ 3), .int (cs_si σ 4)])) (3) (px_o 3 [.int (nI (cs_ti σ)), .ref (ad 4), .ref (ad 5), .ref (ad 6), .ref (ad 7), .ref (ad 8), .ref (ad 9), .ref (ad 10), .ref (ad 11), .int ((0 : Int32)), .int ((0 : Int32)), .int (cs_si σ 2), .int (cs_si σ 3), .int (cs_si σ 4)])) (3) (px_o 3 [.int (nI (cs_ti σ)), .ref (ad 4), .ref (ad 5), .ref (ad 6), .ref (ad 7), .ref (ad 8), .ref (ad 9), .ref (ad 10), .ref (ad 11), .int ((0 : Int32)), .int ((0 : Int32)), .int ((0 : Int32)), .int (cs_si σ 3), .int (cs_si σ 4)])) := by
    rw [rp_up_up, rp_up_up]
    exact hc.sSi _
  have hK1 : ∀ zz, 100 ≤ zz → (rp_up (rp_up (rp_up (K) (3) (px_o 3 [.int (nI (cs_ti σ)), .ref (ad 4), .ref (ad 5), .ref (ad 6), .ref (ad 7), .ref (ad 8), .ref (ad 9), .ref (ad 10), .ref (ad 11), .int ((0 : Int32)), .int (cs_si σ 1), .int (cs_si σ 2), .int (cs_si σ 3), .int (cs_si σ 4)])) (3) (px_o 3 [.int (nI (cs_ti σ)), .ref (ad 4), .ref (ad 5), .ref (ad 6), .ref (ad 7), .ref (ad 8), .ref (ad 9), .ref (ad 10), .ref (ad 11), .int ((0 : Int32)), .int ((0 : Int32)), .int (cs_si σ 2), .int (cs_si σ 3), .int (cs_si σ 4)])) (3) (px_o 3 [.int (nI (cs_ti σ)), .ref (ad 4), .ref (ad 5), .ref (ad 6), .ref (ad 7), .ref (ad 8), .ref (ad 9), .ref (ad 10), .ref (ad 11), .int ((0 : Int32)), .int ((0 : Int32)), .int ((0 : Int32)), .int (cs_si σ 3), .int (cs_si σ 4)])) zz = (K) zz := fun zz hzz => by rw [rp_up_n _ _ (by omega), rp_up_n _ _ (by omega), rp_up_n _ _ (by omega)]
  exact ⟨rfl, _, hR1, hc1, hK1⟩
def cs_ad (σ : ck_S) (j n : Nat) (pv lb : Int32) : ck_S := cs_jk σ (va_up (va_up (cs_sa σ) 0 (upd (cs_sa σ 0) n (nI j))) 1 (upd (cs_sa σ 1) n (cs_bf σ j 4)), cs_sn σ, fun q => match q with | 0 => nI n + 1 | 1 => cs_si σ 1 ||| (lb <<< (nI n &&& 31)) | 2 => cs_si σ 2 ||| ((pv &&& 15) <<< ((nI n * 4) &&& 31)) | 3 => cs_si σ 3 | _ => cs_si σ 4)
theorem cc_add (hR : Rp ad K C) (hc : Cl ad σ K) {j n : Nat} (hj : j < cs_n σ) (hsz : cs_si σ 0 = nI n) (hn4 : n < 4) : px_W ps_Y ps_P B sc (d + 1) 32 [.ref (ad 3), .int (nI j), .ref (ad (40 + j))] C 0 0 (fun v C' => v = none ∧ ∃ pv lb, ((cs_bf σ j 2 = 4 ∧ pv = 13) ∨ (¬ cs_bf σ j 2 = 4 ∧ pv = cs_bf σ j 2 * 4 + cs_bf σ j 3)) ∧ ((cs_bf σ j 0 = 0 ∧ lb = 1) ∨ (¬ cs_bf σ j 0 = 0 ∧ lb = 0)) ∧ Ck ad (cs_ad σ j n pv lb) K C') px_no := by
  have h3 : C (ad 3) = some (px_o 3 [.int (nI (cs_ti σ)), .ref (ad 4), .ref (ad 5), .ref (ad 6), .ref (ad 7), .ref (ad 8), .ref (ad 9), .ref (ad 10), .ref (ad 11), .int (nI n), .int (cs_si σ 1), .int (cs_si σ 2), .int (cs_si σ 3), .int (cs_si σ 4)]) := by rw [← hsz]; exact hR.1 3 _ hc.1.2.2.2
  refine ⟨pm_Sea_add, rfl, Nat.le_of_ble_eq_true rfl, fun X hw hX => ?_⟩
  iterate 2 refine px_go hX ?_
  refine ⟨_, _, h3, rfl, ?_⟩
  iterate 2 refine px_go hX ?_
  refine ⟨fun (c1 : nI n < (4 : Int32)) => ?_, fun (c1 : ¬ nI n < (4 : Int32)) => absurd (nI_lt hn4 (by omega : 4 < 2 ^ 31)) c1⟩
  iterate 2 refine px_go hX ?_
  refine ⟨_, _, (hR.1 _ _ (hc.2.2.2.1 j hj)), rfl, ?_⟩
  iterate 2 refine px_go hX ?_
  refine ⟨fun (c2 : ¬ cs_bf σ j 2 = (4 : Int32)) => ?_, fun (c2 : cs_bf σ j 2 = (4 : Int32)) => ?_⟩
  · iterate 2 refine px_go hX ?_
    refine ⟨_, _, (hR.1 _ _ (hc.2.2.2.1 j hj)), rfl, ?_⟩
    iterate 4 refine px_go hX ?_
    refine ⟨_, _, (hR.1 _ _ (hc.2.2.2.1 j hj)), rfl, ?_⟩
    iterate 5 refine px_go hX ?_
    refine ⟨_, _, h3, rfl, ?_⟩
    iterate 5 refine px_go hX ?_
    refine ⟨_, _, h3, rfl, ?_⟩
    iterate 5 refine px_go hX ?_
    refine ⟨_, h3, Nat.le_of_ble_eq_true rfl, rfl, rfl, ?_⟩
    iterate 3 refine px_go hX ?_
    refine ⟨_, _, (px_up_s _ _ _), rfl, ?_⟩
    iterate 2 refine px_go hX ?_
    refine ⟨_, _, ((px_up_n _ _ (hR.ne (hc.2.2.2.1 j hj) hc.1.2.2.2 (by omega))).trans (hR.1 _ _ (hc.2.2.2.1 j hj))), rfl, ?_⟩
    refine px_go hX ?_
    refine ⟨fun (c3 : ¬ cs_bf σ j 0 = 0) => ?_, fun (c3 : cs_bf σ j 0 = 0) => ?_⟩
    · iterate 3 refine px_go hX ?_
      refine ⟨_, _, (px_up_s _ _ _), rfl, ?_⟩
      iterate 3 refine px_go hX ?_
      refine ⟨_, (px_up_s _ _ _), Nat.le_of_ble_eq_true rfl, rfl, rfl, ?_⟩
      iterate 2 refine px_go hX ?_
      refine ⟨_, _, (px_up_s _ _ _), rfl, ?_⟩
      iterate 2 refine px_go hX ?_
      refine ⟨_, _, (px_up_s _ _ _), rfl, ?_⟩
      iterate 2 refine px_go hX ?_
      refine ⟨_, _, ((px_up_n _ _ (hR.ne hc.2.1.1 hc.1.2.2.2 (by omega))).trans ((px_up_n _ _ (hR.ne hc.2.1.1 hc.1.2.2.2 (by omega))).trans (hR.1 4 _ hc.2.1.1))), (vp_in_nI hn4 (by omega)), ?_⟩
      rw [nI_clamp (by omega)]
      iterate 2 refine px_go hX ?_
      refine ⟨_, _, ((px_up_n _ _ (hR.ne hc.1.2.2.2 hc.2.1.1 (by omega))).trans (px_up_s _ _ _)), rfl, ?_⟩
      iterate 2 refine px_go hX ?_
      refine ⟨_, _, ((px_up_n _ _ (hR.ne hc.1.2.2.2 hc.2.1.1 (by omega))).trans (px_up_s _ _ _)), rfl, ?_⟩
      iterate 2 refine px_go hX ?_
      refine ⟨_, _, ((px_up_n _ _ (hR.ne (hc.2.2.2.1 j hj) hc.2.1.1 (by omega))).trans ((px_up_n _ _ (hR.ne (hc.2.2.2.1 j hj) hc.1.2.2.2 (by omega))).trans ((px_up_n _ _ (hR.ne (hc.2.2.2.1 j hj) hc.1.2.2.2 (by omega))).trans (hR.1 _ _ (hc.2.2.2.1 j hj))))), rfl, ?_⟩
      refine px_go hX ?_
      refine ⟨_, _, ((px_up_n _ _ (hR.ne hc.2.1.2.1 hc.2.1.1 (by omega))).trans ((px_up_n _ _ (hR.ne hc.2.1.2.1 hc.1.2.2.2 (by omega))).trans ((px_up_n _ _ (hR.ne hc.2.1.2.1 hc.1.2.2.2 (by omega))).trans (hR.1 5 _ hc.2.1.2.1)))), (vp_in_nI hn4 (by omega)), ?_⟩
      rw [nI_clamp (by omega)]
      iterate 3 refine px_go hX ?_
      refine ⟨_, _, ((px_up_n _ _ (hR.ne hc.1.2.2.2 hc.2.1.2.1 (by omega))).trans ((px_up_n _ _ (hR.ne hc.1.2.2.2 hc.2.1.1 (by omega))).trans (px_up_s _ _ _))), rfl, ?_⟩
      iterate 3 refine px_go hX ?_
      refine ⟨_, ((px_up_n _ _ (hR.ne hc.1.2.2.2 hc.2.1.2.1 (by omega))).trans ((px_up_n _ _ (hR.ne hc.1.2.2.2 hc.2.1.1 (by omega))).trans (px_up_s _ _ _))), Nat.le_of_ble_eq_true rfl, rfl, rfl, ?_⟩
      refine px_go hX ?_
      have hR1 := (((((hR.put (i := 3) hc.1.2.2.2 (px_o 3 [.int (nI (cs_ti σ)), .ref (ad 4), .ref (ad 5), .ref (ad 6), .ref (ad 7), .ref (ad 8), .ref (ad 9), .ref (ad 10), .ref (ad 11), .int (nI n), .int (cs_si σ 1), .int ((cs_si σ 2) ||| (((((cs_bf σ j 2) * ((4 : Int32))) + (cs_bf σ j 3)) &&& ((15 : Int32))) <<< (((nI n) * ((4 : Int32))) &&& 31))), .int (cs_si σ 3), .int (cs_si σ 4)])).put (i := 3) (rp_up_s _ _ _) (px_o 3 [.int (nI (cs_ti σ)), .ref (ad 4), .ref (ad 5), .ref (ad 6), .ref (ad 7), .ref (ad 8), .ref (ad 9), .ref (ad 10), .ref (ad 11), .int (nI n), .int ((cs_si σ 1) ||| (((0 : Int32)) <<< ((nI n) &&& 31))), .int ((cs_si σ 2) ||| (((((cs_bf σ j 2) * ((4 : Int32))) + (cs_bf σ j 3)) &&& ((15 : Int32))) <<< (((nI n) * ((4 : Int32))) &&& 31))), .int (cs_si σ 3), .int (cs_si σ 4)])).put (i := 4) ((rp_up_n _ _ (by omega)).trans ((rp_up_n _ _ (by omega)).trans hc.2.1.1)) (px_i 4 (upd (cs_sa σ 0) (n) (nI j)))).put (i := 5) ((rp_up_n _ _ (by omega)).trans ((rp_up_n _ _ (by omega)).trans ((rp_up_n _ _ (by omega)).trans hc.2.1.2.1))) (px_i 4 (upd (cs_sa σ 1) (n) (cs_bf σ j 4)))).put (i := 3) ((rp_up_n _ _ (by omega)).trans ((rp_up_n _ _ (by omega)).trans (rp_up_s _ _ _))) (px_o 3 [.int (nI (cs_ti σ)), .ref (ad 4), .ref (ad 5), .ref (ad 6), .ref (ad 7), .ref (ad 8), .ref (ad 9), .ref (ad 10), .ref (ad 11), .int ((nI n) + ((1 : Int32))), .int ((cs_si σ 1) ||| (((0 : Int32)) <<< ((nI n) &&& 31))), .int ((cs_si σ 2) ||| (((((cs_bf σ j 2) * ((4 : Int32))) + (cs_bf σ j 3)) &&& ((15 : Int32))) <<< (((nI n) * ((4 : Int32))) &&& 31))), .int (cs_si σ 3), .int (cs_si σ 4)]))
      have hc1 : Cl ad (cs_ad σ j n (cs_bf σ j 2 * 4 + cs_bf σ j 3) (0)) (rp_up (rp_up (rp_up (rp_up (rp_up (K) (3) (px_o 3 [.int (nI (cs_ti σ)), .ref (ad 4), .ref (ad 5), .ref (ad 6), .ref (ad 7), .ref (ad 8), .ref (ad 9), .ref (ad 10), .ref (ad 11), .int (nI n), .int (cs_si σ 1), .int ((cs_si σ 2) ||| (((((cs_bf σ j 2) * ((4 : Int32))) + (cs_bf σ j 3)) &&& ((15 : Int32))) <<< (((nI n) * ((4 : Int32))) &&& 31))), .int (cs_si σ 3), .int (cs_si σ 4)])) (3) (px_o 3 [.int (nI (cs_ti σ)), .ref (ad 4), .ref (ad 5), .ref (ad 6), .ref (ad 7), .ref (ad 8), .ref (ad 9), .ref (ad 10), .ref (ad 11), .int (nI n), .int ((cs_si σ 1) ||| (((0 : Int32)) <<< ((nI n) &&& 31))), .int ((cs_si σ 2) ||| (((((cs_bf σ j 2) * ((4 : Int32))) + (cs_bf σ j 3)) &&& ((15 : Int32))) <<< (((nI n) * ((4 : Int32))) &&& 31))), .int (cs_si σ 3), .int (cs_si σ 4)])) (4) (px_i 4 (upd (cs_sa σ 0) (n) (nI j)))) (5) (px_i 4 (upd (cs_sa σ 1) (n) (cs_bf σ j 4)))) (3) (px_o 3 [.int (nI (cs_ti σ)), .ref (ad 4), .ref (ad 5), .ref (ad 6), .ref (ad 7), .ref (ad 8), .ref (ad 9), .ref (ad 10), .ref (ad 11), .int ((nI n) + ((1 : Int32))), .int ((cs_si σ 1) ||| (((0 : Int32)) <<< ((nI n) &&& 31))), .int ((cs_si σ 2) ||| (((((cs_bf σ j 2) * ((4 : Int32))) + (cs_bf σ j 3)) &&& ((15 : Int32))) <<< (((nI n) * ((4 : Int32))) &&& 31))), .int (cs_si σ 3), .int (cs_si σ 4)])) := by
        exact ((((hc.sSi (fun q => match q with | 0 => nI n | 1 => cs_si σ 1 | 2 => cs_si σ 2 ||| ((cs_bf σ j 2 * 4 + cs_bf σ j 3 &&& 15) <<< ((nI n * 4) &&& 31)) | 3 => cs_si σ 3 | _ => cs_si σ 4)).sSi (fun q => match q with | 0 => nI n | 1 => cs_si σ 1 ||| (0 <<< (nI n &&& 31)) | 2 => cs_si σ 2 ||| ((cs_bf σ j 2 * 4 + cs_bf σ j 3 &&& 15) <<< ((nI n * 4) &&& 31)) | 3 => cs_si σ 3 | _ => cs_si σ 4)).sSa (k := 0) (by omega) _).sSa (k := 1) (by omega) _).sSi _
      have hK1 : ∀ zz, 100 ≤ zz → (rp_up (rp_up (rp_up (rp_up (rp_up (K) (3) (px_o 3 [.int (nI (cs_ti σ)), .ref (ad 4), .ref (ad 5), .ref (ad 6), .ref (ad 7), .ref (ad 8), .ref (ad 9), .ref (ad 10), .ref (ad 11), .int (nI n), .int (cs_si σ 1), .int ((cs_si σ 2) ||| (((((cs_bf σ j 2) * ((4 : Int32))) + (cs_bf σ j 3)) &&& ((15 : Int32))) <<< (((nI n) * ((4 : Int32))) &&& 31))), .int (cs_si σ 3), .int (cs_si σ 4)])) (3) (px_o 3 [.int (nI (cs_ti σ)), .ref (ad 4), .ref (ad 5), .ref (ad 6), .ref (ad 7), .ref (ad 8), .ref (ad 9), .ref (ad 10), .ref (ad 11), .int (nI n), .int ((cs_si σ 1) ||| (((0 : Int32)) <<< ((nI n) &&& 31))), .int ((cs_si σ 2) ||| (((((cs_bf σ j 2) * ((4 : Int32))) + (cs_bf σ j 3)) &&& ((15 : Int32))) <<< (((nI n) * ((4 : Int32))) &&& 31))), .int (cs_si σ 3), .int (cs_si σ 4)])) (4) (px_i 4 (upd (cs_sa σ 0) (n) (nI j)))) (5) (px_i 4 (upd (cs_sa σ 1) (n) (cs_bf σ j 4)))) (3) (px_o 3 [.int (nI (cs_ti σ)), .ref (ad 4), .ref (ad 5), .ref (ad 6), .ref (ad 7), .ref (ad 8), .ref (ad 9), .ref (ad 10), .ref (ad 11), .int ((nI n) + ((1 : Int32))), .int ((cs_si σ 1) ||| (((0 : Int32)) <<< ((nI n) &&& 31))), .int ((cs_si σ 2) ||| (((((cs_bf σ j 2) * ((4 : Int32))) + (cs_bf σ j 3)) &&& ((15 : Int32))) <<< (((nI n) * ((4 : Int32))) &&& 31))), .int (cs_si σ 3), .int (cs_si σ 4)])) zz = (K) zz := fun zz hzz => by rw [rp_up_n _ _ (by omega), rp_up_n _ _ (by omega), rp_up_n _ _ (by omega), rp_up_n _ _ (by omega), rp_up_n _ _ (by omega)]
      exact ⟨rfl, _, _, Or.inr ⟨c2, rfl⟩, Or.inr ⟨c3, rfl⟩, _, hR1, hc1, hK1⟩
    · iterate 4 refine px_go hX ?_
      refine ⟨_, _, (px_up_s _ _ _), rfl, ?_⟩
      iterate 3 refine px_go hX ?_
      refine ⟨_, (px_up_s _ _ _), Nat.le_of_ble_eq_true rfl, rfl, rfl, ?_⟩
      iterate 2 refine px_go hX ?_
      refine ⟨_, _, (px_up_s _ _ _), rfl, ?_⟩
      iterate 2 refine px_go hX ?_
      refine ⟨_, _, (px_up_s _ _ _), rfl, ?_⟩
      iterate 2 refine px_go hX ?_
      refine ⟨_, _, ((px_up_n _ _ (hR.ne hc.2.1.1 hc.1.2.2.2 (by omega))).trans ((px_up_n _ _ (hR.ne hc.2.1.1 hc.1.2.2.2 (by omega))).trans (hR.1 4 _ hc.2.1.1))), (vp_in_nI hn4 (by omega)), ?_⟩
      rw [nI_clamp (by omega)]
      iterate 2 refine px_go hX ?_
      refine ⟨_, _, ((px_up_n _ _ (hR.ne hc.1.2.2.2 hc.2.1.1 (by omega))).trans (px_up_s _ _ _)), rfl, ?_⟩
      iterate 2 refine px_go hX ?_
      refine ⟨_, _, ((px_up_n _ _ (hR.ne hc.1.2.2.2 hc.2.1.1 (by omega))).trans (px_up_s _ _ _)), rfl, ?_⟩
      iterate 2 refine px_go hX ?_
      refine ⟨_, _, ((px_up_n _ _ (hR.ne (hc.2.2.2.1 j hj) hc.2.1.1 (by omega))).trans ((px_up_n _ _ (hR.ne (hc.2.2.2.1 j hj) hc.1.2.2.2 (by omega))).trans ((px_up_n _ _ (hR.ne (hc.2.2.2.1 j hj) hc.1.2.2.2 (by omega))).trans (hR.1 _ _ (hc.2.2.2.1 j hj))))), rfl, ?_⟩
      refine px_go hX ?_
      refine ⟨_, _, ((px_up_n _ _ (hR.ne hc.2.1.2.1 hc.2.1.1 (by omega))).trans ((px_up_n _ _ (hR.ne hc.2.1.2.1 hc.1.2.2.2 (by omega))).trans ((px_up_n _ _ (hR.ne hc.2.1.2.1 hc.1.2.2.2 (by omega))).trans (hR.1 5 _ hc.2.1.2.1)))), (vp_in_nI hn4 (by omega)), ?_⟩
      rw [nI_clamp (by omega)]
      iterate 3 refine px_go hX ?_
      refine ⟨_, _, ((px_up_n _ _ (hR.ne hc.1.2.2.2 hc.2.1.2.1 (by omega))).trans ((px_up_n _ _ (hR.ne hc.1.2.2.2 hc.2.1.1 (by omega))).trans (px_up_s _ _ _))), rfl, ?_⟩
      iterate 3 refine px_go hX ?_
      refine ⟨_, ((px_up_n _ _ (hR.ne hc.1.2.2.2 hc.2.1.2.1 (by omega))).trans ((px_up_n _ _ (hR.ne hc.1.2.2.2 hc.2.1.1 (by omega))).trans (px_up_s _ _ _))), Nat.le_of_ble_eq_true rfl, rfl, rfl, ?_⟩
      refine px_go hX ?_
      have hR1 := (((((hR.put (i := 3) hc.1.2.2.2 (px_o 3 [.int (nI (cs_ti σ)), .ref (ad 4), .ref (ad 5), .ref (ad 6), .ref (ad 7), .ref (ad 8), .ref (ad 9), .ref (ad 10), .ref (ad 11), .int (nI n), .int (cs_si σ 1), .int ((cs_si σ 2) ||| (((((cs_bf σ j 2) * ((4 : Int32))) + (cs_bf σ j 3)) &&& ((15 : Int32))) <<< (((nI n) * ((4 : Int32))) &&& 31))), .int (cs_si σ 3), .int (cs_si σ 4)])).put (i := 3) (rp_up_s _ _ _) (px_o 3 [.int (nI (cs_ti σ)), .ref (ad 4), .ref (ad 5), .ref (ad 6), .ref (ad 7), .ref (ad 8), .ref (ad 9), .ref (ad 10), .ref (ad 11), .int (nI n), .int ((cs_si σ 1) ||| (((1 : Int32)) <<< ((nI n) &&& 31))), .int ((cs_si σ 2) ||| (((((cs_bf σ j 2) * ((4 : Int32))) + (cs_bf σ j 3)) &&& ((15 : Int32))) <<< (((nI n) * ((4 : Int32))) &&& 31))), .int (cs_si σ 3), .int (cs_si σ 4)])).put (i := 4) ((rp_up_n _ _ (by omega)).trans ((rp_up_n _ _ (by omega)).trans hc.2.1.1)) (px_i 4 (upd (cs_sa σ 0) (n) (nI j)))).put (i := 5) ((rp_up_n _ _ (by omega)).trans ((rp_up_n _ _ (by omega)).trans ((rp_up_n _ _ (by omega)).trans hc.2.1.2.1))) (px_i 4 (upd (cs_sa σ 1) (n) (cs_bf σ j 4)))).put (i := 3) ((rp_up_n _ _ (by omega)).trans ((rp_up_n _ _ (by omega)).trans (rp_up_s _ _ _))) (px_o 3 [.int (nI (cs_ti σ)), .ref (ad 4), .ref (ad 5), .ref (ad 6), .ref (ad 7), .ref (ad 8), .ref (ad 9), .ref (ad 10), .ref (ad 11), .int ((nI n) + ((1 : Int32))), .int ((cs_si σ 1) ||| (((1 : Int32)) <<< ((nI n) &&& 31))), .int ((cs_si σ 2) ||| (((((cs_bf σ j 2) * ((4 : Int32))) + (cs_bf σ j 3)) &&& ((15 : Int32))) <<< (((nI n) * ((4 : Int32))) &&& 31))), .int (cs_si σ 3), .int (cs_si σ 4)]))
      have hc1 : Cl ad (cs_ad σ j n (cs_bf σ j 2 * 4 + cs_bf σ j 3) (1)) (rp_up (rp_up (rp_up (rp_up (rp_up (K) (3) (px_o 3 [.int (nI (cs_ti σ)), .ref (ad 4), .ref (ad 5), .ref (ad 6), .ref (ad 7), .ref (ad 8), .ref (ad 9), .ref (ad 10), .ref (ad 11), .int (nI n), .int (cs_si σ 1), .int ((cs_si σ 2) ||| (((((cs_bf σ j 2) * ((4 : Int32))) + (cs_bf σ j 3)) &&& ((15 : Int32))) <<< (((nI n) * ((4 : Int32))) &&& 31))), .int (cs_si σ 3), .int (cs_si σ 4)])) (3) (px_o 3 [.int (nI (cs_ti σ)), .ref (ad 4), .ref (ad 5), .ref (ad 6), .ref (ad 7), .ref (ad 8), .ref (ad 9), .ref (ad 10), .ref (ad 11), .int (nI n), .int ((cs_si σ 1) ||| (((1 : Int32)) <<< ((nI n) &&& 31))), .int ((cs_si σ 2) ||| (((((cs_bf σ j 2) * ((4 : Int32))) + (cs_bf σ j 3)) &&& ((15 : Int32))) <<< (((nI n) * ((4 : Int32))) &&& 31))), .int (cs_si σ 3), .int (cs_si σ 4)])) (4) (px_i 4 (upd (cs_sa σ 0) (n) (nI j)))) (5) (px_i 4 (upd (cs_sa σ 1) (n) (cs_bf σ j 4)))) (3) (px_o 3 [.int (nI (cs_ti σ)), .ref (ad 4), .ref (ad 5), .ref (ad 6), .ref (ad 7), .ref (ad 8), .ref (ad 9), .ref (ad 10), .ref (ad 11), .int ((nI n) + ((1 : Int32))), .int ((cs_si σ 1) ||| (((1 : Int32)) <<< ((nI n) &&& 31))), .int ((cs_si σ 2) ||| (((((cs_bf σ j 2) * ((4 : Int32))) + (cs_bf σ j 3)) &&& ((15 : Int32))) <<< (((nI n) * ((4 : Int32))) &&& 31))), .int (cs_si σ 3), .int (cs_si σ 4)])) := by
        exact ((((hc.sSi (fun q => match q with | 0 => nI n | 1 => cs_si σ 1 | 2 => cs_si σ 2 ||| ((cs_bf σ j 2 * 4 + cs_bf σ j 3 &&& 15) <<< ((nI n * 4) &&& 31)) | 3 => cs_si σ 3 | _ => cs_si σ 4)).sSi (fun q => match q with | 0 => nI n | 1 => cs_si σ 1 ||| (1 <<< (nI n &&& 31)) | 2 => cs_si σ 2 ||| ((cs_bf σ j 2 * 4 + cs_bf σ j 3 &&& 15) <<< ((nI n * 4) &&& 31)) | 3 => cs_si σ 3 | _ => cs_si σ 4)).sSa (k := 0) (by omega) _).sSa (k := 1) (by omega) _).sSi _
      have hK1 : ∀ zz, 100 ≤ zz → (rp_up (rp_up (rp_up (rp_up (rp_up (K) (3) (px_o 3 [.int (nI (cs_ti σ)), .ref (ad 4), .ref (ad 5), .ref (ad 6), .ref (ad 7), .ref (ad 8), .ref (ad 9), .ref (ad 10), .ref (ad 11), .int (nI n), .int (cs_si σ 1), .int ((cs_si σ 2) ||| (((((cs_bf σ j 2) * ((4 : Int32))) + (cs_bf σ j 3)) &&& ((15 : Int32))) <<< (((nI n) * ((4 : Int32))) &&& 31))), .int (cs_si σ 3), .int (cs_si σ 4)])) (3) (px_o 3 [.int (nI (cs_ti σ)), .ref (ad 4), .ref (ad 5), .ref (ad 6), .ref (ad 7), .ref (ad 8), .ref (ad 9), .ref (ad 10), .ref (ad 11), .int (nI n), .int ((cs_si σ 1) ||| (((1 : Int32)) <<< ((nI n) &&& 31))), .int ((cs_si σ 2) ||| (((((cs_bf σ j 2) * ((4 : Int32))) + (cs_bf σ j 3)) &&& ((15 : Int32))) <<< (((nI n) * ((4 : Int32))) &&& 31))), .int (cs_si σ 3), .int (cs_si σ 4)])) (4) (px_i 4 (upd (cs_sa σ 0) (n) (nI j)))) (5) (px_i 4 (upd (cs_sa σ 1) (n) (cs_bf σ j 4)))) (3) (px_o 3 [.int (nI (cs_ti σ)), .ref (ad 4), .ref (ad 5), .ref (ad 6), .ref (ad 7), .ref (ad 8), .ref (ad 9), .ref (ad 10), .ref (ad 11), .int ((nI n) + ((1 : Int32))), .int ((cs_si σ 1) ||| (((1 : Int32)) <<< ((nI n) &&& 31))), .int ((cs_si σ 2) ||| (((((cs_bf σ j 2) * ((4 : Int32))) + (cs_bf σ j 3)) &&& ((15 : Int32))) <<< (((nI n) * ((4 : Int32))) &&& 31))), .int (cs_si σ 3), .int (cs_si σ 4)])) zz = (K) zz := fun zz hzz => by rw [rp_up_n _ _ (by omega), rp_up_n _ _ (by omega), rp_up_n _ _ (by omega), rp_up_n _ _ (by omega), rp_up_n _ _ (by omega)]
      exact ⟨rfl, _, _, Or.inr ⟨c2, rfl⟩, Or.inl ⟨c3, rfl⟩, _, hR1, hc1, hK1⟩
  · iterate 6 refine px_go hX ?_
    refine ⟨_, _, h3, rfl, ?_⟩
    iterate 5 refine px_go hX ?_
    refine ⟨_, _, h3, rfl, ?_⟩
    iterate 5 refine px_go hX ?_
    refine ⟨_, h3, Nat.le_of_ble_eq_true rfl, rfl, rfl, ?_⟩
    iterate 3 refine px_go hX ?_
    refine ⟨_, _, (px_up_s _ _ _), rfl, ?_⟩
    iterate 2 refine px_go hX ?_
    refine ⟨_, _, ((px_up_n _ _ (hR.ne (hc.2.2.2.1 j hj) hc.1.2.2.2 (by omega))).trans (hR.1 _ _ (hc.2.2.2.1 j hj))), rfl, ?_⟩
    refine px_go hX ?_
    refine ⟨fun (c4 : ¬ cs_bf σ j 0 = 0) => ?_, fun (c4 : cs_bf σ j 0 = 0) => ?_⟩
    · iterate 3 refine px_go hX ?_
      refine ⟨_, _, (px_up_s _ _ _), rfl, ?_⟩
      iterate 3 refine px_go hX ?_
      refine ⟨_, (px_up_s _ _ _), Nat.le_of_ble_eq_true rfl, rfl, rfl, ?_⟩
      iterate 2 refine px_go hX ?_
      refine ⟨_, _, (px_up_s _ _ _), rfl, ?_⟩
      iterate 2 refine px_go hX ?_
      refine ⟨_, _, (px_up_s _ _ _), rfl, ?_⟩
      iterate 2 refine px_go hX ?_
      refine ⟨_, _, ((px_up_n _ _ (hR.ne hc.2.1.1 hc.1.2.2.2 (by omega))).trans ((px_up_n _ _ (hR.ne hc.2.1.1 hc.1.2.2.2 (by omega))).trans (hR.1 4 _ hc.2.1.1))), (vp_in_nI hn4 (by omega)), ?_⟩
      rw [nI_clamp (by omega)]
      iterate 2 refine px_go hX ?_
      refine ⟨_, _, ((px_up_n _ _ (hR.ne hc.1.2.2.2 hc.2.1.1 (by omega))).trans (px_up_s _ _ _)), rfl, ?_⟩
      iterate 2 refine px_go hX ?_
      refine ⟨_, _, ((px_up_n _ _ (hR.ne hc.1.2.2.2 hc.2.1.1 (by omega))).trans (px_up_s _ _ _)), rfl, ?_⟩
      iterate 2 refine px_go hX ?_
      refine ⟨_, _, ((px_up_n _ _ (hR.ne (hc.2.2.2.1 j hj) hc.2.1.1 (by omega))).trans ((px_up_n _ _ (hR.ne (hc.2.2.2.1 j hj) hc.1.2.2.2 (by omega))).trans ((px_up_n _ _ (hR.ne (hc.2.2.2.1 j hj) hc.1.2.2.2 (by omega))).trans (hR.1 _ _ (hc.2.2.2.1 j hj))))), rfl, ?_⟩
      refine px_go hX ?_
      refine ⟨_, _, ((px_up_n _ _ (hR.ne hc.2.1.2.1 hc.2.1.1 (by omega))).trans ((px_up_n _ _ (hR.ne hc.2.1.2.1 hc.1.2.2.2 (by omega))).trans ((px_up_n _ _ (hR.ne hc.2.1.2.1 hc.1.2.2.2 (by omega))).trans (hR.1 5 _ hc.2.1.2.1)))), (vp_in_nI hn4 (by omega)), ?_⟩
      rw [nI_clamp (by omega)]
      iterate 3 refine px_go hX ?_
      refine ⟨_, _, ((px_up_n _ _ (hR.ne hc.1.2.2.2 hc.2.1.2.1 (by omega))).trans ((px_up_n _ _ (hR.ne hc.1.2.2.2 hc.2.1.1 (by omega))).trans (px_up_s _ _ _))), rfl, ?_⟩
      iterate 3 refine px_go hX ?_
      refine ⟨_, ((px_up_n _ _ (hR.ne hc.1.2.2.2 hc.2.1.2.1 (by omega))).trans ((px_up_n _ _ (hR.ne hc.1.2.2.2 hc.2.1.1 (by omega))).trans (px_up_s _ _ _))), Nat.le_of_ble_eq_true rfl, rfl, rfl, ?_⟩
      refine px_go hX ?_
      have hR1 := (((((hR.put (i := 3) hc.1.2.2.2 (px_o 3 [.int (nI (cs_ti σ)), .ref (ad 4), .ref (ad 5), .ref (ad 6), .ref (ad 7), .ref (ad 8), .ref (ad 9), .ref (ad 10), .ref (ad 11), .int (nI n), .int (cs_si σ 1), .int ((cs_si σ 2) ||| ((((13 : Int32)) &&& ((15 : Int32))) <<< (((nI n) * ((4 : Int32))) &&& 31))), .int (cs_si σ 3), .int (cs_si σ 4)])).put (i := 3) (rp_up_s _ _ _) (px_o 3 [.int (nI (cs_ti σ)), .ref (ad 4), .ref (ad 5), .ref (ad 6), .ref (ad 7), .ref (ad 8), .ref (ad 9), .ref (ad 10), .ref (ad 11), .int (nI n), .int ((cs_si σ 1) ||| (((0 : Int32)) <<< ((nI n) &&& 31))), .int ((cs_si σ 2) ||| ((((13 : Int32)) &&& ((15 : Int32))) <<< (((nI n) * ((4 : Int32))) &&& 31))), .int (cs_si σ 3), .int (cs_si σ 4)])).put (i := 4) ((rp_up_n _ _ (by omega)).trans ((rp_up_n _ _ (by omega)).trans hc.2.1.1)) (px_i 4 (upd (cs_sa σ 0) (n) (nI j)))).put (i := 5) ((rp_up_n _ _ (by omega)).trans ((rp_up_n _ _ (by omega)).trans ((rp_up_n _ _ (by omega)).trans hc.2.1.2.1))) (px_i 4 (upd (cs_sa σ 1) (n) (cs_bf σ j 4)))).put (i := 3) ((rp_up_n _ _ (by omega)).trans ((rp_up_n _ _ (by omega)).trans (rp_up_s _ _ _))) (px_o 3 [.int (nI (cs_ti σ)), .ref (ad 4), .ref (ad 5), .ref (ad 6), .ref (ad 7), .ref (ad 8), .ref (ad 9), .ref (ad 10), .ref (ad 11), .int ((nI n) + ((1 : Int32))), .int ((cs_si σ 1) ||| (((0 : Int32)) <<< ((nI n) &&& 31))), .int ((cs_si σ 2) ||| ((((13 : Int32)) &&& ((15 : Int32))) <<< (((nI n) * ((4 : Int32))) &&& 31))), .int (cs_si σ 3), .int (cs_si σ 4)]))
      have hc1 : Cl ad (cs_ad σ j n (13) (0)) (rp_up (rp_up (rp_up (rp_up (rp_up (K) (3) (px_o 3 [.int (nI (cs_ti σ)), .ref (ad 4), .ref (ad 5), .ref (ad 6), .ref (ad 7), .ref (ad 8), .ref (ad 9), .ref (ad 10), .ref (ad 11), .int (nI n), .int (cs_si σ 1), .int ((cs_si σ 2) ||| ((((13 : Int32)) &&& ((15 : Int32))) <<< (((nI n) * ((4 : Int32))) &&& 31))), .int (cs_si σ 3), .int (cs_si σ 4)])) (3) (px_o 3 [.int (nI (cs_ti σ)), .ref (ad 4), .ref (ad 5), .ref (ad 6), .ref (ad 7), .ref (ad 8), .ref (ad 9), .ref (ad 10), .ref (ad 11), .int (nI n), .int ((cs_si σ 1) ||| (((0 : Int32)) <<< ((nI n) &&& 31))), .int ((cs_si σ 2) ||| ((((13 : Int32)) &&& ((15 : Int32))) <<< (((nI n) * ((4 : Int32))) &&& 31))), .int (cs_si σ 3), .int (cs_si σ 4)])) (4) (px_i 4 (upd (cs_sa σ 0) (n) (nI j)))) (5) (px_i 4 (upd (cs_sa σ 1) (n) (cs_bf σ j 4)))) (3) (px_o 3 [.int (nI (cs_ti σ)), .ref (ad 4), .ref (ad 5), .ref (ad 6), .ref (ad 7), .ref (ad 8), .ref (ad 9), .ref (ad 10), .ref (ad 11), .int ((nI n) + ((1 : Int32))), .int ((cs_si σ 1) ||| (((0 : Int32)) <<< ((nI n) &&& 31))), .int ((cs_si σ 2) ||| ((((13 : Int32)) &&& ((15 : Int32))) <<< (((nI n) * ((4 : Int32))) &&& 31))), .int (cs_si σ 3), .int (cs_si σ 4)])) := by
        exact ((((hc.sSi (fun q => match q with | 0 => nI n | 1 => cs_si σ 1 | 2 => cs_si σ 2 ||| ((13 &&& 15) <<< ((nI n * 4) &&& 31)) | 3 => cs_si σ 3 | _ => cs_si σ 4)).sSi (fun q => match q with | 0 => nI n | 1 => cs_si σ 1 ||| (0 <<< (nI n &&& 31)) | 2 => cs_si σ 2 ||| ((13 &&& 15) <<< ((nI n * 4) &&& 31)) | 3 => cs_si σ 3 | _ => cs_si σ 4)).sSa (k := 0) (by omega) _).sSa (k := 1) (by omega) _).sSi _
      have hK1 : ∀ zz, 100 ≤ zz → (rp_up (rp_up (rp_up (rp_up (rp_up (K) (3) (px_o 3 [.int (nI (cs_ti σ)), .ref (ad 4), .ref (ad 5), .ref (ad 6), .ref (ad 7), .ref (ad 8), .ref (ad 9), .ref (ad 10), .ref (ad 11), .int (nI n), .int (cs_si σ 1), .int ((cs_si σ 2) ||| ((((13 : Int32)) &&& ((15 : Int32))) <<< (((nI n) * ((4 : Int32))) &&& 31))), .int (cs_si σ 3), .int (cs_si σ 4)])) (3) (px_o 3 [.int (nI (cs_ti σ)), .ref (ad 4), .ref (ad 5), .ref (ad 6), .ref (ad 7), .ref (ad 8), .ref (ad 9), .ref (ad 10), .ref (ad 11), .int (nI n), .int ((cs_si σ 1) ||| (((0 : Int32)) <<< ((nI n) &&& 31))), .int ((cs_si σ 2) ||| ((((13 : Int32)) &&& ((15 : Int32))) <<< (((nI n) * ((4 : Int32))) &&& 31))), .int (cs_si σ 3), .int (cs_si σ 4)])) (4) (px_i 4 (upd (cs_sa σ 0) (n) (nI j)))) (5) (px_i 4 (upd (cs_sa σ 1) (n) (cs_bf σ j 4)))) (3) (px_o 3 [.int (nI (cs_ti σ)), .ref (ad 4), .ref (ad 5), .ref (ad 6), .ref (ad 7), .ref (ad 8), .ref (ad 9), .ref (ad 10), .ref (ad 11), .int ((nI n) + ((1 : Int32))), .int ((cs_si σ 1) ||| (((0 : Int32)) <<< ((nI n) &&& 31))), .int ((cs_si σ 2) ||| ((((13 : Int32)) &&& ((15 : Int32))) <<< (((nI n) * ((4 : Int32))) &&& 31))), .int (cs_si σ 3), .int (cs_si σ 4)])) zz = (K) zz := fun zz hzz => by rw [rp_up_n _ _ (by omega), rp_up_n _ _ (by omega), rp_up_n _ _ (by omega), rp_up_n _ _ (by omega), rp_up_n _ _ (by omega)]
      exact ⟨rfl, _, _, Or.inl ⟨c2, rfl⟩, Or.inr ⟨c4, rfl⟩, _, hR1, hc1, hK1⟩
    · iterate 4 refine px_go hX ?_
      refine ⟨_, _, (px_up_s _ _ _), rfl, ?_⟩
      iterate 3 refine px_go hX ?_
      refine ⟨_, (px_up_s _ _ _), Nat.le_of_ble_eq_true rfl, rfl, rfl, ?_⟩
      iterate 2 refine px_go hX ?_
      refine ⟨_, _, (px_up_s _ _ _), rfl, ?_⟩
      iterate 2 refine px_go hX ?_
      refine ⟨_, _, (px_up_s _ _ _), rfl, ?_⟩
      iterate 2 refine px_go hX ?_
      refine ⟨_, _, ((px_up_n _ _ (hR.ne hc.2.1.1 hc.1.2.2.2 (by omega))).trans ((px_up_n _ _ (hR.ne hc.2.1.1 hc.1.2.2.2 (by omega))).trans (hR.1 4 _ hc.2.1.1))), (vp_in_nI hn4 (by omega)), ?_⟩
      rw [nI_clamp (by omega)]
      iterate 2 refine px_go hX ?_
      refine ⟨_, _, ((px_up_n _ _ (hR.ne hc.1.2.2.2 hc.2.1.1 (by omega))).trans (px_up_s _ _ _)), rfl, ?_⟩
      iterate 2 refine px_go hX ?_
      refine ⟨_, _, ((px_up_n _ _ (hR.ne hc.1.2.2.2 hc.2.1.1 (by omega))).trans (px_up_s _ _ _)), rfl, ?_⟩
      iterate 2 refine px_go hX ?_
      refine ⟨_, _, ((px_up_n _ _ (hR.ne (hc.2.2.2.1 j hj) hc.2.1.1 (by omega))).trans ((px_up_n _ _ (hR.ne (hc.2.2.2.1 j hj) hc.1.2.2.2 (by omega))).trans ((px_up_n _ _ (hR.ne (hc.2.2.2.1 j hj) hc.1.2.2.2 (by omega))).trans (hR.1 _ _ (hc.2.2.2.1 j hj))))), rfl, ?_⟩
      refine px_go hX ?_
      refine ⟨_, _, ((px_up_n _ _ (hR.ne hc.2.1.2.1 hc.2.1.1 (by omega))).trans ((px_up_n _ _ (hR.ne hc.2.1.2.1 hc.1.2.2.2 (by omega))).trans ((px_up_n _ _ (hR.ne hc.2.1.2.1 hc.1.2.2.2 (by omega))).trans (hR.1 5 _ hc.2.1.2.1)))), (vp_in_nI hn4 (by omega)), ?_⟩
      rw [nI_clamp (by omega)]
      iterate 3 refine px_go hX ?_
      refine ⟨_, _, ((px_up_n _ _ (hR.ne hc.1.2.2.2 hc.2.1.2.1 (by omega))).trans ((px_up_n _ _ (hR.ne hc.1.2.2.2 hc.2.1.1 (by omega))).trans (px_up_s _ _ _))), rfl, ?_⟩
      iterate 3 refine px_go hX ?_
      refine ⟨_, ((px_up_n _ _ (hR.ne hc.1.2.2.2 hc.2.1.2.1 (by omega))).trans ((px_up_n _ _ (hR.ne hc.1.2.2.2 hc.2.1.1 (by omega))).trans (px_up_s _ _ _))), Nat.le_of_ble_eq_true rfl, rfl, rfl, ?_⟩
      refine px_go hX ?_
      have hR1 := (((((hR.put (i := 3) hc.1.2.2.2 (px_o 3 [.int (nI (cs_ti σ)), .ref (ad 4), .ref (ad 5), .ref (ad 6), .ref (ad 7), .ref (ad 8), .ref (ad 9), .ref (ad 10), .ref (ad 11), .int (nI n), .int (cs_si σ 1), .int ((cs_si σ 2) ||| ((((13 : Int32)) &&& ((15 : Int32))) <<< (((nI n) * ((4 : Int32))) &&& 31))), .int (cs_si σ 3), .int (cs_si σ 4)])).put (i := 3) (rp_up_s _ _ _) (px_o 3 [.int (nI (cs_ti σ)), .ref (ad 4), .ref (ad 5), .ref (ad 6), .ref (ad 7), .ref (ad 8), .ref (ad 9), .ref (ad 10), .ref (ad 11), .int (nI n), .int ((cs_si σ 1) ||| (((1 : Int32)) <<< ((nI n) &&& 31))), .int ((cs_si σ 2) ||| ((((13 : Int32)) &&& ((15 : Int32))) <<< (((nI n) * ((4 : Int32))) &&& 31))), .int (cs_si σ 3), .int (cs_si σ 4)])).put (i := 4) ((rp_up_n _ _ (by omega)).trans ((rp_up_n _ _ (by omega)).trans hc.2.1.1)) (px_i 4 (upd (cs_sa σ 0) (n) (nI j)))).put (i := 5) ((rp_up_n _ _ (by omega)).trans ((rp_up_n _ _ (by omega)).trans ((rp_up_n _ _ (by omega)).trans hc.2.1.2.1))) (px_i 4 (upd (cs_sa σ 1) (n) (cs_bf σ j 4)))).put (i := 3) ((rp_up_n _ _ (by omega)).trans ((rp_up_n _ _ (by omega)).trans (rp_up_s _ _ _))) (px_o 3 [.int (nI (cs_ti σ)), .ref (ad 4), .ref (ad 5), .ref (ad 6), .ref (ad 7), .ref (ad 8), .ref (ad 9), .ref (ad 10), .ref (ad 11), .int ((nI n) + ((1 : Int32))), .int ((cs_si σ 1) ||| (((1 : Int32)) <<< ((nI n) &&& 31))), .int ((cs_si σ 2) ||| ((((13 : Int32)) &&& ((15 : Int32))) <<< (((nI n) * ((4 : Int32))) &&& 31))), .int (cs_si σ 3), .int (cs_si σ 4)]))
      have hc1 : Cl ad (cs_ad σ j n (13) (1)) (rp_up (rp_up (rp_up (rp_up (rp_up (K) (3) (px_o 3 [.int (nI (cs_ti σ)), .ref (ad 4), .ref (ad 5), .ref (ad 6), .ref (ad 7), .ref (ad 8), .ref (ad 9), .ref (ad 10), .ref (ad 11), .int (nI n), .int (cs_si σ 1), .int ((cs_si σ 2) ||| ((((13 : Int32)) &&& ((15 : Int32))) <<< (((nI n) * ((4 : Int32))) &&& 31))), .int (cs_si σ 3), .int (cs_si σ 4)])) (3) (px_o 3 [.int (nI (cs_ti σ)), .ref (ad 4), .ref (ad 5), .ref (ad 6), .ref (ad 7), .ref (ad 8), .ref (ad 9), .ref (ad 10), .ref (ad 11), .int (nI n), .int ((cs_si σ 1) ||| (((1 : Int32)) <<< ((nI n) &&& 31))), .int ((cs_si σ 2) ||| ((((13 : Int32)) &&& ((15 : Int32))) <<< (((nI n) * ((4 : Int32))) &&& 31))), .int (cs_si σ 3), .int (cs_si σ 4)])) (4) (px_i 4 (upd (cs_sa σ 0) (n) (nI j)))) (5) (px_i 4 (upd (cs_sa σ 1) (n) (cs_bf σ j 4)))) (3) (px_o 3 [.int (nI (cs_ti σ)), .ref (ad 4), .ref (ad 5), .ref (ad 6), .ref (ad 7), .ref (ad 8), .ref (ad 9), .ref (ad 10), .ref (ad 11), .int ((nI n) + ((1 : Int32))), .int ((cs_si σ 1) ||| (((1 : Int32)) <<< ((nI n) &&& 31))), .int ((cs_si σ 2) ||| ((((13 : Int32)) &&& ((15 : Int32))) <<< (((nI n) * ((4 : Int32))) &&& 31))), .int (cs_si σ 3), .int (cs_si σ 4)])) := by
        exact ((((hc.sSi (fun q => match q with | 0 => nI n | 1 => cs_si σ 1 | 2 => cs_si σ 2 ||| ((13 &&& 15) <<< ((nI n * 4) &&& 31)) | 3 => cs_si σ 3 | _ => cs_si σ 4)).sSi (fun q => match q with | 0 => nI n | 1 => cs_si σ 1 ||| (1 <<< (nI n &&& 31)) | 2 => cs_si σ 2 ||| ((13 &&& 15) <<< ((nI n * 4) &&& 31)) | 3 => cs_si σ 3 | _ => cs_si σ 4)).sSa (k := 0) (by omega) _).sSa (k := 1) (by omega) _).sSi _
      have hK1 : ∀ zz, 100 ≤ zz → (rp_up (rp_up (rp_up (rp_up (rp_up (K) (3) (px_o 3 [.int (nI (cs_ti σ)), .ref (ad 4), .ref (ad 5), .ref (ad 6), .ref (ad 7), .ref (ad 8), .ref (ad 9), .ref (ad 10), .ref (ad 11), .int (nI n), .int (cs_si σ 1), .int ((cs_si σ 2) ||| ((((13 : Int32)) &&& ((15 : Int32))) <<< (((nI n) * ((4 : Int32))) &&& 31))), .int (cs_si σ 3), .int (cs_si σ 4)])) (3) (px_o 3 [.int (nI (cs_ti σ)), .ref (ad 4), .ref (ad 5), .ref (ad 6), .ref (ad 7), .ref (ad 8), .ref (ad 9), .ref (ad 10), .ref (ad 11), .int (nI n), .int ((cs_si σ 1) ||| (((1 : Int32)) <<< ((nI n) &&& 31))), .int ((cs_si σ 2) ||| ((((13 : Int32)) &&& ((15 : Int32))) <<< (((nI n) * ((4 : Int32))) &&& 31))), .int (cs_si σ 3), .int (cs_si σ 4)])) (4) (px_i 4 (upd (cs_sa σ 0) (n) (nI j)))) (5) (px_i 4 (upd (cs_sa σ 1) (n) (cs_bf σ j 4)))) (3) (px_o 3 [.int (nI (cs_ti σ)), .ref (ad 4), .ref (ad 5), .ref (ad 6), .ref (ad 7), .ref (ad 8), .ref (ad 9), .ref (ad 10), .ref (ad 11), .int ((nI n) + ((1 : Int32))), .int ((cs_si σ 1) ||| (((1 : Int32)) <<< ((nI n) &&& 31))), .int ((cs_si σ 2) ||| ((((13 : Int32)) &&& ((15 : Int32))) <<< (((nI n) * ((4 : Int32))) &&& 31))), .int (cs_si σ 3), .int (cs_si σ 4)])) zz = (K) zz := fun zz hzz => by rw [rp_up_n _ _ (by omega), rp_up_n _ _ (by omega), rp_up_n _ _ (by omega), rp_up_n _ _ (by omega), rp_up_n _ _ (by omega)]
      exact ⟨rfl, _, _, Or.inl ⟨c2, rfl⟩, Or.inl ⟨c4, rfl⟩, _, hR1, hc1, hK1⟩
theorem hs_t {c s k : Nat} (h1 : pl c k / 4 = s) (h2 : hs c s k ≤ pl c k % 4) : hs c s (k + 1) = pl c k % 4 + 1 := if_pos ⟨h1, h2⟩
theorem hs_f {c s k : Nat} (h : ¬ (pl c k / 4 = s ∧ hs c s k ≤ pl c k % 4)) : hs c s (k + 1) = hs c s k := if_neg h
theorem tp_t {c s k : Nat} (h1 : pl c k / 4 = s) (h2 : hs c s k ≤ pl c k % 4) : tp c s (k + 1) = k + 1 := if_pos ⟨h1, h2⟩
theorem tp_f {c s k : Nat} (h : ¬ (pl c k / 4 = s ∧ hs c s k ≤ pl c k % 4)) : tp c s (k + 1) = tp c s k := if_neg h
theorem cc_measureStacks (hR : Rp ad K C) (hc : Cl ad σ K) {n c : Nat} (hc4 : c < 65536) (hsz : cs_si σ 0 = nI n) (hn4 : n ≤ 4) : px_W ps_Y ps_P B sc (d + 2) 36 [.ref (ad 3), .int (nI c)] C 0 0 (fun v C' => v = none ∧ ∃ f : Nat → Nat → Int32, (∀ s, s < 3 → f 2 s = nI (hs c s n) ∧ f 3 s = nI (tp c s n) - 1) ∧ (∀ q, q ≠ 2 → q ≠ 3 → f q = cs_sa σ q) ∧ Ck ad (cs_jk σ (f, cs_sn σ, cs_si σ)) K C') px_no := by
  refine ⟨pm_Sea_measureStacks, rfl, Nat.le_of_ble_eq_true rfl, fun X hw hX => ?_⟩
  have loop2 : ∀ kk i (f : Nat → Nat → Int32) (K1 : rp_K) (C1 : px_P), i + kk = n → (Rp ad K1 C1 ∧ Cl ad (cs_jk σ (f, cs_sn σ, cs_si σ)) K1 ∧ (∀ i, 100 ≤ i → K1 i = K i) ∧ (∀ q, q ≠ 2 → q ≠ 3 → f q = cs_sa σ q) ∧ ∀ s, s < 3 → f 2 s = nI (hs c s i) ∧ f 3 s = nI (tp c s i) - 1) → X (29, [(0, .ref (ad 3)), (1, .int (nI c)), (2, .int (nI i))], [], C1, 0, 0) := by
    intro kk
    induction kk with
    | zero =>
      intro i f K1 C1 hi ⟨hR1, hc1, hK1, hf, hv⟩
      have hlt : i = n := hi
      have h3 : C1 (ad 3) = some (px_o 3 [.int (nI (cs_ti σ)), .ref (ad 4), .ref (ad 5), .ref (ad 6), .ref (ad 7), .ref (ad 8), .ref (ad 9), .ref (ad 10), .ref (ad 11), .int (nI n), .int (cs_si σ 1), .int (cs_si σ 2), .int (cs_si σ 3), .int (cs_si σ 4)]) := by rw [← hsz]; exact hR1.1 3 _ hc1.1.2.2.2
      iterate 3 refine px_go hX ?_
      refine ⟨_, _, h3, rfl, ?_⟩
      refine px_go hX ?_
      refine ⟨fun (c1 : nI n ≤ nI i) => ?_, fun (c1 : ¬ nI n ≤ nI i) => absurd (nI_le (by omega) (by omega)) c1⟩
      refine px_go hX ?_
      rw [hlt] at hv
      exact ⟨rfl, f, hv, hf, K1, hR1, hc1, hK1⟩
    | succ kk ih =>
      intro i f K1 C1 hi ⟨hR1, hc1, hK1, hf, hv⟩
      have hlt : i < n := by omega
      have h3 : C1 (ad 3) = some (px_o 3 [.int (nI (cs_ti σ)), .ref (ad 4), .ref (ad 5), .ref (ad 6), .ref (ad 7), .ref (ad 8), .ref (ad 9), .ref (ad 10), .ref (ad 11), .int (nI n), .int (cs_si σ 1), .int (cs_si σ 2), .int (cs_si σ 3), .int (cs_si σ 4)]) := by rw [← hsz]; exact hR1.1 3 _ hc1.1.2.2.2
      iterate 3 refine px_go hX ?_
      refine ⟨_, _, h3, rfl, ?_⟩
      refine px_go hX ?_
      refine ⟨fun (c2 : nI n ≤ nI i) => absurd c2 (nI_ge hlt (by omega)), fun (c2 : ¬ nI n ≤ nI i) => ?_⟩
      iterate 3 refine px_go hX ?_
      refine ⟨Nat.le_of_ble_eq_true rfl, 0, 0, _, Nat.le_of_ble_eq_true rfl, Nat.le_of_ble_eq_true rfl, Nat.le_of_ble_eq_true rfl, cc_placeOf hc4 (by omega), ?_⟩
      rintro _ C ⟨rfl, rfl⟩
      have h16 := pl_lt c i
      iterate 4 refine px_go hX ?_
      refine ⟨by decide +kernel, ?_⟩
      iterate 4 refine px_go hX ?_
      refine ⟨by decide +kernel, ?_⟩
      iterate 1 refine px_go hX ?_
      refine px_lw hw [(0, .ref (ad 3)), (1, .int (nI c)), (2, .int (nI i)), (3, .int (nI (pl c i))), (4, .int (nI (pl c i / 4))), (5, .int (nI (pl c i % 4)))] ?_ ⟨rfl, rfl, rfl, rfl, congrArg (fun z => some (Value.int z)) (pk_div (by omega) (by omega) (by omega) : nI (pl c i) / nI 4 = nI (pl c i / 4)), congrArg (fun z => some (Value.int z)) (pk_rem (by omega) (by omega) (by omega) : nI (pl c i) - nI (pl c i) / nI 4 * nI 4 = nI (pl c i % 4)), trivial⟩
      iterate 3 refine px_go hX ?_
      refine ⟨fun (c3 : (3 : Int32) ≤ nI (pl c i / 4)) => ?_, fun (c3 : ¬ (3 : Int32) ≤ nI (pl c i / 4)) => ?_⟩
      · iterate 2 refine px_go hX ?_
        exact px_lw hw [(0, .ref (ad 3)), (1, .int (nI c)), (2, .int (nI (i + 1)))] (ih (i + 1) f K1 _ (by omega) ⟨hR1, hc1, hK1, hf, fun s h3s => by
                have hno : ∀ s, s < 3 → ¬ (pl c i / 4 = s ∧ hs c s i ≤ pl c i % 4) := fun s h3s q => nI_ge (by omega : pl c i / 4 < 3) (by omega : 3 < 2 ^ 31) c3
                rw [hs_f (hno s h3s), tp_f (hno s h3s)]
                exact hv s h3s⟩) ⟨rfl, rfl, (congrArg (fun z => some (Value.int z)) (nI_succ _).symm), trivial⟩
      · have hs3 : pl c i / 4 < 3 := by
          rcases Nat.lt_or_ge (pl c i / 4) 3 with h | h
          · exact h
          · exact absurd (nI_le h (by omega) : nI 3 ≤ nI (pl c i / 4)) c3
        iterate 3 refine px_go hX ?_
        refine ⟨_, _, h3, rfl, ?_⟩
        iterate 2 refine px_go hX ?_
        refine ⟨_, _, (hR1.1 6 _ hc1.2.1.2.2.1), (vp_in_nI hs3 (by omega)), ?_⟩
        rw [nI_clamp (by omega), (show cs_sa (cs_jk σ (f, cs_sn σ, cs_si σ)) 2 (pl c i / 4) = nI (hs c (pl c i / 4) i) from (hv _ hs3).1)]
        refine px_go hX ?_
        refine ⟨fun (c4 : nI (pl c i % 4) < nI (hs c (pl c i / 4) i)) => ?_, fun (c4 : ¬ nI (pl c i % 4) < nI (hs c (pl c i / 4) i)) => ?_⟩
        · iterate 2 refine px_go hX ?_
          exact px_lw hw [(0, .ref (ad 3)), (1, .int (nI c)), (2, .int (nI (i + 1)))] (ih (i + 1) f K1 _ (by omega) ⟨hR1, hc1, hK1, hf, fun s h3s => by
                  have hno : ∀ s, s < 3 → ¬ (pl c i / 4 = s ∧ hs c s i ≤ pl c i % 4) := fun s h3s q => by
                    obtain ⟨q1, q2⟩ := q
                    subst q1
                    exact absurd c4 (nI_nlt q2 (by omega))
                  rw [hs_f (hno s h3s), tp_f (hno s h3s)]
                  exact hv s h3s⟩) ⟨rfl, rfl, (congrArg (fun z => some (Value.int z)) (nI_succ _).symm), trivial⟩
        · iterate 2 refine px_go hX ?_
          refine ⟨_, _, h3, rfl, ?_⟩
          iterate 5 refine px_go hX ?_
          refine ⟨_, _, (hR1.1 6 _ hc1.2.1.2.2.1), (vp_in_nI hs3 (by omega)), ?_⟩
          rw [nI_clamp (by omega)]
          iterate 2 refine px_go hX ?_
          refine ⟨_, _, ((px_up_n _ _ (hR1.ne hc1.1.2.2.2 hc1.2.1.2.2.1 (by omega))).trans h3), rfl, ?_⟩
          iterate 3 refine px_go hX ?_
          refine ⟨_, _, ((px_up_n _ _ (hR1.ne hc1.2.1.2.2.2.1 hc1.2.1.2.2.1 (by omega))).trans (hR1.1 7 _ hc1.2.1.2.2.2.1)), (vp_in_nI hs3 (by omega)), ?_⟩
          rw [nI_clamp (by omega)]
          iterate 2 refine px_go hX ?_
          have hR2 := ((hR1.put (i := 6) hc1.2.1.2.2.1 (px_i 3 (upd (f 2) ((pl c i / 4)) ((nI (pl c i % 4)) + ((1 : Int32)))))).put (i := 7) ((rp_up_n _ _ (by omega)).trans hc1.2.1.2.2.2.1) (px_i 3 (upd (f 3) ((pl c i / 4)) (nI i))))
          have hc2 : Cl ad (cs_jk σ (va_up (va_up f 2 (upd (f 2) ((pl c i / 4)) ((nI (pl c i % 4)) + ((1 : Int32))))) 3 (upd (f 3) ((pl c i / 4)) (nI i)), cs_sn σ, cs_si σ)) (rp_up (rp_up (K1) (6) (px_i 3 (upd (f 2) ((pl c i / 4)) ((nI (pl c i % 4)) + ((1 : Int32)))))) (7) (px_i 3 (upd (f 3) ((pl c i / 4)) (nI i)))) := by
            exact (hc1.sSa (k := 2) (by omega) _).sSa (k := 3) (by omega) _
          have hK2 : ∀ zz, 100 ≤ zz → (rp_up (rp_up (K1) (6) (px_i 3 (upd (f 2) ((pl c i / 4)) ((nI (pl c i % 4)) + ((1 : Int32)))))) (7) (px_i 3 (upd (f 3) ((pl c i / 4)) (nI i)))) zz = (K1) zz := fun zz hzz => by rw [rp_up_n _ _ (by omega), rp_up_n _ _ (by omega)]
          exact px_lw hw [(0, .ref (ad 3)), (1, .int (nI c)), (2, .int (nI (i + 1)))] (ih (i + 1) (va_up (va_up f 2 (upd (f 2) ((pl c i / 4)) ((nI (pl c i % 4)) + ((1 : Int32))))) 3 (upd (f 3) ((pl c i / 4)) (nI i))) _ _ (by omega) ⟨hR2, hc2, fun q hq => (hK2 q hq).trans (hK1 q hq), fun q h2 h3 => by rw [va_up_ne _ _ h3, va_up_ne _ _ h2]; exact hf q h2 h3, fun s h3s => by
                  have hle : hs c (pl c i / 4) i ≤ pl c i % 4 := by
                    rcases Nat.lt_or_ge (pl c i % 4) (hs c (pl c i / 4) i) with h | h
                    · exact absurd (nI_lt h (by have := hs_le c (pl c i / 4) i; omega)) c4
                    · exact h
                  show upd (f 2) (pl c i / 4) (nI (pl c i % 4) + 1) s = nI (hs c s (i + 1)) ∧ upd (f 3) (pl c i / 4) (nI i) s = nI (tp c s (i + 1)) - 1
                  by_cases h : s = pl c i / 4
                  · subst h
                    rw [pk_us, pk_us, hs_t rfl hle, tp_t rfl hle, nI_pred]
                    exact ⟨(nI_succ _).symm, rfl⟩
                  · rw [pk_un h, pk_un h, hs_f (fun q => h q.1.symm), tp_f (fun q => h q.1.symm)]
                    exact hv s h3s⟩) ⟨rfl, rfl, (congrArg (fun z => some (Value.int z)) (nI_succ _).symm), trivial⟩
  have loop1 : ∀ kk i (f : Nat → Nat → Int32) (K1 : rp_K) (C1 : px_P), i + kk = 3 → (Rp ad K1 C1 ∧ Cl ad (cs_jk σ (f, cs_sn σ, cs_si σ)) K1 ∧ (∀ i, 100 ≤ i → K1 i = K i) ∧ (∀ q, q ≠ 2 → q ≠ 3 → f q = cs_sa σ q) ∧ ∀ s, s < i → f 2 s = 0 ∧ f 3 s = -1) → X (2, [(0, .ref (ad 3)), (1, .int (nI c)), (2, .int (nI i))], [], C1, 0, 0) := by
    intro kk
    induction kk with
    | zero =>
      intro i f K1 C1 hi ⟨hR1, hc1, hK1, hf, hv⟩
      have hlt : i = 3 := hi
      iterate 3 refine px_go hX ?_
      refine ⟨fun (c5 : (3 : Int32) ≤ nI i) => ?_, fun (c5 : ¬ (3 : Int32) ≤ nI i) => absurd (by rw [hlt]; exact Int32.le_refl _) c5⟩
      iterate 2 refine px_go hX ?_
      exact px_lw hw [(0, .ref (ad 3)), (1, .int (nI c)), (2, .int (nI 0))] (loop2 (n - 0) 0 f K1 C1 (by omega) ⟨hR1, hc1, hK1, hf, fun s h3s => by rw [(hv s (by omega)).1, (hv s (by omega)).2]; exact ⟨rfl, rfl⟩⟩) ⟨rfl, rfl, rfl, trivial⟩
    | succ kk ih =>
      intro i f K1 C1 hi ⟨hR1, hc1, hK1, hf, hv⟩
      have hlt : i < 3 := by omega
      iterate 3 refine px_go hX ?_
      refine ⟨fun (c6 : (3 : Int32) ≤ nI i) => absurd c6 (nI_ge hlt (by omega : 3 < 2 ^ 31)), fun (c6 : ¬ (3 : Int32) ≤ nI i) => ?_⟩
      iterate 2 refine px_go hX ?_
      refine ⟨_, _, (hR1.1 3 _ hc1.1.2.2.2), rfl, ?_⟩
      iterate 3 refine px_go hX ?_
      refine ⟨_, _, (hR1.1 6 _ hc1.2.1.2.2.1), (vp_in_nI hlt (by omega)), ?_⟩
      rw [nI_clamp (by omega)]
      iterate 2 refine px_go hX ?_
      refine ⟨_, _, ((px_up_n _ _ (hR1.ne hc1.1.2.2.2 hc1.2.1.2.2.1 (by omega))).trans (hR1.1 3 _ hc1.1.2.2.2)), rfl, ?_⟩
      iterate 3 refine px_go hX ?_
      refine ⟨_, _, ((px_up_n _ _ (hR1.ne hc1.2.1.2.2.2.1 hc1.2.1.2.2.1 (by omega))).trans (hR1.1 7 _ hc1.2.1.2.2.2.1)), (vp_in_nI hlt (by omega)), ?_⟩
      rw [nI_clamp (by omega)]
      iterate 2 refine px_go hX ?_
      have hR2 := ((hR1.put (i := 6) hc1.2.1.2.2.1 (px_i 3 (upd (f 2) (i) ((0 : Int32))))).put (i := 7) ((rp_up_n _ _ (by omega)).trans hc1.2.1.2.2.2.1) (px_i 3 (upd (f 3) (i) ((-1 : Int32)))))
      have hc2 : Cl ad (cs_jk σ (va_up (va_up f 2 (upd (f 2) (i) ((0 : Int32)))) 3 (upd (f 3) (i) ((-1 : Int32))), cs_sn σ, cs_si σ)) (rp_up (rp_up (K1) (6) (px_i 3 (upd (f 2) (i) ((0 : Int32))))) (7) (px_i 3 (upd (f 3) (i) ((-1 : Int32))))) := by
        exact (hc1.sSa (k := 2) (by omega) _).sSa (k := 3) (by omega) _
      have hK2 : ∀ zz, 100 ≤ zz → (rp_up (rp_up (K1) (6) (px_i 3 (upd (f 2) (i) ((0 : Int32))))) (7) (px_i 3 (upd (f 3) (i) ((-1 : Int32))))) zz = (K1) zz := fun zz hzz => by rw [rp_up_n _ _ (by omega), rp_up_n _ _ (by omega)]
      exact px_lw hw [(0, .ref (ad 3)), (1, .int (nI c)), (2, .int (nI (i + 1)))] (ih (i + 1) (va_up (va_up f 2 (upd (f 2) (i) ((0 : Int32)))) 3 (upd (f 3) (i) ((-1 : Int32)))) _ _ (by omega) ⟨hR2, hc2, fun q hq => (hK2 q hq).trans (hK1 q hq), fun q h2 h3 => by rw [va_up_ne _ _ h3, va_up_ne _ _ h2]; exact hf q h2 h3, fun s h3s => by
              show upd (f 2) i 0 s = 0 ∧ upd (f 3) i (-1) s = -1
              rcases Nat.lt_succ_iff_lt_or_eq.mp h3s with h | h
              · rw [pk_un (by omega), pk_un (by omega)]
                exact hv s h
              · rw [h, pk_us, pk_us]
                exact ⟨rfl, rfl⟩⟩) ⟨rfl, rfl, (congrArg (fun z => some (Value.int z)) (nI_succ _).symm), trivial⟩
  iterate 2 refine px_go hX ?_
  exact px_lw hw [(0, .ref (ad 3)), (1, .int (nI c)), (2, .int (nI 0))] (loop1 (3 - 0) 0 (cs_sa σ) K C (by omega) ⟨hR, hc, fun _ _ => rfl, fun _ _ _ => rfl, fun s hs => absurd hs (Nat.not_lt_zero s)⟩) ⟨rfl, rfl, rfl, trivial⟩
end RL
end
section
/-! The search: reach. -/
section RM
variable {B : Nat} {sc : Option (Nat × Nat × (Nat → Int32))} {d : Nat} {ad : Nat → Nat} {σ : ck_S} {K : rp_K} {C : px_P}
def bitL (c : Nat) : Int64 := lN 1 <<< ((nI c &&& 63).toInt64 &&& 63)
theorem ie_row {c : Nat} (hc : c < 65536) : (nI c >>> ((6 : Int32) &&& 31)) &&& 1023 = nI (c / 64) := by
  rw [pk_shrN (by omega) _ 6 (by decide +kernel), pk_andN (by omega) 10 (by decide +kernel), Nat.mod_eq_of_lt (by omega)]
def cs_rc1 (σ : ck_S) (r c : Nat) (p s : Int32) : ck_S := cs_jk σ (va_up (va_up (va_up (cs_sa σ) 4 (upd (cs_sa σ 4) r (nI c))) 5 (upd (cs_sa σ 5) r p)) 6 (upd (cs_sa σ 6) r s), vp_updL (cs_sn σ) (c / 64) (cs_sn σ (c / 64) ||| bitL c), cs_si σ)
def cs_rc (σ : ck_S) (r c : Nat) (p s e : Int32) : ck_S := cs_sSi (cs_rc1 σ r c p s) (fun q => match q with | 0 => cs_si σ 0 | 1 => cs_si σ 1 | 2 => cs_si σ 2 | 3 => nI r + 1 | _ => e)
theorem cc_reach (hR : Rp ad K C) (hc : Cl ad σ K) {n c r : Nat} (hc4 : c < 65536) (hsz : cs_si σ 0 = nI n) (hn4 : n ≤ 4) (hr : cs_si σ 3 = nI r) (hr2 : r ≤ 1240) (p s : Int32) : px_W ps_Y ps_P B sc (d + 2) 34 [.ref (ad 3), .int (nI c), .int p, .int s] C 0 0 (fun v C' => v = none ∧ ((C' = C ∧ (¬ cs_si σ 4 = -1 ∨ 1240 ≤ r ∨ ¬ (cs_sn σ (c / 64) &&& bitL c) = 0)) ∨ (cs_si σ 4 = -1 ∧ r < 1240 ∧ (cs_sn σ (c / 64) &&& bitL c) = 0 ∧ Ck ad (cs_rc σ r c p s (if en (cs_lv σ) c n = true then nI r else -1)) K C'))) px_no := by
  have h3 : C (ad 3) = some (px_o 3 [.int (nI (cs_ti σ)), .ref (ad 4), .ref (ad 5), .ref (ad 6), .ref (ad 7), .ref (ad 8), .ref (ad 9), .ref (ad 10), .ref (ad 11), .int (cs_si σ 0), .int (cs_si σ 1), .int (cs_si σ 2), .int (nI r), .int (cs_si σ 4)]) := by rw [← hr]; exact hR.1 3 _ hc.1.2.2.2
  refine ⟨pm_Sea_reach, rfl, Nat.le_of_ble_eq_true rfl, fun X hw hX => ?_⟩
  iterate 12 refine px_go hX ?_
  refine px_lw hw [(0, .ref (ad 3)), (1, .int (nI c)), (2, .int (p)), (3, .int (s)), (4, .int (nI (c / 64))), (5, .long (bitL c))] ?_ ⟨rfl, rfl, rfl, rfl, congrArg (fun z => some (Value.int z)) (ie_row hc4), rfl, trivial⟩
  iterate 2 refine px_go hX ?_
  refine ⟨_, _, h3, rfl, ?_⟩
  iterate 2 refine px_go hX ?_
  refine ⟨fun (c1 : ¬ cs_si σ 4 = (-1 : Int32)) => ?_, fun (c1 : cs_si σ 4 = (-1 : Int32)) => ?_⟩
  · refine px_go hX ?_
    exact ⟨rfl, Or.inl ⟨rfl, Or.inl c1⟩⟩
  · iterate 2 refine px_go hX ?_
    refine ⟨_, _, h3, rfl, ?_⟩
    iterate 2 refine px_go hX ?_
    refine ⟨fun (c2 : (1240 : Int32) ≤ nI r) => ?_, fun (c2 : ¬ (1240 : Int32) ≤ nI r) => ?_⟩
    · refine px_go hX ?_
      exact ⟨rfl, Or.inl ⟨rfl, Or.inr (Or.inl (Nat.le_of_not_lt (fun w => nI_ge w (by omega : 1240 < 2 ^ 31) c2)))⟩⟩
    · have hrl : r < 1240 := by
        rcases Nat.lt_or_ge r 1240 with h | h
        · exact h
        · exact absurd (nI_le h (by omega) : nI 1240 ≤ nI r) c2
      iterate 2 refine px_go hX ?_
      refine ⟨_, _, h3, rfl, ?_⟩
      iterate 2 refine px_go hX ?_
      refine ⟨_, _, (hR.1 11 _ hc.2.1.2.2.2.2.2.2.2), (vp_in_nI (by omega) (by omega)), ?_⟩
      rw [nI_clamp (by omega)]
      iterate 5 refine px_go hX ?_
      refine ⟨fun (c3 : lg_cmp ((cs_sn σ (c / 64)) &&& (bitL c)) (lN 0) = 0) => ?_, fun (c3 : ¬ lg_cmp ((cs_sn σ (c / 64)) &&& (bitL c)) (lN 0) = 0) => ?_⟩
      · iterate 2 refine px_go hX ?_
        refine ⟨_, _, h3, rfl, ?_⟩
        iterate 3 refine px_go hX ?_
        refine ⟨_, _, (hR.1 11 _ hc.2.1.2.2.2.2.2.2.2), (vp_in_nI (by omega) (by omega)), ?_⟩
        rw [nI_clamp (by omega)]
        iterate 3 refine px_go hX ?_
        refine ⟨_, _, (hR.1 11 _ hc.2.1.2.2.2.2.2.2.2), (vp_in_nI (by omega) (by omega)), ?_⟩
        rw [nI_clamp (by omega)]
        iterate 2 refine px_go hX ?_
        refine ⟨_, _, ((px_up_n _ _ (hR.ne hc.1.2.2.2 hc.2.1.2.2.2.2.2.2.2 (by omega))).trans h3), rfl, ?_⟩
        iterate 2 refine px_go hX ?_
        refine ⟨_, _, ((px_up_n _ _ (hR.ne hc.1.2.2.2 hc.2.1.2.2.2.2.2.2.2 (by omega))).trans h3), rfl, ?_⟩
        iterate 2 refine px_go hX ?_
        refine ⟨_, _, ((px_up_n _ _ (hR.ne hc.2.1.2.2.2.2.1 hc.2.1.2.2.2.2.2.2.2 (by omega))).trans (hR.1 8 _ hc.2.1.2.2.2.2.1)), (vp_in_nI hrl (by omega)), ?_⟩
        rw [nI_clamp (by omega)]
        iterate 2 refine px_go hX ?_
        refine ⟨_, _, ((px_up_n _ _ (hR.ne hc.1.2.2.2 hc.2.1.2.2.2.2.1 (by omega))).trans ((px_up_n _ _ (hR.ne hc.1.2.2.2 hc.2.1.2.2.2.2.2.2.2 (by omega))).trans h3)), rfl, ?_⟩
        iterate 2 refine px_go hX ?_
        refine ⟨_, _, ((px_up_n _ _ (hR.ne hc.1.2.2.2 hc.2.1.2.2.2.2.1 (by omega))).trans ((px_up_n _ _ (hR.ne hc.1.2.2.2 hc.2.1.2.2.2.2.2.2.2 (by omega))).trans h3)), rfl, ?_⟩
        iterate 2 refine px_go hX ?_
        refine ⟨_, _, ((px_up_n _ _ (hR.ne hc.2.1.2.2.2.2.2.1 hc.2.1.2.2.2.2.1 (by omega))).trans ((px_up_n _ _ (hR.ne hc.2.1.2.2.2.2.2.1 hc.2.1.2.2.2.2.2.2.2 (by omega))).trans (hR.1 9 _ hc.2.1.2.2.2.2.2.1))), (vp_in_nI hrl (by omega)), ?_⟩
        rw [nI_clamp (by omega)]
        iterate 2 refine px_go hX ?_
        refine ⟨_, _, ((px_up_n _ _ (hR.ne hc.1.2.2.2 hc.2.1.2.2.2.2.2.1 (by omega))).trans ((px_up_n _ _ (hR.ne hc.1.2.2.2 hc.2.1.2.2.2.2.1 (by omega))).trans ((px_up_n _ _ (hR.ne hc.1.2.2.2 hc.2.1.2.2.2.2.2.2.2 (by omega))).trans h3))), rfl, ?_⟩
        iterate 2 refine px_go hX ?_
        refine ⟨_, _, ((px_up_n _ _ (hR.ne hc.1.2.2.2 hc.2.1.2.2.2.2.2.1 (by omega))).trans ((px_up_n _ _ (hR.ne hc.1.2.2.2 hc.2.1.2.2.2.2.1 (by omega))).trans ((px_up_n _ _ (hR.ne hc.1.2.2.2 hc.2.1.2.2.2.2.2.2.2 (by omega))).trans h3))), rfl, ?_⟩
        iterate 2 refine px_go hX ?_
        refine ⟨_, _, ((px_up_n _ _ (hR.ne hc.2.1.2.2.2.2.2.2.1 hc.2.1.2.2.2.2.2.1 (by omega))).trans ((px_up_n _ _ (hR.ne hc.2.1.2.2.2.2.2.2.1 hc.2.1.2.2.2.2.1 (by omega))).trans ((px_up_n _ _ (hR.ne hc.2.1.2.2.2.2.2.2.1 hc.2.1.2.2.2.2.2.2.2 (by omega))).trans (hR.1 10 _ hc.2.1.2.2.2.2.2.2.1)))), (vp_in_nI hrl (by omega)), ?_⟩
        rw [nI_clamp (by omega)]
        have hR1 := ((((hR.put (i := 11) hc.2.1.2.2.2.2.2.2.2 (px_j 1024 (vp_updL (cs_sn σ) (c / 64) ((cs_sn σ (c / 64)) ||| (bitL c))))).put (i := 8) ((rp_up_n _ _ (by omega)).trans hc.2.1.2.2.2.2.1) (px_i 1240 (upd (cs_sa σ 4) (r) (nI c)))).put (i := 9) ((rp_up_n _ _ (by omega)).trans ((rp_up_n _ _ (by omega)).trans hc.2.1.2.2.2.2.2.1)) (px_i 1240 (upd (cs_sa σ 5) (r) (p)))).put (i := 10) ((rp_up_n _ _ (by omega)).trans ((rp_up_n _ _ (by omega)).trans ((rp_up_n _ _ (by omega)).trans hc.2.1.2.2.2.2.2.2.1))) (px_i 1240 (upd (cs_sa σ 6) (r) (s))))
        have hc1 : Cl ad (cs_rc1 σ r c p s) (rp_up (rp_up (rp_up (rp_up (K) (11) (px_j 1024 (vp_updL (cs_sn σ) (c / 64) ((cs_sn σ (c / 64)) ||| (bitL c))))) (8) (px_i 1240 (upd (cs_sa σ 4) (r) (nI c)))) (9) (px_i 1240 (upd (cs_sa σ 5) (r) (p)))) (10) (px_i 1240 (upd (cs_sa σ 6) (r) (s)))) := by
          exact (((hc.sSn _).sSa (k := 4) (by omega) _).sSa (k := 5) (by omega) _).sSa (k := 6) (by omega) _
        have hK1 : ∀ zz, 100 ≤ zz → (rp_up (rp_up (rp_up (rp_up (K) (11) (px_j 1024 (vp_updL (cs_sn σ) (c / 64) ((cs_sn σ (c / 64)) ||| (bitL c))))) (8) (px_i 1240 (upd (cs_sa σ 4) (r) (nI c)))) (9) (px_i 1240 (upd (cs_sa σ 5) (r) (p)))) (10) (px_i 1240 (upd (cs_sa σ 6) (r) (s)))) zz = (K) zz := fun zz hzz => by rw [rp_up_n _ _ (by omega), rp_up_n _ _ (by omega), rp_up_n _ _ (by omega), rp_up_n _ _ (by omega)]
        iterate 3 refine px_go hX ?_
        refine ⟨_, ((px_up_n _ _ (hR.ne hc.1.2.2.2 hc.2.1.2.2.2.2.2.2.1 (by omega))).trans ((px_up_n _ _ (hR.ne hc.1.2.2.2 hc.2.1.2.2.2.2.2.1 (by omega))).trans ((px_up_n _ _ (hR.ne hc.1.2.2.2 hc.2.1.2.2.2.2.1 (by omega))).trans ((px_up_n _ _ (hR.ne hc.1.2.2.2 hc.2.1.2.2.2.2.2.2.2 (by omega))).trans h3)))), 0, 0, _, Nat.le_of_ble_eq_true rfl, Nat.le_of_ble_eq_true rfl, Nat.le_of_ble_eq_true rfl, cc_isEnd (σ := cs_rc1 σ r c p s) hR1 hc1 hc4 hsz hn4, ?_⟩
        rintro _ C ⟨rfl, ⟨b4, rfl⟩ | ⟨b4, rfl⟩⟩
        · refine px_go hX ?_
          refine ⟨fun (c5 : 1 = 0) => absurd c5 (by decide), fun (c5 : ¬ 1 = 0) => ?_⟩
          iterate 3 refine px_go hX ?_
          refine ⟨_, _, ((px_up_n _ _ (hR.ne hc.1.2.2.2 hc.2.1.2.2.2.2.2.2.1 (by omega))).trans ((px_up_n _ _ (hR.ne hc.1.2.2.2 hc.2.1.2.2.2.2.2.1 (by omega))).trans ((px_up_n _ _ (hR.ne hc.1.2.2.2 hc.2.1.2.2.2.2.1 (by omega))).trans ((px_up_n _ _ (hR.ne hc.1.2.2.2 hc.2.1.2.2.2.2.2.2.2 (by omega))).trans h3)))), rfl, ?_⟩
          refine px_go hX ?_
          refine ⟨_, ((px_up_n _ _ (hR.ne hc.1.2.2.2 hc.2.1.2.2.2.2.2.2.1 (by omega))).trans ((px_up_n _ _ (hR.ne hc.1.2.2.2 hc.2.1.2.2.2.2.2.1 (by omega))).trans ((px_up_n _ _ (hR.ne hc.1.2.2.2 hc.2.1.2.2.2.2.1 (by omega))).trans ((px_up_n _ _ (hR.ne hc.1.2.2.2 hc.2.1.2.2.2.2.2.2.2 (by omega))).trans h3)))), Nat.le_of_ble_eq_true rfl, rfl, rfl, ?_⟩
          iterate 3 refine px_go hX ?_
          refine ⟨_, _, (px_up_s _ _ _), rfl, ?_⟩
          iterate 3 refine px_go hX ?_
          refine ⟨_, (px_up_s _ _ _), Nat.le_of_ble_eq_true rfl, rfl, rfl, ?_⟩
          refine px_go hX ?_
          have hR2 := ((hR1.put (i := 3) hc1.1.2.2.2 (px_o 3 [.int (nI (cs_ti σ)), .ref (ad 4), .ref (ad 5), .ref (ad 6), .ref (ad 7), .ref (ad 8), .ref (ad 9), .ref (ad 10), .ref (ad 11), .int (cs_si σ 0), .int (cs_si σ 1), .int (cs_si σ 2), .int (nI r), .int (nI r)])).put (i := 3) (rp_up_s _ _ _) (px_o 3 [.int (nI (cs_ti σ)), .ref (ad 4), .ref (ad 5), .ref (ad 6), .ref (ad 7), .ref (ad 8), .ref (ad 9), .ref (ad 10), .ref (ad 11), .int (cs_si σ 0), .int (cs_si σ 1), .int (cs_si σ 2), .int ((nI r) + ((1 : Int32))), .int (nI r)]))
          have hc2 : Cl ad (cs_rc σ r c p s (nI r)) (rp_up (rp_up (rp_up (rp_up (rp_up (rp_up (K) (11) (px_j 1024 (vp_updL (cs_sn σ) (c / 64) ((cs_sn σ (c / 64)) ||| (bitL c))))) (8) (px_i 1240 (upd (cs_sa σ 4) (r) (nI c)))) (9) (px_i 1240 (upd (cs_sa σ 5) (r) (p)))) (10) (px_i 1240 (upd (cs_sa σ 6) (r) (s)))) (3) (px_o 3 [.int (nI (cs_ti σ)), .ref (ad 4), .ref (ad 5), .ref (ad 6), .ref (ad 7), .ref (ad 8), .ref (ad 9), .ref (ad 10), .ref (ad 11), .int (cs_si σ 0), .int (cs_si σ 1), .int (cs_si σ 2), .int (nI r), .int (nI r)])) (3) (px_o 3 [.int (nI (cs_ti σ)), .ref (ad 4), .ref (ad 5), .ref (ad 6), .ref (ad 7), .ref (ad 8), .ref (ad 9), .ref (ad 10), .ref (ad 11), .int (cs_si σ 0), .int (cs_si σ 1), .int (cs_si σ 2), .int ((nI r) + ((1 : Int32))), .int (nI r)])) := by
            exact (hc1.sSi (fun q => match q with | 0 => cs_si σ 0 | 1 => cs_si σ 1 | 2 => cs_si σ 2 | 3 => nI r | _ => nI r)).sSi _
          have hK2 : ∀ zz, 100 ≤ zz → (rp_up (rp_up (rp_up (rp_up (rp_up (rp_up (K) (11) (px_j 1024 (vp_updL (cs_sn σ) (c / 64) ((cs_sn σ (c / 64)) ||| (bitL c))))) (8) (px_i 1240 (upd (cs_sa σ 4) (r) (nI c)))) (9) (px_i 1240 (upd (cs_sa σ 5) (r) (p)))) (10) (px_i 1240 (upd (cs_sa σ 6) (r) (s)))) (3) (px_o 3 [.int (nI (cs_ti σ)), .ref (ad 4), .ref (ad 5), .ref (ad 6), .ref (ad 7), .ref (ad 8), .ref (ad 9), .ref (ad 10), .ref (ad 11), .int (cs_si σ 0), .int (cs_si σ 1), .int (cs_si σ 2), .int (nI r), .int (nI r)])) (3) (px_o 3 [.int (nI (cs_ti σ)), .ref (ad 4), .ref (ad 5), .ref (ad 6), .ref (ad 7), .ref (ad 8), .ref (ad 9), .ref (ad 10), .ref (ad 11), .int (cs_si σ 0), .int (cs_si σ 1), .int (cs_si σ 2), .int ((nI r) + ((1 : Int32))), .int (nI r)])) zz = (rp_up (rp_up (rp_up (rp_up (K) (11) (px_j 1024 (vp_updL (cs_sn σ) (c / 64) ((cs_sn σ (c / 64)) ||| (bitL c))))) (8) (px_i 1240 (upd (cs_sa σ 4) (r) (nI c)))) (9) (px_i 1240 (upd (cs_sa σ 5) (r) (p)))) (10) (px_i 1240 (upd (cs_sa σ 6) (r) (s)))) zz := fun zz hzz => by rw [rp_up_n _ _ (by omega), rp_up_n _ _ (by omega)]
          refine ⟨rfl, Or.inr ⟨c1, hrl, (lg_cmp_eq _ _).mp c3, ?_⟩⟩
          rw [if_pos (show en (cs_lv σ) c n = true from b4)]
          exact ⟨_, hR2, hc2, fun q hq => (hK2 q hq).trans (hK1 q hq)⟩
        · refine px_go hX ?_
          refine ⟨fun (c6 : 0 = 0) => ?_, fun (c6 : ¬ 0 = 0) => absurd rfl c6⟩
          iterate 3 refine px_go hX ?_
          refine ⟨_, _, ((px_up_n _ _ (hR.ne hc.1.2.2.2 hc.2.1.2.2.2.2.2.2.1 (by omega))).trans ((px_up_n _ _ (hR.ne hc.1.2.2.2 hc.2.1.2.2.2.2.2.1 (by omega))).trans ((px_up_n _ _ (hR.ne hc.1.2.2.2 hc.2.1.2.2.2.2.1 (by omega))).trans ((px_up_n _ _ (hR.ne hc.1.2.2.2 hc.2.1.2.2.2.2.2.2.2 (by omega))).trans h3)))), rfl, ?_⟩
          iterate 3 refine px_go hX ?_
          refine ⟨_, ((px_up_n _ _ (hR.ne hc.1.2.2.2 hc.2.1.2.2.2.2.2.2.1 (by omega))).trans ((px_up_n _ _ (hR.ne hc.1.2.2.2 hc.2.1.2.2.2.2.2.1 (by omega))).trans ((px_up_n _ _ (hR.ne hc.1.2.2.2 hc.2.1.2.2.2.2.1 (by omega))).trans ((px_up_n _ _ (hR.ne hc.1.2.2.2 hc.2.1.2.2.2.2.2.2.2 (by omega))).trans h3)))), Nat.le_of_ble_eq_true rfl, rfl, rfl, ?_⟩
          refine px_go hX ?_
          have hR2 := (hR1.put (i := 3) hc1.1.2.2.2 (px_o 3 [.int (nI (cs_ti σ)), .ref (ad 4), .ref (ad 5), .ref (ad 6), .ref (ad 7), .ref (ad 8), .ref (ad 9), .ref (ad 10), .ref (ad 11), .int (cs_si σ 0), .int (cs_si σ 1), .int (cs_si σ 2), .int ((nI r) + ((1 : Int32))), .int (cs_si σ 4)]))
          have hc2 : Cl ad (cs_rc σ r c p s (cs_si σ 4)) (rp_up (rp_up (rp_up (rp_up (rp_up (K) (11) (px_j 1024 (vp_updL (cs_sn σ) (c / 64) ((cs_sn σ (c / 64)) ||| (bitL c))))) (8) (px_i 1240 (upd (cs_sa σ 4) (r) (nI c)))) (9) (px_i 1240 (upd (cs_sa σ 5) (r) (p)))) (10) (px_i 1240 (upd (cs_sa σ 6) (r) (s)))) (3) (px_o 3 [.int (nI (cs_ti σ)), .ref (ad 4), .ref (ad 5), .ref (ad 6), .ref (ad 7), .ref (ad 8), .ref (ad 9), .ref (ad 10), .ref (ad 11), .int (cs_si σ 0), .int (cs_si σ 1), .int (cs_si σ 2), .int ((nI r) + ((1 : Int32))), .int (cs_si σ 4)])) := by
            exact hc1.sSi _
          have hK2 : ∀ zz, 100 ≤ zz → (rp_up (rp_up (rp_up (rp_up (rp_up (K) (11) (px_j 1024 (vp_updL (cs_sn σ) (c / 64) ((cs_sn σ (c / 64)) ||| (bitL c))))) (8) (px_i 1240 (upd (cs_sa σ 4) (r) (nI c)))) (9) (px_i 1240 (upd (cs_sa σ 5) (r) (p)))) (10) (px_i 1240 (upd (cs_sa σ 6) (r) (s)))) (3) (px_o 3 [.int (nI (cs_ti σ)), .ref (ad 4), .ref (ad 5), .ref (ad 6), .ref (ad 7), .ref (ad 8), .ref (ad 9), .ref (ad 10), .ref (ad 11), .int (cs_si σ 0), .int (cs_si σ 1), .int (cs_si σ 2), .int ((nI r) + ((1 : Int32))), .int (cs_si σ 4)])) zz = (rp_up (rp_up (rp_up (rp_up (K) (11) (px_j 1024 (vp_updL (cs_sn σ) (c / 64) ((cs_sn σ (c / 64)) ||| (bitL c))))) (8) (px_i 1240 (upd (cs_sa σ 4) (r) (nI c)))) (9) (px_i 1240 (upd (cs_sa σ 5) (r) (p)))) (10) (px_i 1240 (upd (cs_sa σ 6) (r) (s)))) zz := fun zz hzz => by rw [rp_up_n _ _ (by omega)]
          refine ⟨rfl, Or.inr ⟨c1, hrl, (lg_cmp_eq _ _).mp c3, ?_⟩⟩
          rw [if_neg (show ¬ en (cs_lv σ) c n = true from b4), ← c1]
          exact ⟨_, hR2, hc2, fun q hq => (hK2 q hq).trans (hK1 q hq)⟩
      · refine px_go hX ?_
        exact ⟨rfl, Or.inl ⟨rfl, Or.inr (Or.inr (fun w => c3 ((lg_cmp_eq _ _).mpr w)))⟩⟩
end RM
end
section
/-! The search's queue: codes with the place they came from (0 none) and the step; then the end (0 none). -/
abbrev qE : Type := Nat × Nat × Nat
abbrev qS : Type := List qE × Nat
def qc (Q : List qE) : List Nat := Q.map (fun x => x.1)
def rch (ep : Nat → Bool) (S : qS) (x : qE) : qS := if ¬ S.2 = 0 ∨ 1240 ≤ S.1.length ∨ x.1 ∈ qc S.1 then S else (S.1 ++ [x], if ep x.1 = true then S.1.length + 1 else 0)
def rchl (ep : Nat → Bool) (p : Nat) (S : qS) (l : List (Nat × Nat)) : qS := l.foldl (fun S x => rch ep S (x.1, p, x.2)) S
theorem rchl_app (ep : Nat → Bool) (p : Nat) (S : qS) (l l' : List (Nat × Nat)) : rchl ep p S (l ++ l') = rchl ep p (rchl ep p S l) l' := List.foldl_append
def lb (x : Int64) (m : Nat) : Bool := x.toBitVec.getLsbD m
def bl (m : Nat) : Int64 := lN 1 <<< ((nI m).toInt64 &&& 63)
theorem bl_lb : ∀ m, m < 64 → ∀ i, i < 64 → lb (bl m) i = decide (i = m) := by decide +kernel
theorem bitL_bl (c : Nat) (hc : c < 65536) : bitL c = bl (c % 64) := by
  unfold bitL bl
  rw [pk_andN (by omega) 6 (by decide +kernel)]
theorem lb_zero {x : Int64} (h : ∀ m, m < 64 → lb x m = false) : x = 0 := Int64.toBitVec_inj.mp (BitVec.eq_of_getLsbD_eq (fun i hi => by
  rw [show x.toBitVec.getLsbD i = false from h i hi]
  exact (BitVec.getLsbD_zero).symm))
theorem lb_and (x y : Int64) (m : Nat) : lb (x &&& y) m = (lb x m && lb y m) := BitVec.getLsbD_and
theorem lb_or (x y : Int64) (m : Nat) : lb (x ||| y) m = (lb x m || lb y m) := BitVec.getLsbD_or
theorem lb_0 (m : Nat) : lb 0 m = false := BitVec.getLsbD_zero
theorem lb_iff {x : Int64} {m : Nat} (hm : m < 64) : (x &&& bl m) = 0 ↔ lb x m = false := by
  constructor
  · intro h
    have h2 : lb (x &&& bl m) m = false := by rw [h]; exact lb_0 m
    rw [lb_and, bl_lb m hm m hm] at h2
    simpa using h2
  · intro h
    refine lb_zero (fun i hi => ?_)
    rw [lb_and, bl_lb m hm i hi]
    by_cases hq : i = m
    · rw [hq, h]
      rfl
    · simp [hq]
/-- the class's arrays hold the queue -/
def Sq (σ : ck_S) (S : qS) : Prop :=
  cs_si σ 3 = nI S.1.length ∧ S.1.length ≤ 1240 ∧ cs_si σ 4 = nI S.2 - 1 ∧ S.2 ≤ S.1.length ∧
  (∀ i x, S.1[i]? = some x → cs_sa σ 4 i = nI x.1 ∧ cs_sa σ 5 i = nI x.2.1 - 1 ∧ cs_sa σ 6 i = nI x.2.2 ∧ x.1 < 65536) ∧
  ∀ c, c < 65536 → (lb (cs_sn σ (c / 64)) (c % 64) = true ↔ c ∈ qc S.1)
/-- another state of the search with the same boxes -/
def Fr (σ σ' : ck_S) : Prop := ∃ J : cs_J, σ' = cs_jk σ J ∧ (∀ q, q < 4 → J.1 q = cs_sa σ q) ∧ ∀ q, q < 3 → J.2.2 q = cs_si σ q
theorem Fr.rf (σ : ck_S) : Fr σ σ := ⟨σ.2.2.2.2.2, rfl, fun _ _ => rfl, fun _ _ => rfl⟩
theorem Fr.tr {σ σ1 σ2 : ck_S} (h : Fr σ σ1) (h2 : Fr σ1 σ2) : Fr σ σ2 := by
  obtain ⟨J, rfl, a, b⟩ := h
  obtain ⟨J2, rfl, a2, b2⟩ := h2
  exact ⟨J2, rfl, fun q hq => (a2 q hq).trans (a q hq), fun q hq => (b2 q hq).trans (b q hq)⟩
theorem Fr.sa {σ σ' : ck_S} (h : Fr σ σ') {q : Nat} (hq : q < 4) : cs_sa σ' q = cs_sa σ q := by
  obtain ⟨J, rfl, a, b⟩ := h
  exact a q hq
theorem Fr.si {σ σ' : ck_S} (h : Fr σ σ') {q : Nat} (hq : q < 3) : cs_si σ' q = cs_si σ q := by
  obtain ⟨J, rfl, a, b⟩ := h
  exact b q hq
theorem Fr.lv {σ σ' : ck_S} (h : Fr σ σ') : cs_lv σ' = cs_lv σ := by
  funext k
  unfold cs_lv
  rw [h.si (by omega : 1 < 3)]
theorem Fr.nd {σ σ' : ck_S} (h : Fr σ σ') : cs_ndk σ' = cs_ndk σ := by
  funext k j
  unfold cs_ndk
  rw [h.sa (by omega : 1 < 4), h.sa (by omega : 0 < 4)]
theorem Fr.ti {σ σ' : ck_S} (h : Fr σ σ') : cs_ti σ' = cs_ti σ := by
  obtain ⟨J, rfl, a, b⟩ := h
  rfl
theorem nI_m1 {a : Nat} (ha : a < 2 ^ 31) : nI a - 1 = -1 ↔ a = 0 := by
  constructor
  · intro h
    cases a with
    | zero => rfl
    | succ a =>
      rw [nI_pred] at h
      have := congrArg Int32.toInt h
      rw [nI_toInt (by omega)] at this
      have h2 : (-1 : Int32).toInt = -1 := by decide +kernel
      omega
  · intro h
    rw [h]
    decide +kernel
/-- what reach does to the queue -/
theorem Sq.reach {σ : ck_S} {S : qS} (h : Sq σ S) {n c : Nat} (hc4 : c < 65536) (p s : Nat) :
    ((¬ cs_si σ 4 = -1 ∨ 1240 ≤ S.1.length ∨ ¬ (cs_sn σ (c / 64) &&& bitL c) = 0) → rch (fun c => en (cs_lv σ) c n) S (c, p, s) = S) ∧
    (cs_si σ 4 = -1 → S.1.length < 1240 → (cs_sn σ (c / 64) &&& bitL c) = 0 → Sq (cs_rc σ S.1.length c (nI p - 1) (nI s) (if en (cs_lv σ) c n = true then nI S.1.length else -1)) (rch (fun c => en (cs_lv σ) c n) S (c, p, s))) := by
  obtain ⟨h1, h2, h3, h4, h5, h6⟩ := h
  have hb : (cs_sn σ (c / 64) &&& bitL c) = 0 ↔ c ∉ qc S.1 := by
    rw [bitL_bl c hc4, lb_iff (by omega), ← h6 c hc4]
    cases lb (cs_sn σ (c / 64)) (c % 64) <;> simp
  have he : cs_si σ 4 = -1 ↔ S.2 = 0 := by rw [h3]; exact nI_m1 (by omega)
  constructor
  · intro hq
    refine if_pos ?_
    rcases hq with hq | hq | hq
    · exact Or.inl (fun w => hq (he.mpr w))
    · exact Or.inr (Or.inl hq)
    · exact Or.inr (Or.inr (Classical.not_not.mp (fun w => hq (hb.mpr w))))
  · intro q1 q2 q3
    have q1 := he.mp q1
    have q3 := hb.mp q3
    have hr : rch (fun c => en (cs_lv σ) c n) S (c, p, s) = (S.1 ++ [(c, p, s)], if en (cs_lv σ) c n = true then S.1.length + 1 else 0) := if_neg (fun w => by
      rcases w with w | w | w
      · exact w q1
      · omega
      · exact q3 w)
    rw [hr]
    refine ⟨?_, ?_, ?_, ?_, ?_, ?_⟩
    · show nI S.1.length + 1 = _
      rw [List.length_append]
      exact (nI_succ _).symm
    · rw [List.length_append]
      exact q2
    · show (if en (cs_lv σ) c n = true then nI S.1.length else -1) = nI (if en (cs_lv σ) c n = true then S.1.length + 1 else 0) - 1
      by_cases h : en (cs_lv σ) c n = true
      · rw [if_pos h, if_pos h, nI_pred]
      · rw [if_neg h, if_neg h]
        decide +kernel
    · rw [List.length_append]
      show (if en (cs_lv σ) c n = true then S.1.length + 1 else 0) ≤ S.1.length + 1
      split <;> omega
    · intro i x hx
      show upd (cs_sa σ 4) S.1.length (nI c) i = _ ∧ upd (cs_sa σ 5) S.1.length (nI p - 1) i = _ ∧ upd (cs_sa σ 6) S.1.length (nI s) i = _ ∧ _
      by_cases hi : i = S.1.length
      · have hx2 : x = (c, p, s) := by
          rw [hi, List.getElem?_append_right (Nat.le_refl _), Nat.sub_self] at hx
          exact (Option.some.inj hx).symm
        rw [hi, pk_us, pk_us, pk_us, hx2]
        exact ⟨rfl, rfl, rfl, hc4⟩
      · have hl : i < S.1.length := by
          have := (List.getElem?_eq_some_iff.mp hx).1
          rw [List.length_append] at this
          simp at this
          omega
        rw [pk_un hi, pk_un hi, pk_un hi]
        exact h5 i x (by rw [List.getElem?_append_left hl] at hx; exact hx)
    · intro c' hc'
      show lb (vp_updL (cs_sn σ) (c / 64) (cs_sn σ (c / 64) ||| bitL c) (c' / 64)) (c' % 64) = true ↔ c' ∈ qc (S.1 ++ [(c, p, s)])
      have hm : c' ∈ qc (S.1 ++ [(c, p, s)]) ↔ c' ∈ qc S.1 ∨ c' = c := by simp [qc]
      rw [hm, ← h6 c' hc']
      by_cases hrow : c' / 64 = c / 64
      · rw [hrow, pk_uLs, lb_or, bitL_bl c hc4, bl_lb (c % 64) (by omega) (c' % 64) (by omega)]
        by_cases hq : c' % 64 = c % 64
        · have : c' = c := by omega
          simp [this]
        · have : c' ≠ c := fun w => hq (by rw [w])
          simp [hq, this]
      · rw [pk_uLn hrow]
        have : c' ≠ c := fun w => hrow (by rw [w])
        simp [this]
theorem Fr.rc (σ : ck_S) (r c : Nat) (p s e : Int32) : Fr σ (cs_rc σ r c p s e) := by
  refine ⟨_, rfl, fun q hq => ?_, fun q hq => ?_⟩
  · show va_up (va_up (va_up (cs_sa σ) 4 _) 5 _) 6 _ q = _
    rw [va_up_ne _ _ (by omega), va_up_ne _ _ (by omega), va_up_ne _ _ (by omega)]
  · match q, hq with
    | 0, _ => rfl
    | 1, _ => rfl
    | 2, _ => rfl
end
section
/-! A method's answer may be said more weakly; reach, said of the queue. -/
theorem px_s1v_m {st : List Value} {f g : Int32 → Prop} (h : ∀ v, f v → g v) (q : px_s1v st f) : px_s1v st g := by
  unfold px_s1v at *
  split at q
  · exact h _ q
  · exact q.elim
theorem px_s1l_m {st : List Value} {f g : Int64 → Prop} (h : ∀ v, f v → g v) (q : px_s1l st f) : px_s1l st g := by
  unfold px_s1l at *
  split at q
  · exact h _ q
  · exact q.elim
theorem px_s1a_m {st : List Value} {f g : Value → Prop} (h : ∀ v, f v → g v) (q : px_s1a st f) : px_s1a st g := by
  unfold px_s1a at *
  split at q
  · exact h _ q
  · exact h _ q
  · exact q.elim
theorem px_s0_m {st : List Value} {f g : Prop} (h : f → g) (q : px_s0 st f) : px_s0 st g := by
  unfold px_s0 at *
  split at q
  · exact h q
  · exact q.elim
theorem px_rt_m {ret : Option FieldType} {v : Int32} {f g : Prop} (h : f → g) (q : px_rt ret v f) : px_rt ret v g := by
  unfold px_rt at *
  split at q
  · exact h q
  · exact ⟨q.1, h q.2⟩
  · exact q.elim
theorem px_rl_m {ret : Option FieldType} {f g : Prop} (h : f → g) (q : px_rl ret f) : px_rl ret g := by
  unfold px_rl at *
  split at q
  · exact h q
  · exact q.elim
theorem px_ra_m {ret : Option FieldType} {f g : Prop} (h : f → g) (q : px_ra ret f) : px_ra ret g := by
  unfold px_ra at *
  split at q
  · exact h q
  · exact h q
  · exact q.elim
theorem px_rv_m {ret : Option FieldType} {f g : Prop} (h : f → g) (q : px_rv ret f) : px_rv ret g := by
  unfold px_rv at *
  split at q
  · exact h q
  · exact q.elim
theorem px_T_m {cal : px_Cal} {Y : px_L} {B mc ms : Nat} {sc : Option (Nat × Nat × (Nat → Int32))} {M : px_M} {Po Po' : Option Value → px_P → Prop} {Pt : Nat → px_P → Prop} {X : px_S → Prop} (hP : ∀ v C, Po v C → Po' v C) {s : px_S} (h : px_T cal Y B mc ms sc M Po Pt X s) : px_T cal Y B mc ms sc M Po' Pt X s := by
  unfold px_T at *
  cases hi : px_ft (px_co M) s.1 with
  | none => rw [hi] at h; exact h
  | some i =>
    rw [hi] at h
    show px_I cal Y B mc ms sc M.2.2.2.2.1 (px_po M) (px_hh M) Po' Pt X i s.1 s.2.1 s.2.2.1 s.2.2.2.1 s.2.2.2.2.1 s.2.2.2.2.2
    have h : px_I cal Y B mc ms sc M.2.2.2.2.1 (px_po M) (px_hh M) Po Pt X i s.1 s.2.1 s.2.2.1 s.2.2.2.1 s.2.2.2.2.1 s.2.2.2.2.2 := h
    cases i with
    | ireturn => exact px_s1v_m (fun v q => px_rt_m (hP _ _) q) h
    | lreturn => exact px_s1l_m (fun v q => px_rl_m (hP _ _) q) h
    | areturn => exact px_s1a_m (fun v q => px_ra_m (hP _ _) q) h
    | return_ => exact px_s0_m (fun q => px_rv_m (hP _ _) q) h
    | _ => exact h
theorem px_Wp {Y : px_L} {P : List px_M} {B : Nat} {sc : Option (Nat × Nat × (Nat → Int32))} {d j : Nat} {av : List Value} {C : px_P} {mc ms : Nat} {Po Po' : Option Value → px_P → Prop} {Pt : Nat → px_P → Prop} (h : px_W Y P B sc d j av C mc ms Po Pt) (hP : ∀ v C, Po v C → Po' v C) : px_W Y P B sc d j av C mc ms Po' Pt := by
  cases d with
  | zero => exact h
  | succ d =>
    obtain ⟨M, h1, h2, h3⟩ := h
    exact ⟨M, h1, h2, fun X hw hX => h3 X hw (fun s hs => hX s (px_T_m hP hs))⟩
section RN
variable {B : Nat} {sc : Option (Nat × Nat × (Nat → Int32))} {d : Nat} {ad : Nat → Nat} {σ : ck_S} {K : rp_K} {C : px_P}
/-- the class at another state of its search, the queue as S -/
def Cq (ad : Nat → Nat) (σ : ck_S) (K : rp_K) (C : px_P) (S : qS) : Prop := ∃ σ' K', Rp ad K' C ∧ Cl ad σ' K' ∧ (∀ i, 100 ≤ i → K' i = K i) ∧ Fr σ σ' ∧ Sq σ' S
theorem cc_reachS (hR : Rp ad K C) (hc : Cl ad σ K) {S : qS} (hS : Sq σ S) {n c : Nat} (hc4 : c < 65536) (hsz : cs_si σ 0 = nI n) (hn4 : n ≤ 4) (p s : Nat) {pp : Int32} (hp : pp = nI p - 1) : px_W ps_Y ps_P B sc (d + 2) 34 [.ref (ad 3), .int (nI c), .int pp, .int (nI s)] C 0 0 (fun v C' => v = none ∧ Cq ad σ K C' (rch (fun c => en (cs_lv σ) c n) S (c, p, s))) px_no := by
  subst hp
  refine px_Wp (cc_reach hR hc hc4 hsz hn4 hS.1 hS.2.1 (nI p - 1) (nI s)) ?_
  rintro v C' ⟨rfl, ⟨rfl, hq⟩ | ⟨q1, q2, q3, K', k1, k2, k3⟩⟩
  · rw [(hS.reach hc4 p s).1 hq]
    exact ⟨rfl, σ, K, hR, hc, fun _ _ => rfl, Fr.rf σ, hS⟩
  · exact ⟨rfl, _, K', k1, k2, k3, Fr.rc _ _ _ _ _ _, (hS.reach hc4 p s).2 q1 q2 q3⟩
end RN
end
section
/-! The search: the moves that are tried. -/
def tsl (n t c k f : Nat) : Nat → List (Nat × Nat)
  | 0 => []
  | i + 1 => tsl n t c k f i ++ (if ¬ i = f ∧ hs c i n < t then [(wp c k (i * 4 + hs c i n), 64 * k + 8 * f + i)] else [])
theorem tsl_t {n t c k f i : Nat} (h : ¬ i = f ∧ hs c i n < t) : tsl n t c k f (i + 1) = tsl n t c k f i ++ [(wp c k (i * 4 + hs c i n), 64 * k + 8 * f + i)] := by
  show _ ++ (if _ then _ else _) = _
  rw [if_pos h]
theorem tsl_f {n t c k f i : Nat} (h : ¬ (¬ i = f ∧ hs c i n < t)) : tsl n t c k f (i + 1) = tsl n t c k f i := by
  show _ ++ (if _ then _ else _) = _
  rw [if_neg h, List.append_nil]
theorem rchl_1 (ep : Nat → Bool) (p : Nat) (S : qS) (l : List (Nat × Nat)) (x : Nat × Nat) : rchl ep p S (l ++ [x]) = rch ep (rchl ep p S l) (x.1, p, x.2) := by
  rw [rchl_app]
  rfl
/-- the moves of the top of stack f, of the tops of the first stacks, of boxes aside -/
def ttl1 (n t : Nat) (mg : Nat → Bool) (c f : Nat) : List (Nat × Nat) := if tp c f n = 0 then [] else tsl n t c (tp c f n - 1) f 3 ++ (if mg (tp c f n - 1) = true then [(wp c (tp c f n - 1) 12, 64 * (tp c f n - 1) + 8 * f + 3)] else []) ++ [(wp c (tp c f n - 1) 13, 64 * (tp c f n - 1) + 8 * f + 4)]
def ttl (n t : Nat) (mg : Nat → Bool) (c : Nat) : Nat → List (Nat × Nat)
  | 0 => []
  | f + 1 => ttl n t mg c f ++ ttl1 n t mg c f
def asc (c : Nat) : Nat → Nat
  | 0 => 0
  | k + 1 => if pl c k = 13 then asc c k + 1 else asc c k
def asl (n t c : Nat) : Nat → List (Nat × Nat)
  | 0 => []
  | k + 1 => if pl c k = 13 then asl n t c k ++ tsl n t c k (3 + asc c k) 3 else asl n t c k
theorem asc_le (c : Nat) : ∀ k, asc c k ≤ k
  | 0 => Nat.le_refl 0
  | k + 1 => by
    have := asc_le c k
    unfold asc
    split <;> omega
def mgc (σ : ck_S) (n c k : Nat) : Bool := cs_lv σ k && mgj (cs_ndk σ) c k n
def sucl (σ : ck_S) (n c : Nat) : List (Nat × Nat) := ttl n (cs_ti σ) (mgc σ n c) c 3 ++ asl n (cs_ti σ) c n
theorem tp_le (c s : Nat) : ∀ n, tp c s n ≤ n
  | 0 => Nat.le_refl 0
  | n + 1 => by
    have := tp_le c s n
    unfold tp
    split <;> omega
section RO
variable {B : Nat} {sc : Option (Nat × Nat × (Nat → Int32))} {d : Nat} {ad : Nat → Nat} {σ : ck_S} {K : rp_K} {C : px_P}
theorem cc_tryStacks (hR : Rp ad K C) (hc : Cl ad σ K) {S : qS} (hS : Sq σ S) {n c k f : Nat} (hc4 : c < 65536) (hsz : cs_si σ 0 = nI n) (hn4 : n ≤ 4) (hh : ∀ s, s < 3 → cs_sa σ 2 s = nI (hs c s n)) (hk : k < 4) (hf : f < 7) (a : Nat) : px_W ps_Y ps_P B sc (d + 3) 39 [.ref (ad 3), .int (nI a), .int (nI c), .int (nI k), .int (nI f)] C 0 0 (fun v C' => v = none ∧ Cq ad σ K C' (rchl (fun c => en (cs_lv σ) c n) (a + 1) S (tsl n (cs_ti σ) c k f 3))) px_no := by
  have hti := hc.2.2.2.2.2.2.2.2.1
  refine ⟨pm_Sea_tryStacks, rfl, Nat.le_of_ble_eq_true rfl, fun X hw hX => ?_⟩
  have loop : ∀ kk i (σ1 : ck_S) (K1 : rp_K) (C1 : px_P), i + kk = 3 → (Rp ad K1 C1 ∧ Cl ad σ1 K1 ∧ (∀ q, 100 ≤ q → K1 q = K q) ∧ Fr σ σ1 ∧ Sq σ1 (rchl (fun c => en (cs_lv σ) c n) (a + 1) S (tsl n (cs_ti σ) c k f i))) → X (3, [(0, .ref (ad 3)), (1, .int (nI a)), (2, .int (nI c)), (3, .int (nI k)), (4, .int (nI f)), (5, .int (nI i))], [], C1, 0, 0) := by
    intro kk
    induction kk with
    | zero =>
      intro i σ1 K1 C1 hi ⟨hR1, hc1, hK1, hF1, hS1⟩
      have hlt : i = 3 := hi
      have hsz1 : cs_si σ1 0 = nI n := by rw [hF1.si (by omega)]; exact hsz
      have h3 : C1 (ad 3) = some (px_o 3 [.int (nI (cs_ti σ)), .ref (ad 4), .ref (ad 5), .ref (ad 6), .ref (ad 7), .ref (ad 8), .ref (ad 9), .ref (ad 10), .ref (ad 11), .int (nI n), .int (cs_si σ1 1), .int (cs_si σ1 2), .int (cs_si σ1 3), .int (cs_si σ1 4)]) := by rw [← hsz1, ← hF1.ti]; exact hR1.1 3 _ hc1.1.2.2.2
      iterate 3 refine px_go hX ?_
      refine ⟨fun (c1 : (3 : Int32) ≤ nI i) => ?_, fun (c1 : ¬ (3 : Int32) ≤ nI i) => absurd (by rw [hlt]; exact Int32.le_refl _) c1⟩
      refine px_go hX ?_
      rw [hlt] at hS1
      exact ⟨rfl, σ1, K1, hR1, hc1, hK1, hF1, hS1⟩
    | succ kk ih =>
      intro i σ1 K1 C1 hi ⟨hR1, hc1, hK1, hF1, hS1⟩
      have hlt : i < 3 := by omega
      have hsz1 : cs_si σ1 0 = nI n := by rw [hF1.si (by omega)]; exact hsz
      have h3 : C1 (ad 3) = some (px_o 3 [.int (nI (cs_ti σ)), .ref (ad 4), .ref (ad 5), .ref (ad 6), .ref (ad 7), .ref (ad 8), .ref (ad 9), .ref (ad 10), .ref (ad 11), .int (nI n), .int (cs_si σ1 1), .int (cs_si σ1 2), .int (cs_si σ1 3), .int (cs_si σ1 4)]) := by rw [← hsz1, ← hF1.ti]; exact hR1.1 3 _ hc1.1.2.2.2
      iterate 3 refine px_go hX ?_
      refine ⟨fun (c2 : (3 : Int32) ≤ nI i) => absurd c2 (nI_ge hlt (by omega : 3 < 2 ^ 31)), fun (c2 : ¬ (3 : Int32) ≤ nI i) => ?_⟩
      iterate 3 refine px_go hX ?_
      refine ⟨fun (c3 : nI i = nI f) => ?_, fun (c3 : ¬ nI i = nI f) => ?_⟩
      · iterate 2 refine px_go hX ?_
        exact px_lw hw [(0, .ref (ad 3)), (1, .int (nI a)), (2, .int (nI c)), (3, .int (nI k)), (4, .int (nI f)), (5, .int (nI (i + 1)))] (ih (i + 1) σ1 K1 _ (by omega) ⟨hR1, hc1, hK1, hF1, by rw [tsl_f (fun q => q.1 ((nI_eq (by omega) (by omega)).mp c3))]; exact hS1⟩) ⟨rfl, rfl, rfl, rfl, rfl, (congrArg (fun z => some (Value.int z)) (nI_succ _).symm), trivial⟩
      · iterate 2 refine px_go hX ?_
        refine ⟨_, _, h3, rfl, ?_⟩
        iterate 2 refine px_go hX ?_
        refine ⟨_, _, (hR1.1 6 _ hc1.2.1.2.2.1), (vp_in_nI hlt (by omega)), ?_⟩
        rw [nI_clamp (by omega), show cs_sa σ1 2 i = nI (hs c i n) from by rw [hF1.sa (by omega)]; exact hh i hlt]
        iterate 2 refine px_go hX ?_
        refine ⟨_, _, h3, rfl, ?_⟩
        refine px_go hX ?_
        refine ⟨fun (c4 : nI (cs_ti σ) ≤ nI (hs c i n)) => ?_, fun (c4 : ¬ nI (cs_ti σ) ≤ nI (hs c i n)) => ?_⟩
        · iterate 2 refine px_go hX ?_
          exact px_lw hw [(0, .ref (ad 3)), (1, .int (nI a)), (2, .int (nI c)), (3, .int (nI k)), (4, .int (nI f)), (5, .int (nI (i + 1)))] (ih (i + 1) σ1 K1 _ (by omega) ⟨hR1, hc1, hK1, hF1, by rw [tsl_f (fun q => absurd c4 (nI_ge q.2 (by omega)))]; exact hS1⟩) ⟨rfl, rfl, rfl, rfl, rfl, (congrArg (fun z => some (Value.int z)) (nI_succ _).symm), trivial⟩
        · iterate 5 refine px_go hX ?_
          refine ⟨_, _, h3, rfl, ?_⟩
          iterate 2 refine px_go hX ?_
          refine ⟨_, _, (hR1.1 6 _ hc1.2.1.2.2.1), (vp_in_nI hlt (by omega)), ?_⟩
          rw [nI_clamp (by omega), show cs_sa σ1 2 i = nI (hs c i n) from by rw [hF1.sa (by omega)]; exact hh i hlt]
          iterate 2 refine px_go hX ?_
          have hle := hs_le c i n
          have hcond : ¬ i = f ∧ hs c i n < cs_ti σ := ⟨fun w => c3 (congrArg nI w), by
            rcases Nat.lt_or_ge (hs c i n) (cs_ti σ) with h | h
            · exact h
            · exact absurd (nI_le h (by omega)) c4⟩
          refine px_lw hw [(0, .ref (ad 3)), (1, .int (nI a)), (2, .int (nI c)), (3, .int (nI k)), (4, .int (nI f)), (5, .int (nI i)), (6, .int (nI (i * 4 + hs c i n)))] ?_ ⟨rfl, rfl, rfl, rfl, rfl, rfl, congrArg (fun z => some (Value.int z)) (by rw [show (nI i * (4 : Int32)) = nI (i * 4) from pk_mul i 4, nI_add] : nI i * 4 + nI (hs c i n) = nI (i * 4 + hs c i n)), trivial⟩
          iterate 5 refine px_go hX ?_
          refine ⟨Nat.le_of_ble_eq_true rfl, 0, 0, _, Nat.le_of_ble_eq_true rfl, Nat.le_of_ble_eq_true rfl, Nat.le_of_ble_eq_true rfl, cc_withPlace hc4 hk (by omega), ?_⟩
          rintro _ C ⟨rfl, rfl⟩
          iterate 5 refine px_go hX ?_
          refine ⟨Nat.le_of_ble_eq_true rfl, 0, 0, _, Nat.le_of_ble_eq_true rfl, Nat.le_of_ble_eq_true rfl, Nat.le_of_ble_eq_true rfl, cc_stepOf hk hf (by omega), ?_⟩
          rintro _ C ⟨rfl, rfl⟩
          refine px_go hX ?_
          refine ⟨_, h3, 0, 0, _, Nat.le_of_ble_eq_true rfl, Nat.le_of_ble_eq_true rfl, Nat.le_of_ble_eq_true rfl, cc_reachS hR1 hc1 hS1 (wp_lt hc4 hk (by omega)) hsz1 hn4 (a + 1) (64 * k + 8 * f + i) (nI_pred a).symm, ?_⟩
          rintro _ C ⟨rfl, σ2, K2, hR2, hc2, hK2, hF2, hS2⟩
          rw [hF1.lv, ← rchl_1 (fun c => en (cs_lv σ) c n) (a + 1) S _ (wp c k (i * 4 + hs c i n), 64 * k + 8 * f + i), ← tsl_t hcond] at hS2
          iterate 2 refine px_go hX ?_
          exact px_lw hw [(0, .ref (ad 3)), (1, .int (nI a)), (2, .int (nI c)), (3, .int (nI k)), (4, .int (nI f)), (5, .int (nI (i + 1)))] (ih (i + 1) σ2 K2 _ (by omega) ⟨hR2, hc2, fun q hq => (hK2 q hq).trans (hK1 q hq), hF1.tr hF2, hS2⟩) ⟨rfl, rfl, rfl, rfl, rfl, (congrArg (fun z => some (Value.int z)) (nI_succ _).symm), trivial⟩
  iterate 2 refine px_go hX ?_
  exact px_lw hw [(0, .ref (ad 3)), (1, .int (nI a)), (2, .int (nI c)), (3, .int (nI k)), (4, .int (nI f)), (5, .int (nI 0))] (loop (3 - 0) 0 σ K C (by omega) ⟨hR, hc, fun _ _ => rfl, Fr.rf σ, hS⟩) ⟨rfl, rfl, rfl, rfl, rfl, rfl, trivial⟩
theorem cc_tryTop (hR : Rp ad K C) (hc : Cl ad σ K) {S : qS} (hS : Sq σ S) {n c f : Nat} (hc4 : c < 65536) (hsz : cs_si σ 0 = nI n) (hn4 : n ≤ 4) (hh : ∀ s, s < 3 → cs_sa σ 2 s = nI (hs c s n)) (ht : ∀ s, s < 3 → cs_sa σ 3 s = nI (tp c s n) - 1) (hf : f < 3) (h0 : ¬ tp c f n = 0) (a : Nat) : px_W ps_Y ps_P B sc (d + 4) 41 [.ref (ad 3), .int (nI a), .int (nI c), .int (nI f)] C 0 0 (fun v C' => v = none ∧ Cq ad σ K C' (rchl (fun c => en (cs_lv σ) c n) (a + 1) S (ttl1 n (cs_ti σ) (mgc σ n c) c f))) px_no := by
  obtain ⟨k, hk⟩ : ∃ k, tp c f n = k + 1 := ⟨tp c f n - 1, by omega⟩
  have hkn : k < n := by have := tp_le c f n; omega
  have hl : ttl1 n (cs_ti σ) (mgc σ n c) c f = tsl n (cs_ti σ) c k f 3 ++ (if mgc σ n c k = true then [(wp c k 12, 64 * k + 8 * f + 3)] else []) ++ [(wp c k 13, 64 * k + 8 * f + 4)] := by
    unfold ttl1
    rw [if_neg h0, hk]
    rfl
  refine ⟨pm_Sea_tryTop, rfl, Nat.le_of_ble_eq_true rfl, fun X hw hX => ?_⟩
  iterate 2 refine px_go hX ?_
  refine ⟨_, _, (hR.1 3 _ hc.1.2.2.2), rfl, ?_⟩
  iterate 2 refine px_go hX ?_
  refine ⟨_, _, (hR.1 7 _ hc.2.1.2.2.2.1), (vp_in_nI hf (by omega)), ?_⟩
  rw [nI_clamp (by omega), ht f hf, hk, nI_pred]
  iterate 7 refine px_go hX ?_
  refine ⟨_, (hR.1 3 _ hc.1.2.2.2), 0, 0, _, Nat.le_of_ble_eq_true rfl, Nat.le_of_ble_eq_true rfl, Nat.le_of_ble_eq_true rfl, cc_tryStacks hR hc hS hc4 hsz hn4 hh (by omega) (by omega) a, ?_⟩
  rintro _ C ⟨rfl, σ1, K1, hR1, hc1, hK1, hF1, hS1⟩
  have hsz1 : cs_si σ1 0 = nI n := by rw [hF1.si (by omega)]; exact hsz
  iterate 4 refine px_go hX ?_
  refine ⟨_, (hR1.1 3 _ hc1.1.2.2.2), 0, 0, _, Nat.le_of_ble_eq_true rfl, Nat.le_of_ble_eq_true rfl, Nat.le_of_ble_eq_true rfl, cc_mayGoOut hR1 hc1 hc4 hsz1 hn4 hkn, ?_⟩
  rintro _ C ⟨rfl, ⟨b1, rfl⟩ | ⟨b1, rfl⟩⟩
  · refine px_go hX ?_
    refine ⟨fun (c2 : 1 = 0) => absurd c2 (by decide), fun (c2 : ¬ 1 = 0) => ?_⟩
    iterate 5 refine px_go hX ?_
    refine ⟨Nat.le_of_ble_eq_true rfl, 0, 0, _, Nat.le_of_ble_eq_true rfl, Nat.le_of_ble_eq_true rfl, Nat.le_of_ble_eq_true rfl, cc_withPlace (p := 12) hc4 (by omega) (by omega), ?_⟩
    rintro _ C ⟨rfl, rfl⟩
    iterate 5 refine px_go hX ?_
    refine ⟨Nat.le_of_ble_eq_true rfl, 0, 0, _, Nat.le_of_ble_eq_true rfl, Nat.le_of_ble_eq_true rfl, Nat.le_of_ble_eq_true rfl, cc_stepOf (t := 3) (by omega) (by omega) (by omega), ?_⟩
    rintro _ C ⟨rfl, rfl⟩
    refine px_go hX ?_
    refine ⟨_, (hR1.1 3 _ hc1.1.2.2.2), 0, 0, _, Nat.le_of_ble_eq_true rfl, Nat.le_of_ble_eq_true rfl, Nat.le_of_ble_eq_true rfl, cc_reachS hR1 hc1 hS1 (wp_lt hc4 (by omega) (by omega)) hsz1 hn4 (a + 1) (64 * k + 8 * f + 3) (nI_pred a).symm, ?_⟩
    rintro _ C ⟨rfl, σ2, K2, hR2, hc2, hK2, hF2, hS2⟩
    rw [hF1.lv, ← rchl_1 (fun c => en (cs_lv σ) c n) (a + 1) S _ (wp c k 12, 64 * k + 8 * f + 3)] at hS2
    have hsz2 : cs_si σ2 0 = nI n := by rw [hF2.si (by omega)]; exact hsz1
    iterate 5 refine px_go hX ?_
    refine ⟨Nat.le_of_ble_eq_true rfl, 0, 0, _, Nat.le_of_ble_eq_true rfl, Nat.le_of_ble_eq_true rfl, Nat.le_of_ble_eq_true rfl, cc_withPlace (p := 13) hc4 (by omega) (by omega), ?_⟩
    rintro _ C ⟨rfl, rfl⟩
    iterate 5 refine px_go hX ?_
    refine ⟨Nat.le_of_ble_eq_true rfl, 0, 0, _, Nat.le_of_ble_eq_true rfl, Nat.le_of_ble_eq_true rfl, Nat.le_of_ble_eq_true rfl, cc_stepOf (t := 4) (by omega) (by omega) (by omega), ?_⟩
    rintro _ C ⟨rfl, rfl⟩
    refine px_go hX ?_
    refine ⟨_, (hR2.1 3 _ hc2.1.2.2.2), 0, 0, _, Nat.le_of_ble_eq_true rfl, Nat.le_of_ble_eq_true rfl, Nat.le_of_ble_eq_true rfl, cc_reachS hR2 hc2 hS2 (wp_lt hc4 (by omega) (by omega)) hsz2 hn4 (a + 1) (64 * k + 8 * f + 4) (nI_pred a).symm, ?_⟩
    rintro _ C ⟨rfl, σ3, K3, hR3, hc3, hK3, hF3, hS3⟩
    have hmg : mgc σ n c k = true := by unfold mgc; rw [← hF1.lv, ← hF1.nd]; exact b1
    rw [hF2.lv, hF1.lv, ← rchl_1 (fun c => en (cs_lv σ) c n) (a + 1) S _ (wp c k 13, 64 * k + 8 * f + 4)] at hS3
    refine px_go hX ?_
    rw [hl, if_pos hmg]
    exact ⟨rfl, σ3, K3, hR3, hc3, fun q hq => (hK3 q hq).trans ((hK2 q hq).trans (hK1 q hq)), (hF1.tr hF2).tr hF3, hS3⟩
  · refine px_go hX ?_
    refine ⟨fun (c3 : 0 = 0) => ?_, fun (c3 : ¬ 0 = 0) => absurd rfl c3⟩
    iterate 5 refine px_go hX ?_
    refine ⟨Nat.le_of_ble_eq_true rfl, 0, 0, _, Nat.le_of_ble_eq_true rfl, Nat.le_of_ble_eq_true rfl, Nat.le_of_ble_eq_true rfl, cc_withPlace (p := 13) hc4 (by omega) (by omega), ?_⟩
    rintro _ C ⟨rfl, rfl⟩
    iterate 5 refine px_go hX ?_
    refine ⟨Nat.le_of_ble_eq_true rfl, 0, 0, _, Nat.le_of_ble_eq_true rfl, Nat.le_of_ble_eq_true rfl, Nat.le_of_ble_eq_true rfl, cc_stepOf (t := 4) (by omega) (by omega) (by omega), ?_⟩
    rintro _ C ⟨rfl, rfl⟩
    refine px_go hX ?_
    refine ⟨_, (hR1.1 3 _ hc1.1.2.2.2), 0, 0, _, Nat.le_of_ble_eq_true rfl, Nat.le_of_ble_eq_true rfl, Nat.le_of_ble_eq_true rfl, cc_reachS hR1 hc1 hS1 (wp_lt hc4 (by omega) (by omega)) hsz1 hn4 (a + 1) (64 * k + 8 * f + 4) (nI_pred a).symm, ?_⟩
    rintro _ C ⟨rfl, σ3, K3, hR3, hc3, hK3, hF3, hS3⟩
    have hmg : ¬ mgc σ n c k = true := fun w => b1 (by rw [hF1.lv, hF1.nd]; exact w)
    rw [hF1.lv, ← rchl_1 (fun c => en (cs_lv σ) c n) (a + 1) S _ (wp c k 13, 64 * k + 8 * f + 4)] at hS3
    refine px_go hX ?_
    rw [hl, if_neg hmg, List.append_nil]
    exact ⟨rfl, σ3, K3, hR3, hc3, fun q hq => (hK3 q hq).trans (hK1 q hq), hF1.tr hF3, hS3⟩
end RO
end
section
/-! The search: all moves of a state. -/
def Fw (σ σ' : ck_S) : Prop := ∃ J : cs_J, σ' = cs_jk σ J ∧ (∀ q, q < 2 → J.1 q = cs_sa σ q) ∧ ∀ q, q < 3 → J.2.2 q = cs_si σ q
theorem Fr.w {σ σ' : ck_S} (h : Fr σ σ') : Fw σ σ' := by
  obtain ⟨J, a, b, c⟩ := h
  exact ⟨J, a, fun q hq => b q (by omega), c⟩
theorem Fw.rf (σ : ck_S) : Fw σ σ := (Fr.rf σ).w
theorem Fw.tr {σ σ1 σ2 : ck_S} (h : Fw σ σ1) (h2 : Fw σ1 σ2) : Fw σ σ2 := by
  obtain ⟨J, rfl, a, b⟩ := h
  obtain ⟨J2, rfl, a2, b2⟩ := h2
  exact ⟨J2, rfl, fun q hq => (a2 q hq).trans (a q hq), fun q hq => (b2 q hq).trans (b q hq)⟩
theorem Fw.sa {σ σ' : ck_S} (h : Fw σ σ') {q : Nat} (hq : q < 2) : cs_sa σ' q = cs_sa σ q := by
  obtain ⟨J, rfl, a, b⟩ := h
  exact a q hq
theorem Fw.si {σ σ' : ck_S} (h : Fw σ σ') {q : Nat} (hq : q < 3) : cs_si σ' q = cs_si σ q := by
  obtain ⟨J, rfl, a, b⟩ := h
  exact b q hq
theorem Fw.lv {σ σ' : ck_S} (h : Fw σ σ') : cs_lv σ' = cs_lv σ := by
  funext k
  unfold cs_lv
  rw [h.si (by omega : 1 < 3)]
theorem Fw.nd {σ σ' : ck_S} (h : Fw σ σ') : cs_ndk σ' = cs_ndk σ := by
  funext k j
  unfold cs_ndk
  rw [h.sa (by omega : 1 < 2), h.sa (by omega : 0 < 2)]
theorem Fw.ti {σ σ' : ck_S} (h : Fw σ σ') : cs_ti σ' = cs_ti σ := by
  obtain ⟨J, rfl, a, b⟩ := h
  rfl
theorem Fw.mg {σ σ' : ck_S} (h : Fw σ σ') : mgc σ' = mgc σ := by
  funext n c k
  unfold mgc
  rw [h.lv, h.nd]
theorem Fw.suc {σ σ' : ck_S} (h : Fw σ σ') : sucl σ' = sucl σ := by
  funext n c
  unfold sucl
  rw [h.mg, h.ti]
theorem Sq.ms {σ : ck_S} {S : qS} (h : Sq σ S) {f : Nat → Nat → Int32} (hf : ∀ q, q ≠ 2 → q ≠ 3 → f q = cs_sa σ q) : Sq (cs_jk σ (f, cs_sn σ, cs_si σ)) S := by
  obtain ⟨h1, h2, h3, h4, h5, h6⟩ := h
  refine ⟨h1, h2, h3, h4, fun i x hx => ?_, h6⟩
  show f 4 i = _ ∧ f 5 i = _ ∧ f 6 i = _ ∧ _
  rw [hf 4 (by omega) (by omega), hf 5 (by omega) (by omega), hf 6 (by omega) (by omega)]
  exact h5 i x hx
/-- the class at another state of its search, the queue as S -/
def Cw (ad : Nat → Nat) (σ : ck_S) (K : rp_K) (C : px_P) (S : qS) : Prop := ∃ σ' K', Rp ad K' C ∧ Cl ad σ' K' ∧ (∀ i, 100 ≤ i → K' i = K i) ∧ Fw σ σ' ∧ Sq σ' S
theorem asl_t {n t c k : Nat} (h : pl c k = 13) : asl n t c (k + 1) = asl n t c k ++ tsl n t c k (3 + asc c k) 3 := if_pos h
theorem asl_f {n t c k : Nat} (h : ¬ pl c k = 13) : asl n t c (k + 1) = asl n t c k := if_neg h
theorem asc_t {c k : Nat} (h : pl c k = 13) : asc c (k + 1) = asc c k + 1 := if_pos h
theorem asc_f {c k : Nat} (h : ¬ pl c k = 13) : asc c (k + 1) = asc c k := if_neg h
theorem ttl1_0 {n t : Nat} {mg : Nat → Bool} {c f : Nat} (h : tp c f n = 0) : ttl1 n t mg c f = [] := if_pos h
theorem ttl_s (n t : Nat) (mg : Nat → Bool) (c f : Nat) : ttl n t mg c (f + 1) = ttl n t mg c f ++ ttl1 n t mg c f := rfl
section RP
variable {B : Nat} {sc : Option (Nat × Nat × (Nat → Int32))} {d : Nat} {ad : Nat → Nat} {σ : ck_S} {K : rp_K} {C : px_P}
theorem cc_tryMoves (hR : Rp ad K C) (hc : Cl ad σ K) {S : qS} (hS : Sq σ S) {n a c : Nat} {pq : Nat × Nat} (hsz : cs_si σ 0 = nI n) (hn4 : n ≤ 4) (ha : S.1[a]? = some (c, pq)) : px_W ps_Y ps_P B sc (d + 5) 42 [.ref (ad 3), .int (nI a)] C 0 0 (fun v C' => v = none ∧ Cw ad σ K C' (rchl (fun c => en (cs_lv σ) c n) (a + 1) S (sucl σ n c))) px_no := by
  obtain ⟨hst, -, -, hc4⟩ := hS.2.2.2.2.1 a _ ha
  have hal : a < 1240 := Nat.lt_of_lt_of_le (List.getElem?_eq_some_iff.mp ha).1 hS.2.1
  refine ⟨pm_Sea_tryMoves, rfl, Nat.le_of_ble_eq_true rfl, fun X hw hX => ?_⟩
  iterate 2 refine px_go hX ?_
  refine ⟨_, _, (hR.1 3 _ hc.1.2.2.2), rfl, ?_⟩
  iterate 2 refine px_go hX ?_
  refine ⟨_, _, (hR.1 8 _ hc.2.1.2.2.2.2.1), (vp_in_nI hal (by omega)), ?_⟩
  rw [nI_clamp (by omega), hst]
  iterate 4 refine px_go hX ?_
  refine ⟨_, (hR.1 3 _ hc.1.2.2.2), 0, 0, _, Nat.le_of_ble_eq_true rfl, Nat.le_of_ble_eq_true rfl, Nat.le_of_ble_eq_true rfl, cc_measureStacks hR hc hc4 hsz hn4, ?_⟩
  rintro _ C ⟨rfl, g, hg, hfr, K1, hR1, hc1, hK1⟩
  have hS1 := hS.ms hfr
  have hF1 : Fw σ (cs_jk σ (g, cs_sn σ, cs_si σ)) := ⟨_, rfl, fun q hq => hfr q (by omega) (by omega), fun _ _ => rfl⟩
  obtain ⟨σ1, hσ1⟩ : ∃ s, s = cs_jk σ (g, cs_sn σ, cs_si σ) := ⟨_, rfl⟩
  have hh1 : ∀ s, s < 3 → cs_sa σ1 2 s = nI (hs c s n) := fun s h => by rw [hσ1]; exact (hg s h).1
  have ht1 : ∀ s, s < 3 → cs_sa σ1 3 s = nI (tp c s n) - 1 := fun s h => by rw [hσ1]; exact (hg s h).2
  rw [← hσ1] at hc1 hS1 hF1
  iterate 2 refine px_go hX ?_
  have loop2 : ∀ kk i (σ2 : ck_S) (K2 : rp_K) (C2 : px_P), i + kk = n → (Rp ad K2 C2 ∧ Cl ad σ2 K2 ∧ (∀ q, 100 ≤ q → K2 q = K q) ∧ Fr σ1 σ2 ∧ Sq σ2 (rchl (fun c => en (cs_lv σ) c n) (a + 1) S (ttl n (cs_ti σ) (mgc σ n c) c 3 ++ asl n (cs_ti σ) c i))) → X (47, [(0, .ref (ad 3)), (1, .int (nI a)), (2, .int (nI c)), (3, .int (nI (3 + asc c i))), (4, .int (nI i))], [], C2, 0, 0) := by
    intro kk
    induction kk with
    | zero =>
      intro i σ2 K2 C2 hi ⟨hR2, hc2, hK2, hF2, hS2⟩
      have hlt : i = n := hi
      have hFw := hF1.tr hF2.w
      have hsz2 : cs_si σ2 0 = nI n := by rw [hFw.si (by omega)]; exact hsz
      have hh2 : ∀ s, s < 3 → cs_sa σ2 2 s = nI (hs c s n) := fun s h => by rw [hF2.sa (by omega)]; exact hh1 s h
      have ht2 : ∀ s, s < 3 → cs_sa σ2 3 s = nI (tp c s n) - 1 := fun s h => by rw [hF2.sa (by omega)]; exact ht1 s h
      have h3 : C2 (ad 3) = some (px_o 3 [.int (nI (cs_ti σ2)), .ref (ad 4), .ref (ad 5), .ref (ad 6), .ref (ad 7), .ref (ad 8), .ref (ad 9), .ref (ad 10), .ref (ad 11), .int (nI n), .int (cs_si σ2 1), .int (cs_si σ2 2), .int (cs_si σ2 3), .int (cs_si σ2 4)]) := by rw [← hsz2]; exact hR2.1 3 _ hc2.1.2.2.2
      iterate 3 refine px_go hX ?_
      refine ⟨_, _, h3, rfl, ?_⟩
      refine px_go hX ?_
      refine ⟨fun (c1 : nI n ≤ nI i) => ?_, fun (c1 : ¬ nI n ≤ nI i) => absurd (nI_le (by omega) (by omega)) c1⟩
      refine px_go hX ?_
      rw [hlt] at hS2
      exact ⟨rfl, σ2, K2, hR2, hc2, hK2, hFw, hS2⟩
    | succ kk ih =>
      intro i σ2 K2 C2 hi ⟨hR2, hc2, hK2, hF2, hS2⟩
      have hlt : i < n := by omega
      have hFw := hF1.tr hF2.w
      have hsz2 : cs_si σ2 0 = nI n := by rw [hFw.si (by omega)]; exact hsz
      have hh2 : ∀ s, s < 3 → cs_sa σ2 2 s = nI (hs c s n) := fun s h => by rw [hF2.sa (by omega)]; exact hh1 s h
      have ht2 : ∀ s, s < 3 → cs_sa σ2 3 s = nI (tp c s n) - 1 := fun s h => by rw [hF2.sa (by omega)]; exact ht1 s h
      have h3 : C2 (ad 3) = some (px_o 3 [.int (nI (cs_ti σ2)), .ref (ad 4), .ref (ad 5), .ref (ad 6), .ref (ad 7), .ref (ad 8), .ref (ad 9), .ref (ad 10), .ref (ad 11), .int (nI n), .int (cs_si σ2 1), .int (cs_si σ2 2), .int (cs_si σ2 3), .int (cs_si σ2 4)]) := by rw [← hsz2]; exact hR2.1 3 _ hc2.1.2.2.2
      iterate 3 refine px_go hX ?_
      refine ⟨_, _, h3, rfl, ?_⟩
      refine px_go hX ?_
      refine ⟨fun (c2 : nI n ≤ nI i) => absurd c2 (nI_ge hlt (by omega)), fun (c2 : ¬ nI n ≤ nI i) => ?_⟩
      iterate 3 refine px_go hX ?_
      refine ⟨Nat.le_of_ble_eq_true rfl, 0, 0, _, Nat.le_of_ble_eq_true rfl, Nat.le_of_ble_eq_true rfl, Nat.le_of_ble_eq_true rfl, cc_placeOf hc4 (by omega), ?_⟩
      rintro _ C ⟨rfl, rfl⟩
      have h16 := pl_lt c i
      iterate 2 refine px_go hX ?_
      refine ⟨fun (c3 : ¬ nI (pl c i) = (13 : Int32)) => ?_, fun (c3 : nI (pl c i) = (13 : Int32)) => ?_⟩
      · iterate 2 refine px_go hX ?_
        exact px_lw hw [(0, .ref (ad 3)), (1, .int (nI a)), (2, .int (nI c)), (3, .int (nI (3 + asc c (i + 1)))), (4, .int (nI (i + 1)))] (ih (i + 1) σ2 K2 _ (by omega) ⟨hR2, hc2, hK2, hF2, by rw [asl_f (fun w => c3 (congrArg nI w))]; exact hS2⟩) ⟨rfl, rfl, rfl, (congrArg (fun z => some (Value.int z)) (by rw [asc_f (fun w => c3 (congrArg nI w))])), (congrArg (fun z => some (Value.int z)) (nI_succ _).symm), trivial⟩
      · have hpl : pl c i = 13 := (nI_eq (by omega) (by omega : 13 < 2 ^ 31)).mp c3
        iterate 6 refine px_go hX ?_
        refine ⟨_, h3, 0, 0, _, Nat.le_of_ble_eq_true rfl, Nat.le_of_ble_eq_true rfl, Nat.le_of_ble_eq_true rfl, cc_tryStacks hR2 hc2 hS2 hc4 hsz2 hn4 hh2 (by omega) (by have := asc_le c i; omega) a, ?_⟩
        rintro _ C ⟨rfl, σ3, K3, hR3, hc3, hK3, hF3, hS3⟩
        rw [hFw.lv, hFw.ti, ← rchl_app, List.append_assoc, ← asl_t hpl] at hS3
        iterate 3 refine px_go hX ?_
        exact px_lw hw [(0, .ref (ad 3)), (1, .int (nI a)), (2, .int (nI c)), (3, .int (nI (3 + asc c (i + 1)))), (4, .int (nI (i + 1)))] (ih (i + 1) σ3 K3 _ (by omega) ⟨hR3, hc3, fun q hq => (hK3 q hq).trans (hK2 q hq), hF2.tr hF3, hS3⟩) ⟨rfl, rfl, rfl, (congrArg (fun z => some (Value.int z)) (by rw [asc_t hpl]; exact (nI_succ _).symm)), (congrArg (fun z => some (Value.int z)) (nI_succ _).symm), trivial⟩
  have loop1 : ∀ kk i (σ2 : ck_S) (K2 : rp_K) (C2 : px_P), i + kk = 3 → (Rp ad K2 C2 ∧ Cl ad σ2 K2 ∧ (∀ q, 100 ≤ q → K2 q = K q) ∧ Fr σ1 σ2 ∧ Sq σ2 (rchl (fun c => en (cs_lv σ) c n) (a + 1) S (ttl n (cs_ti σ) (mgc σ n c) c i))) → X (14, [(0, .ref (ad 3)), (1, .int (nI a)), (2, .int (nI c)), (3, .int (nI i))], [], C2, 0, 0) := by
    intro kk
    induction kk with
    | zero =>
      intro i σ2 K2 C2 hi ⟨hR2, hc2, hK2, hF2, hS2⟩
      have hlt : i = 3 := hi
      have hFw := hF1.tr hF2.w
      have hsz2 : cs_si σ2 0 = nI n := by rw [hFw.si (by omega)]; exact hsz
      have hh2 : ∀ s, s < 3 → cs_sa σ2 2 s = nI (hs c s n) := fun s h => by rw [hF2.sa (by omega)]; exact hh1 s h
      have ht2 : ∀ s, s < 3 → cs_sa σ2 3 s = nI (tp c s n) - 1 := fun s h => by rw [hF2.sa (by omega)]; exact ht1 s h
      have h3 : C2 (ad 3) = some (px_o 3 [.int (nI (cs_ti σ2)), .ref (ad 4), .ref (ad 5), .ref (ad 6), .ref (ad 7), .ref (ad 8), .ref (ad 9), .ref (ad 10), .ref (ad 11), .int (nI n), .int (cs_si σ2 1), .int (cs_si σ2 2), .int (cs_si σ2 3), .int (cs_si σ2 4)]) := by rw [← hsz2]; exact hR2.1 3 _ hc2.1.2.2.2
      iterate 3 refine px_go hX ?_
      refine ⟨fun (c4 : (3 : Int32) ≤ nI i) => ?_, fun (c4 : ¬ (3 : Int32) ≤ nI i) => absurd (by rw [hlt]; exact Int32.le_refl _) c4⟩
      iterate 4 refine px_go hX ?_
      exact px_lw hw [(0, .ref (ad 3)), (1, .int (nI a)), (2, .int (nI c)), (3, .int (nI (3 + asc c 0))), (4, .int (nI 0))] (loop2 (n - 0) 0 σ2 K2 _ (by omega) ⟨hR2, hc2, hK2, hF2, by rw [show asl n (cs_ti σ) c 0 = [] from rfl, List.append_nil]; rw [hlt] at hS2; exact hS2⟩) ⟨rfl, rfl, rfl, rfl, rfl, trivial⟩
    | succ kk ih =>
      intro i σ2 K2 C2 hi ⟨hR2, hc2, hK2, hF2, hS2⟩
      have hlt : i < 3 := by omega
      have hFw := hF1.tr hF2.w
      have hsz2 : cs_si σ2 0 = nI n := by rw [hFw.si (by omega)]; exact hsz
      have hh2 : ∀ s, s < 3 → cs_sa σ2 2 s = nI (hs c s n) := fun s h => by rw [hF2.sa (by omega)]; exact hh1 s h
      have ht2 : ∀ s, s < 3 → cs_sa σ2 3 s = nI (tp c s n) - 1 := fun s h => by rw [hF2.sa (by omega)]; exact ht1 s h
      have h3 : C2 (ad 3) = some (px_o 3 [.int (nI (cs_ti σ2)), .ref (ad 4), .ref (ad 5), .ref (ad 6), .ref (ad 7), .ref (ad 8), .ref (ad 9), .ref (ad 10), .ref (ad 11), .int (nI n), .int (cs_si σ2 1), .int (cs_si σ2 2), .int (cs_si σ2 3), .int (cs_si σ2 4)]) := by rw [← hsz2]; exact hR2.1 3 _ hc2.1.2.2.2
      iterate 3 refine px_go hX ?_
      refine ⟨fun (c5 : (3 : Int32) ≤ nI i) => absurd c5 (nI_ge hlt (by omega : 3 < 2 ^ 31)), fun (c5 : ¬ (3 : Int32) ≤ nI i) => ?_⟩
      iterate 2 refine px_go hX ?_
      refine ⟨_, _, h3, rfl, ?_⟩
      iterate 2 refine px_go hX ?_
      refine ⟨_, _, (hR2.1 7 _ hc2.2.1.2.2.2.1), (vp_in_nI hlt (by omega)), ?_⟩
      rw [nI_clamp (by omega), ht2 i hlt]
      iterate 2 refine px_go hX ?_
      refine ⟨fun (c6 : nI (tp c i n) - 1 = (-1 : Int32)) => ?_, fun (c6 : ¬ nI (tp c i n) - 1 = (-1 : Int32)) => ?_⟩
      · iterate 2 refine px_go hX ?_
        exact px_lw hw [(0, .ref (ad 3)), (1, .int (nI a)), (2, .int (nI c)), (3, .int (nI (i + 1)))] (ih (i + 1) σ2 K2 _ (by omega) ⟨hR2, hc2, hK2, hF2, by rw [ttl_s, ttl1_0 ((nI_m1 (by have := tp_le c i n; omega)).mp c6), List.append_nil]; exact hS2⟩) ⟨rfl, rfl, rfl, (congrArg (fun z => some (Value.int z)) (nI_succ _).symm), trivial⟩
      · iterate 5 refine px_go hX ?_
        refine ⟨_, h3, 0, 0, _, Nat.le_of_ble_eq_true rfl, Nat.le_of_ble_eq_true rfl, Nat.le_of_ble_eq_true rfl, cc_tryTop hR2 hc2 hS2 hc4 hsz2 hn4 hh2 ht2 hlt (fun w => c6 (by rw [w]; decide +kernel)) a, ?_⟩
        rintro _ C ⟨rfl, σ3, K3, hR3, hc3, hK3, hF3, hS3⟩
        rw [hFw.lv, hFw.mg, hFw.ti, ← rchl_app, ← ttl_s] at hS3
        iterate 2 refine px_go hX ?_
        exact px_lw hw [(0, .ref (ad 3)), (1, .int (nI a)), (2, .int (nI c)), (3, .int (nI (i + 1)))] (ih (i + 1) σ3 K3 _ (by omega) ⟨hR3, hc3, fun q hq => (hK3 q hq).trans (hK2 q hq), hF2.tr hF3, hS3⟩) ⟨rfl, rfl, rfl, (congrArg (fun z => some (Value.int z)) (nI_succ _).symm), trivial⟩
  exact px_lw hw [(0, .ref (ad 3)), (1, .int (nI a)), (2, .int (nI c)), (3, .int (nI 0))] (loop1 (3 - 0) 0 σ1 K1 _ (by omega) ⟨hR1, hc1, hK1, Fr.rf σ1, hS1⟩) ⟨rfl, rfl, rfl, rfl, trivial⟩
end RP
end
section
/-! The plan is told; the seen states are forgotten. -/
def cs_sP (σ : ck_S) (b : Nat) (x : Int32) : ck_S := cs_sY (cs_fp σ b) b (fun q => match q with | 0 => 1 | 1 => x | 2 => cs_yf (cs_fp σ b) b 2 | _ => cs_yf (cs_fp σ b) b 3)
section RQ
variable {B : Nat} {sc : Option (Nat × Nat × (Nat → Int32))} {d : Nat} {ad : Nat → Nat} {σ : ck_S} {K : rp_K} {C : px_P}
theorem cc_startPlan (hR : Rp ad K C) (hc : Cl ad σ K) {b : Nat} (hb : b < cs_nb σ) (x : Int32) : px_W ps_Y ps_P B sc (d + 2) 43 [.ref (ad (20 + 4 * b)), .int x] C 0 0 (fun v C' => v = none ∧ Ck ad (cs_sP σ b x) K C') px_no := by
  have hnb := hc.2.2.2.2.2.2.1
  have hby := hR.1 _ _ (hc.2.2.1 b hb).1
  refine ⟨pm_Bay_startPlan, rfl, Nat.le_of_ble_eq_true rfl, fun X hw hX => ?_⟩
  iterate 2 refine px_go hX ?_
  refine ⟨_, hby, 0, 0, _, Nat.le_of_ble_eq_true rfl, Nat.le_of_ble_eq_true rfl, Nat.le_of_ble_eq_true rfl, cc_forgetPlan hR hc hb, ?_⟩
  rintro _ C ⟨rfl, K1, hR1, hc1, hK1⟩
  iterate 3 refine px_go hX ?_
  refine ⟨_, (hR1.1 _ _ (hc1.2.2.1 b hb).1), Nat.le_of_ble_eq_true rfl, rfl, rfl, ?_⟩
  iterate 3 refine px_go hX ?_
  refine ⟨_, (px_up_s _ _ _), Nat.le_of_ble_eq_true rfl, rfl, rfl, ?_⟩
  refine px_go hX ?_
  have hR2 := ((hR1.put (i := 20 + 4 * b) (hc1.2.2.1 b hb).1 (px_o 1 [.ref (ad (21 + 4 * b)), .ref (ad (22 + 4 * b)), .ref (ad (23 + 4 * b)), .int ((1 : Int32)), .int (cs_yf (cs_fp σ b) b 1), .int (cs_yf (cs_fp σ b) b 2), .int (cs_yf (cs_fp σ b) b 3)])).put (i := 20 + 4 * b) (rp_up_s _ _ _) (px_o 1 [.ref (ad (21 + 4 * b)), .ref (ad (22 + 4 * b)), .ref (ad (23 + 4 * b)), .int ((1 : Int32)), .int (x), .int (cs_yf (cs_fp σ b) b 2), .int (cs_yf (cs_fp σ b) b 3)]))
  have hc2 : Cl ad (cs_sP σ b x) (rp_up (rp_up (K1) (20 + 4 * b) (px_o 1 [.ref (ad (21 + 4 * b)), .ref (ad (22 + 4 * b)), .ref (ad (23 + 4 * b)), .int ((1 : Int32)), .int (cs_yf (cs_fp σ b) b 1), .int (cs_yf (cs_fp σ b) b 2), .int (cs_yf (cs_fp σ b) b 3)])) (20 + 4 * b) (px_o 1 [.ref (ad (21 + 4 * b)), .ref (ad (22 + 4 * b)), .ref (ad (23 + 4 * b)), .int ((1 : Int32)), .int (x), .int (cs_yf (cs_fp σ b) b 2), .int (cs_yf (cs_fp σ b) b 3)])) := by
    rw [rp_up_up]
    exact hc1.sY (b := b) hb _
  have hK2 : ∀ zz, 100 ≤ zz → (rp_up (rp_up (K1) (20 + 4 * b) (px_o 1 [.ref (ad (21 + 4 * b)), .ref (ad (22 + 4 * b)), .ref (ad (23 + 4 * b)), .int ((1 : Int32)), .int (cs_yf (cs_fp σ b) b 1), .int (cs_yf (cs_fp σ b) b 2), .int (cs_yf (cs_fp σ b) b 3)])) (20 + 4 * b) (px_o 1 [.ref (ad (21 + 4 * b)), .ref (ad (22 + 4 * b)), .ref (ad (23 + 4 * b)), .int ((1 : Int32)), .int (x), .int (cs_yf (cs_fp σ b) b 2), .int (cs_yf (cs_fp σ b) b 3)])) zz = (K1) zz := fun zz hzz => by rw [rp_up_n _ _ (by omega), rp_up_n _ _ (by omega)]
  exact ⟨rfl, _, hR2, hc2, fun q hq => (hK2 q hq).trans (hK1 q hq)⟩
def cs_sMv (σ : ck_S) (b i : Nat) (x y z : Int32) : ck_S := cs_sA (cs_sA (cs_sA σ b 0 (upd (cs_ya σ b 0) i x)) b 1 (upd (cs_ya σ b 1) i y)) b 2 (upd (cs_ya σ b 2) i z)
theorem cc_setMove (hR : Rp ad K C) (hc : Cl ad σ K) {b i : Nat} (hb : b < cs_nb σ) (hi : i < 12) (hm : ¬ cs_yf σ b 0 = 0 ∧ ¬ nI i < 0 ∧ ¬ cs_yf σ b 1 ≤ nI i ∧ ¬ 12 ≤ nI i) (x y z : Int32) : px_W ps_Y ps_P B sc (d + 2) 44 [.ref (ad (20 + 4 * b)), .int (nI i), .int x, .int y, .int z] C 0 0 (fun v C' => v = none ∧ Ck ad (cs_sMv σ b i x y z) K C') px_no := by
  have hnb := hc.2.2.2.2.2.2.1
  have hby := hR.1 _ _ (hc.2.2.1 b hb).1
  refine ⟨pm_Bay_setMove, rfl, Nat.le_of_ble_eq_true rfl, fun X hw hX => ?_⟩
  iterate 3 refine px_go hX ?_
  refine ⟨_, hby, 0, 0, _, Nat.le_of_ble_eq_true rfl, Nat.le_of_ble_eq_true rfl, Nat.le_of_ble_eq_true rfl, cc_hasMove hR hc hb _, ?_⟩
  rintro _ C ⟨rfl, ⟨b1, rfl⟩ | ⟨b1, rfl⟩⟩
  · refine px_go hX ?_
    refine ⟨fun (c2 : 1 = 0) => absurd c2 (by decide), fun (c2 : ¬ 1 = 0) => ?_⟩
    iterate 2 refine px_go hX ?_
    refine ⟨_, _, hby, rfl, ?_⟩
    iterate 3 refine px_go hX ?_
    refine ⟨_, _, (hR.1 _ _ (hc.2.2.1 b hb).2.1), (vp_in_nI hi (by omega)), ?_⟩
    rw [nI_clamp (by omega)]
    iterate 2 refine px_go hX ?_
    refine ⟨_, _, ((px_up_n _ _ (hR.ne (hc.2.2.1 b hb).1 (hc.2.2.1 b hb).2.1 (by omega))).trans hby), rfl, ?_⟩
    iterate 3 refine px_go hX ?_
    refine ⟨_, _, ((px_up_n _ _ (hR.ne (hc.2.2.1 b hb).2.2.1 (hc.2.2.1 b hb).2.1 (by omega))).trans (hR.1 _ _ (hc.2.2.1 b hb).2.2.1)), (vp_in_nI hi (by omega)), ?_⟩
    rw [nI_clamp (by omega)]
    iterate 2 refine px_go hX ?_
    refine ⟨_, _, ((px_up_n _ _ (hR.ne (hc.2.2.1 b hb).1 (hc.2.2.1 b hb).2.2.1 (by omega))).trans ((px_up_n _ _ (hR.ne (hc.2.2.1 b hb).1 (hc.2.2.1 b hb).2.1 (by omega))).trans hby)), rfl, ?_⟩
    iterate 3 refine px_go hX ?_
    refine ⟨_, _, ((px_up_n _ _ (hR.ne (hc.2.2.1 b hb).2.2.2 (hc.2.2.1 b hb).2.2.1 (by omega))).trans ((px_up_n _ _ (hR.ne (hc.2.2.1 b hb).2.2.2 (hc.2.2.1 b hb).2.1 (by omega))).trans (hR.1 _ _ (hc.2.2.1 b hb).2.2.2))), (vp_in_nI hi (by omega)), ?_⟩
    rw [nI_clamp (by omega)]
    refine px_go hX ?_
    have hR1 := (((hR.put (i := 21 + 4 * b) (hc.2.2.1 b hb).2.1 (px_i 12 (upd (cs_ya σ b 0) (i) (x)))).put (i := 22 + 4 * b) ((rp_up_n _ _ (by omega)).trans (hc.2.2.1 b hb).2.2.1) (px_i 12 (upd (cs_ya σ b 1) (i) (y)))).put (i := 23 + 4 * b) ((rp_up_n _ _ (by omega)).trans ((rp_up_n _ _ (by omega)).trans (hc.2.2.1 b hb).2.2.2)) (px_i 12 (upd (cs_ya σ b 2) (i) (z))))
    have hc1 : Cl ad (cs_sMv σ b i x y z) (rp_up (rp_up (rp_up (K) (21 + 4 * b) (px_i 12 (upd (cs_ya σ b 0) (i) (x)))) (22 + 4 * b) (px_i 12 (upd (cs_ya σ b 1) (i) (y)))) (23 + 4 * b) (px_i 12 (upd (cs_ya σ b 2) (i) (z)))) := by
      have q1 := hc.sA hb (by omega : 0 < 3) (upd (cs_ya σ b 0) i x)
      have q2 := q1.sA hb (by omega : 1 < 3) (upd (cs_ya σ b 1) i y)
      have q3 := q2.sA hb (by omega : 2 < 3) (upd (cs_ya σ b 2) i z)
      rw [show 21 + 4 * b + 0 = 21 + 4 * b from rfl, show 21 + 4 * b + 1 = 22 + 4 * b by omega, show 21 + 4 * b + 2 = 23 + 4 * b by omega] at q3
      exact q3
    have hK1 : ∀ zz, 100 ≤ zz → (rp_up (rp_up (rp_up (K) (21 + 4 * b) (px_i 12 (upd (cs_ya σ b 0) (i) (x)))) (22 + 4 * b) (px_i 12 (upd (cs_ya σ b 1) (i) (y)))) (23 + 4 * b) (px_i 12 (upd (cs_ya σ b 2) (i) (z)))) zz = (K) zz := fun zz hzz => by rw [rp_up_n _ _ (by omega), rp_up_n _ _ (by omega), rp_up_n _ _ (by omega)]
    exact ⟨rfl, _, hR1, hc1, hK1⟩
  · refine px_go hX ?_
    refine ⟨fun (c3 : 0 = 0) => ?_, fun (c3 : ¬ 0 = 0) => absurd rfl c3⟩
    refine px_go hX ?_
    exact absurd hm b1
theorem cc_forgetSeen (hR : Rp ad K C) (hc : Cl ad σ K) {S : qS} (hS : Sq σ S) : px_W ps_Y ps_P B sc (d + 1) 46 [.ref (ad 3)] C 0 0 (fun v C' => v = none ∧ ∃ g : Nat → Int64, (∀ r, r < 1024 → g r = 0) ∧ Ck ad (cs_sSn σ g) K C') px_no := by
  refine ⟨pm_Sea_forgetSeen, rfl, Nat.le_of_ble_eq_true rfl, fun X hw hX => ?_⟩
  have loop : ∀ kk i (g : Nat → Int64) (K1 : rp_K) (C1 : px_P), i + kk = S.1.length → (Rp ad K1 C1 ∧ Cl ad (cs_sSn σ g) K1 ∧ (∀ q, 100 ≤ q → K1 q = K q) ∧ (∀ r, g r = cs_sn σ r ∨ g r = 0) ∧ ∀ (j : Nat) (x : qE), j < i → S.1[j]? = some x → g (x.1 / 64) = 0) → X (2, [(0, .ref (ad 3)), (1, .int (nI i))], [], C1, 0, 0) := by
    intro kk
    induction kk with
    | zero =>
      intro i g K1 C1 hi ⟨hR1, hc1, hK1, hg, hz⟩
      have hlt : i = S.1.length := hi
      have h3 : C1 (ad 3) = some (px_o 3 [.int (nI (cs_ti σ)), .ref (ad 4), .ref (ad 5), .ref (ad 6), .ref (ad 7), .ref (ad 8), .ref (ad 9), .ref (ad 10), .ref (ad 11), .int (cs_si σ 0), .int (cs_si σ 1), .int (cs_si σ 2), .int (nI S.1.length), .int (cs_si σ 4)]) := by rw [← hS.1]; exact hR1.1 3 _ hc1.1.2.2.2
      have h1240 := hS.2.1
      iterate 3 refine px_go hX ?_
      refine ⟨_, _, h3, rfl, ?_⟩
      refine px_go hX ?_
      refine ⟨fun (c1 : nI S.1.length ≤ nI i) => ?_, fun (c1 : ¬ nI S.1.length ≤ nI i) => absurd (nI_le (by omega) (by omega)) c1⟩
      refine px_go hX ?_
      rw [hlt] at hz
      refine ⟨rfl, g, fun r hr => ?_, K1, hR1, hc1, hK1⟩
      by_cases hq : ∃ (j : Nat) (x : qE), S.1[j]? = some x ∧ x.1 / 64 = r
      · obtain ⟨j, x, hx, hxr⟩ := hq
        rw [← hxr]
        exact hz j x (List.getElem?_eq_some_iff.mp hx).1 hx
      · rcases hg r with h | h
        · rw [h]
          refine lb_zero (fun m hm => ?_)
          have h6 := hS.2.2.2.2.2 (64 * r + m) (by omega)
          rw [show (64 * r + m) / 64 = r by omega, show (64 * r + m) % 64 = m by omega] at h6
          cases hl : lb (cs_sn σ r) m with
          | false => rfl
          | true =>
            exfalso
            obtain ⟨x, hx, hx2⟩ := List.mem_map.mp (h6.mp hl)
            obtain ⟨j, hj⟩ := List.getElem?_of_mem hx
            exact hq ⟨j, x, hj, by omega⟩
        · exact h
    | succ kk ih =>
      intro i g K1 C1 hi ⟨hR1, hc1, hK1, hg, hz⟩
      have hlt : i < S.1.length := by omega
      have h3 : C1 (ad 3) = some (px_o 3 [.int (nI (cs_ti σ)), .ref (ad 4), .ref (ad 5), .ref (ad 6), .ref (ad 7), .ref (ad 8), .ref (ad 9), .ref (ad 10), .ref (ad 11), .int (cs_si σ 0), .int (cs_si σ 1), .int (cs_si σ 2), .int (nI S.1.length), .int (cs_si σ 4)]) := by rw [← hS.1]; exact hR1.1 3 _ hc1.1.2.2.2
      have h1240 := hS.2.1
      iterate 3 refine px_go hX ?_
      refine ⟨_, _, h3, rfl, ?_⟩
      refine px_go hX ?_
      refine ⟨fun (c2 : nI S.1.length ≤ nI i) => absurd c2 (nI_ge hlt (by omega)), fun (c2 : ¬ nI S.1.length ≤ nI i) => ?_⟩
      obtain ⟨x, hx⟩ : ∃ x, S.1[i]? = some x := ⟨_, List.getElem?_eq_getElem hlt⟩
      obtain ⟨hst, -, -, hx4⟩ := hS.2.2.2.2.1 i x hx
      iterate 2 refine px_go hX ?_
      refine ⟨_, _, h3, rfl, ?_⟩
      iterate 2 refine px_go hX ?_
      refine ⟨_, _, h3, rfl, ?_⟩
      iterate 2 refine px_go hX ?_
      refine ⟨_, _, (hR1.1 8 _ hc1.2.1.2.2.2.2.1), (vp_in_nI (by omega) (by omega)), ?_⟩
      rw [nI_clamp (by omega), show cs_sa (cs_sSn σ g) 4 i = nI x.1 from hst]
      iterate 6 refine px_go hX ?_
      refine ⟨_, _, (hR1.1 11 _ hc1.2.1.2.2.2.2.2.2.2), (by rw [show (nI x.1 >>> (px_ic 6 &&& 31)) &&& px_ic 1023 = nI (x.1 / 64) from ie_row hx4]; exact vp_in_nI (by omega) (by omega)), ?_⟩
      rw [show ((nI x.1 >>> (px_ic 6 &&& 31)) &&& px_ic 1023) = nI (x.1 / 64) from ie_row hx4, nI_clamp (by omega)]
      iterate 2 refine px_go hX ?_
      have hR2 := (hR1.put (i := 11) hc1.2.1.2.2.2.2.2.2.2 (px_j 1024 (vp_updL (g) (x.1 / 64) (lN 0))))
      have hc2 : Cl ad (cs_sSn σ (vp_updL g (x.1 / 64) (lN 0))) (rp_up (K1) (11) (px_j 1024 (vp_updL (g) (x.1 / 64) (lN 0)))) := by
        exact hc1.sSn _
      have hK2 : ∀ zz, 100 ≤ zz → (rp_up (K1) (11) (px_j 1024 (vp_updL (g) (x.1 / 64) (lN 0)))) zz = (K1) zz := fun zz hzz => by rw [rp_up_n _ _ (by omega)]
      exact px_lw hw [(0, .ref (ad 3)), (1, .int (nI (i + 1)))] (ih (i + 1) (vp_updL g (x.1 / 64) (lN 0)) _ _ (by omega) ⟨hR2, hc2, fun q hq => (hK2 q hq).trans (hK1 q hq), fun r => by
              by_cases h : r = x.1 / 64
              · rw [h, pk_uLs]
                exact Or.inr rfl
              · rw [pk_uLn h]
                exact hg r, fun j y hj hy => by
              by_cases h : y.1 / 64 = x.1 / 64
              · rw [h, pk_uLs]
                rfl
              · rw [pk_uLn h]
                rcases Nat.lt_succ_iff_lt_or_eq.mp hj with h2 | h2
                · exact hz j y h2 hy
                · rw [h2, hx] at hy
                  exact absurd (congrArg (fun z => z.1 / 64) (Option.some.inj hy)).symm h⟩) ⟨rfl, (congrArg (fun z => some (Value.int z)) (nI_succ _).symm), trivial⟩
  iterate 2 refine px_go hX ?_
  exact px_lw hw [(0, .ref (ad 3)), (1, .int (nI 0))] (loop (S.1.length - 0) 0 (cs_sn σ) K C (by omega) ⟨hR, hc, fun _ _ => rfl, fun _ => Or.inl rfl, fun j x hj => absurd hj (Nat.not_lt_zero j)⟩) ⟨rfl, rfl, trivial⟩
end RQ
end
section
/-! The plan is told along the way back. -/
/-- the places on the way back -/
def anc (Q : List qE) (e : Nat) : Nat → Nat
  | 0 => e
  | j + 1 => match Q[anc Q e j]? with
    | some x => x.2.1 - 1
    | none => 0
theorem anc_s {Q : List qE} {e j : Nat} {x : qE} (h : Q[anc Q e j]? = some x) : anc Q e (j + 1) = x.2.1 - 1 := by
  show (match Q[anc Q e j]? with | some x => x.2.1 - 1 | none => 0) = _
  rw [h]
/-- a queue whose entries came from before -/
def Qp (Q : List qE) : Prop := ∀ (i : Nat) (x : qE), Q[i]? = some x → x.2.1 ≤ i ∧ (0 < i → 1 ≤ x.2.1) ∧ x.2.2 < 256
theorem anc_le {Q : List qE} (hQ : Qp Q) {e : Nat} : ∀ j, anc Q e j ≤ e
  | 0 => Nat.le_refl e
  | j + 1 => by
    have ih := anc_le hQ (e := e) j
    cases h : Q[anc Q e j]? with
    | none =>
      show (match Q[anc Q e j]? with | some x => x.2.1 - 1 | none => 0) ≤ e
      rw [h]
      exact Nat.zero_le e
    | some x =>
      rw [anc_s h]
      have := (hQ _ _ h).1
      omega
def cs_yA (σ : ck_S) (Y : Nat → Nat → Nat → Int32) : ck_S := (σ.1, σ.2.1, σ.2.2.1, σ.2.2.2.1, Y, σ.2.2.2.2.2)
def yS (Y : Nat → Nat → Nat → Int32) (b k : Nat) (g : Nat → Int32) : Nat → Nat → Nat → Int32 := va_up Y b (va_up (Y b) k g)
theorem yS_s (Y : Nat → Nat → Nat → Int32) (b k : Nat) (g : Nat → Int32) : yS Y b k g b k = g := by
  unfold yS
  rw [va_up_self, va_up_self]
theorem yS_k (Y : Nat → Nat → Nat → Int32) (b : Nat) {k k' : Nat} (g : Nat → Int32) (h : k' ≠ k) : yS Y b k g b k' = Y b k' := by
  unfold yS
  rw [va_up_self, va_up_ne _ _ h]
theorem yS_n (Y : Nat → Nat → Nat → Int32) {b b' : Nat} (k : Nat) (g : Nat → Int32) (h : b' ≠ b) : yS Y b k g b' = Y b' := va_up_ne _ _ h
def yMv (Y : Nat → Nat → Nat → Int32) (b i : Nat) (x y z : Int32) : Nat → Nat → Nat → Int32 := yS (yS (yS Y b 0 (upd (Y b 0) i x)) b 1 (upd (Y b 1) i y)) b 2 (upd (Y b 2) i z)
theorem yMv_0 (Y : Nat → Nat → Nat → Int32) (b i : Nat) (x y z : Int32) : yMv Y b i x y z b 0 = upd (Y b 0) i x := by
  unfold yMv
  rw [yS_k _ _ _ (by omega), yS_k _ _ _ (by omega), yS_s]
theorem yMv_1 (Y : Nat → Nat → Nat → Int32) (b i : Nat) (x y z : Int32) : yMv Y b i x y z b 1 = upd (Y b 1) i y := by
  unfold yMv
  rw [yS_k _ _ _ (by omega), yS_s]
theorem yMv_2 (Y : Nat → Nat → Nat → Int32) (b i : Nat) (x y z : Int32) : yMv Y b i x y z b 2 = upd (Y b 2) i z := by
  unfold yMv
  rw [yS_s]
theorem yMv_n (Y : Nat → Nat → Nat → Int32) {b b' : Nat} (i : Nat) (x y z : Int32) (h : b' ≠ b) : yMv Y b i x y z b' = Y b' := by
  unfold yMv
  rw [yS_n _ _ _ h, yS_n _ _ _ h, yS_n _ _ _ h]
theorem cs_sP_0 (σ : ck_S) (b : Nat) (x : Int32) : cs_yf (cs_sP σ b x) b 0 = 1 := by
  show va_up (cs_yf (cs_fp σ b)) b _ b 0 = _
  rw [va_up_self]
  rfl
theorem cs_sP_1 (σ : ck_S) (b : Nat) (x : Int32) : cs_yf (cs_sP σ b x) b 1 = x := by
  show va_up (cs_yf (cs_fp σ b)) b _ b 1 = _
  rw [va_up_self]
  rfl
theorem cs_sP_2 (σ : ck_S) (b : Nat) (x : Int32) : cs_yf (cs_sP σ b x) b 2 = 0 := by
  show va_up (cs_yf (cs_fp σ b)) b _ b 2 = _
  rw [va_up_self]
  show va_up (cs_yf σ) b _ b 2 = _
  rw [va_up_self]
  rfl
theorem cs_sP_3 (σ : ck_S) (b : Nat) (x : Int32) : cs_yf (cs_sP σ b x) b 3 = cs_yf σ b 3 := by
  show va_up (cs_yf (cs_fp σ b)) b _ b 3 = _
  rw [va_up_self]
  show va_up (cs_yf σ) b _ b 3 = _
  rw [va_up_self]
  rfl
theorem cs_sP_n (σ : ck_S) {b b' : Nat} (x : Int32) (h : b' ≠ b) : cs_yf (cs_sP σ b x) b' = cs_yf σ b' := by
  show va_up (cs_yf (cs_fp σ b)) b _ b' = _
  rw [va_up_ne _ _ h]
  exact va_up_ne _ _ h
theorem ie_s6 {s : Nat} (hs : s < 256) : (nI s >>> ((6 : Int32) &&& 31)) &&& 3 = nI (s / 64 % 4) := by
  rw [pk_shrN (by omega) _ 6 (by decide +kernel), pk_andN (by omega) 2 (by decide +kernel)]
theorem ie_s3 {s : Nat} (hs : s < 256) : (nI s >>> ((3 : Int32) &&& 31)) &&& 7 = nI (s / 8 % 8) := by
  rw [pk_shrN (by omega) _ 3 (by decide +kernel), pk_andN (by omega) 3 (by decide +kernel)]
theorem ie_s0 {s : Nat} (hs : s < 256) : nI s &&& 7 = nI (s % 8) := pk_andN (by omega) 3 (by decide +kernel)
section RS
variable {B : Nat} {sc : Option (Nat × Nat × (Nat → Int32))} {d : Nat} {ad : Nat → Nat} {σ : ck_S} {K : rp_K} {C : px_P}
theorem cc_tellPlan (hR : Rp ad K C) (hc : Cl ad σ K) {S : qS} (hS : Sq σ S) (hQ : Qp S.1) {e : Nat} (he : S.2 = e + 1) {b : Nat} (hb : b < cs_nb σ) : px_W ps_Y ps_P B sc (d + 3) 45 [.ref (ad 3), .ref (ad (20 + 4 * b))] C 0 0 (fun v C' => v = none ∧ ∃ (L : Nat) (Y : Nat → Nat → Nat → Int32), L ≤ 12 ∧ (∀ j, j < L → 0 < anc S.1 e j) ∧ (anc S.1 e L = 0 ∨ L = 12) ∧ ((∀ b', b' ≠ b → Y b' = cs_ya σ b') ∧ ∀ (j : Nat) (x : qE), j < L → S.1[anc S.1 e j]? = some x → Y b 0 (L - 1 - j) = cs_sa σ 0 (x.2.2 / 64 % 4) ∧ Y b 1 (L - 1 - j) = nI (x.2.2 / 8 % 8) ∧ Y b 2 (L - 1 - j) = nI (x.2.2 % 8)) ∧ Ck ad (cs_yA (cs_sP σ b (nI L)) Y) K C') px_no := by
  have hnb := hc.2.2.2.2.2.2.1
  have hby := hR.1 _ _ (hc.2.2.1 b hb).1
  have hel : e < S.1.length := by have := hS.2.2.2.1; omega
  have h1240 := hS.2.1
  have hal : ∀ j, anc S.1 e j < S.1.length := fun j => Nat.lt_of_le_of_lt (anc_le hQ j) hel
  have h4 : cs_si σ 4 = nI e := by rw [hS.2.2.1, he, nI_pred]
  refine ⟨pm_Sea_tellPlan, rfl, Nat.le_of_ble_eq_true rfl, fun X hw hX => ?_⟩
  have h3 : C (ad 3) = some (px_o 3 [.int (nI (cs_ti σ)), .ref (ad 4), .ref (ad 5), .ref (ad 6), .ref (ad 7), .ref (ad 8), .ref (ad 9), .ref (ad 10), .ref (ad 11), .int (cs_si σ 0), .int (cs_si σ 1), .int (cs_si σ 2), .int (cs_si σ 3), .int (nI e)]) := by rw [← h4]; exact hR.1 3 _ hc.1.2.2.2
  have fin : ∀ L, L ≤ 12 → (∀ j, j < L → 0 < anc S.1 e j) → (anc S.1 e L = 0 ∨ L = 12) → X (37, [(0, .ref (ad 3)), (1, .ref (ad (20 + 4 * b))), (2, .int (nI L))], [], C, 0, 0) := by
    intro L hL hpos hend
    iterate 3 refine px_go hX ?_
    refine ⟨_, hby, 0, 0, _, Nat.le_of_ble_eq_true rfl, Nat.le_of_ble_eq_true rfl, Nat.le_of_ble_eq_true rfl, cc_startPlan hR hc hb _, ?_⟩
    rintro _ C ⟨rfl, K1, hR1, hc1, hK1⟩
    have h3 : C (ad 3) = some (px_o 3 [.int (nI (cs_ti σ)), .ref (ad 4), .ref (ad 5), .ref (ad 6), .ref (ad 7), .ref (ad 8), .ref (ad 9), .ref (ad 10), .ref (ad 11), .int (cs_si σ 0), .int (cs_si σ 1), .int (cs_si σ 2), .int (cs_si σ 3), .int (nI e)]) := by rw [← h4]; exact hR1.1 3 _ hc1.1.2.2.2
    iterate 2 refine px_go hX ?_
    refine ⟨_, _, h3, rfl, ?_⟩
    iterate 5 refine px_go hX ?_
    have loop2 : ∀ kk i (Y : Nat → Nat → Nat → Int32) (K2 : rp_K) (C2 : px_P), i + kk = L → (Rp ad K2 C2 ∧ Cl ad (cs_yA (cs_sP σ b (nI L)) Y) K2 ∧ (∀ q, 100 ≤ q → K2 q = K q) ∧ (∀ b', b' ≠ b → Y b' = cs_ya σ b') ∧ ∀ (j : Nat) (x : qE), j < i → S.1[anc S.1 e j]? = some x → Y b 0 (L - 1 - j) = cs_sa σ 0 (x.2.2 / 64 % 4) ∧ Y b 1 (L - 1 - j) = nI (x.2.2 / 8 % 8) ∧ Y b 2 (L - 1 - j) = nI (x.2.2 % 8)) → X (52, [(0, .ref (ad 3)), (1, .ref (ad (20 + 4 * b))), (3, .int (nI (anc S.1 e i))), (4, .int (nI (L - i) - 1))], [], C2, 0, 0) := by
      intro kk
      induction kk with
      | zero =>
        intro i Y K2 C2 hi ⟨hR2, hc2, hK2, hYn, hY⟩
        have hlt : i = L := hi
        have h3 : C2 (ad 3) = some (px_o 3 [.int (nI (cs_ti σ)), .ref (ad 4), .ref (ad 5), .ref (ad 6), .ref (ad 7), .ref (ad 8), .ref (ad 9), .ref (ad 10), .ref (ad 11), .int (cs_si σ 0), .int (cs_si σ 1), .int (cs_si σ 2), .int (cs_si σ 3), .int (nI e)]) := by rw [← h4]; exact hR2.1 3 _ hc2.1.2.2.2
        iterate 2 refine px_go hX ?_
        refine ⟨fun (c1 : nI (L - i) - 1 < 0) => ?_, fun (c1 : ¬ nI (L - i) - 1 < 0) => absurd (by rw [hlt, Nat.sub_self]; decide +kernel) c1⟩
        refine px_go hX ?_
        rw [hlt] at hY
        exact ⟨rfl, L, Y, hL, hpos, hend, ⟨hYn, hY⟩, K2, hR2, hc2, hK2⟩
      | succ kk ih =>
        intro i Y K2 C2 hi ⟨hR2, hc2, hK2, hYn, hY⟩
        have hlt : i < L := by omega
        have h3 : C2 (ad 3) = some (px_o 3 [.int (nI (cs_ti σ)), .ref (ad 4), .ref (ad 5), .ref (ad 6), .ref (ad 7), .ref (ad 8), .ref (ad 9), .ref (ad 10), .ref (ad 11), .int (cs_si σ 0), .int (cs_si σ 1), .int (cs_si σ 2), .int (cs_si σ 3), .int (nI e)]) := by rw [← h4]; exact hR2.1 3 _ hc2.1.2.2.2
        iterate 2 refine px_go hX ?_
        refine ⟨fun (c2 : nI (L - i) - 1 < 0) => absurd (by rw [show L - i = (L - i - 1) + 1 by omega, nI_pred] at c2; exact c2) (nI_pos (by omega : L - i - 1 < 2 ^ 31)), fun (c2 : ¬ nI (L - i) - 1 < 0) => ?_⟩
        iterate 2 refine px_go hX ?_
        refine ⟨fun (c3 : nI (anc S.1 e i) ≤ 0) => absurd c3 (nI_nle (hpos i hlt) (by have := hal i; omega)), fun (c3 : ¬ nI (anc S.1 e i) ≤ 0) => ?_⟩
        iterate 3 refine px_go hX ?_
        refine ⟨fun (c4 : (1240 : Int32) ≤ nI (anc S.1 e i)) => absurd c4 (nI_ge (by have := hal i; omega : anc S.1 e i < 1240) (by omega : 1240 < 2 ^ 31)), fun (c4 : ¬ (1240 : Int32) ≤ nI (anc S.1 e i)) => ?_⟩
        obtain ⟨x, hx⟩ : ∃ x, S.1[anc S.1 e i]? = some x := ⟨_, List.getElem?_eq_getElem (hal i)⟩
        obtain ⟨-, hx5, hx6, -⟩ := hS.2.2.2.2.1 _ x hx
        obtain ⟨hp1, hp2, hx256⟩ := hQ _ x hx
        have hpar : cs_sa σ 5 (anc S.1 e i) = nI (anc S.1 e (i + 1)) := by
          rw [hx5, anc_s hx]
          have := hp2 (hpos i hlt)
          rw [show x.2.1 = (x.2.1 - 1) + 1 by omega, nI_pred]
          rfl
        iterate 2 refine px_go hX ?_
        refine ⟨_, _, h3, rfl, ?_⟩
        iterate 2 refine px_go hX ?_
        refine ⟨_, _, (hR2.1 10 _ hc2.2.1.2.2.2.2.2.2.1), (vp_in_nI (by have := hal i; omega) (by omega)), ?_⟩
        rw [nI_clamp (by have := hal i; omega), show cs_sa (cs_yA (cs_sP σ b (nI L)) Y) 6 (anc S.1 e i) = nI x.2.2 from hx6]
        iterate 5 refine px_go hX ?_
        refine ⟨_, _, h3, rfl, ?_⟩
        iterate 6 refine px_go hX ?_
        refine ⟨_, _, (hR2.1 4 _ hc2.2.1.1), (by rw [show (nI x.2.2 >>> (px_ic 6 &&& 31)) &&& px_ic 3 = nI (x.2.2 / 64 % 4) from ie_s6 hx256]; exact vp_in_nI (by omega) (by omega)), ?_⟩
        rw [show ((nI x.2.2 >>> (px_ic 6 &&& 31)) &&& px_ic 3) = nI (x.2.2 / 64 % 4) from ie_s6 hx256, nI_clamp (by omega)]
        iterate 9 refine px_go hX ?_
        refine ⟨_, (hR2.1 _ _ (hc2.2.2.1 b hb).1), 0, 0, _, Nat.le_of_ble_eq_true rfl, Nat.le_of_ble_eq_true rfl, Nat.le_of_ble_eq_true rfl, (by rw [show L - i = (L - i - 1) + 1 by omega, nI_pred, show ((nI x.2.2 >>> (px_ic 3 &&& 31)) &&& px_ic 7) = nI (x.2.2 / 8 % 8) from ie_s3 hx256, show (nI x.2.2 &&& px_ic 7) = nI (x.2.2 % 8) from ie_s0 hx256]; exact cc_setMove (σ := cs_yA (cs_sP σ b (nI L)) Y) hR2 hc2 hb (by omega : L - i - 1 < 12) ⟨by rw [show cs_yf (cs_yA (cs_sP σ b (nI L)) Y) b 0 = 1 from cs_sP_0 σ b _]; decide, nI_pos (by omega : L - i - 1 < 2 ^ 31), by rw [show cs_yf (cs_yA (cs_sP σ b (nI L)) Y) b 1 = nI L from cs_sP_1 σ b _]; exact nI_ge (by omega : L - i - 1 < L) (by omega : L < 2 ^ 31), nI_ge (by omega : L - i - 1 < 12) (by omega : 12 < 2 ^ 31)⟩ (cs_sa σ 0 (x.2.2 / 64 % 4)) (nI (x.2.2 / 8 % 8)) (nI (x.2.2 % 8))), ?_⟩
        rintro _ C ⟨rfl, K3, hR3, hc3, hK3⟩
        iterate 2 refine px_go hX ?_
        refine ⟨_, _, (hR3.1 3 _ hc3.1.2.2.2), rfl, ?_⟩
        iterate 2 refine px_go hX ?_
        refine ⟨_, _, (hR3.1 9 _ hc3.2.1.2.2.2.2.2.1), (vp_in_nI (by have := hal i; omega) (by omega)), ?_⟩
        rw [nI_clamp (by have := hal i; omega), show cs_sa (cs_sMv (cs_yA (cs_sP σ b (nI L)) Y) b (L - i - 1) (cs_sa σ 0 (x.2.2 / 64 % 4)) (nI (x.2.2 / 8 % 8)) (nI (x.2.2 % 8))) 5 (anc S.1 e i) = nI (anc S.1 e (i + 1)) from hpar]
        iterate 3 refine px_go hX ?_
        exact px_lw hw [(0, .ref (ad 3)), (1, .ref (ad (20 + 4 * b))), (3, .int (nI (anc S.1 e (i + 1)))), (4, .int (nI (L - (i + 1)) - 1))] (ih (i + 1) (yMv Y b (L - i - 1) (cs_sa σ 0 (x.2.2 / 64 % 4)) (nI (x.2.2 / 8 % 8)) (nI (x.2.2 % 8))) K3 _ (by omega) ⟨hR3, hc3, fun q hq => (hK3 q hq).trans (hK2 q hq), fun b' hb' => (yMv_n _ _ _ _ _ hb').trans (hYn b' hb'), fun j y hj hy => by
                  rw [yMv_0, yMv_1, yMv_2]
                  rcases Nat.lt_succ_iff_lt_or_eq.mp hj with h | h
                  · rw [pk_un (by omega), pk_un (by omega), pk_un (by omega)]
                    exact hY j y h hy
                  · rw [h, hx] at hy
                    rw [h, ← Option.some.inj hy, show L - 1 - i = L - i - 1 by omega, pk_us, pk_us, pk_us]
                    exact ⟨rfl, rfl, rfl⟩⟩) ⟨rfl, rfl, rfl, (congrArg (fun z => some (Value.int z)) (by rw [show L - i = (L - (i + 1)) + 1 by omega, nI_pred]; exact (Int32.sub_eq_add_neg _ _).symm)), trivial⟩
    exact px_lw hw [(0, .ref (ad 3)), (1, .ref (ad (20 + 4 * b))), (3, .int (nI (anc S.1 e 0))), (4, .int (nI (L - 0) - 1))] (loop2 (L - 0) 0 (cs_ya σ) K1 _ (by omega) ⟨hR1, hc1, hK1, fun _ _ => rfl, fun j x hj => absurd hj (Nat.not_lt_zero j)⟩) ⟨rfl, rfl, rfl, rfl, trivial⟩
  have loop : ∀ kk i, i + kk = 12 → (∀ j, j < i → 0 < anc S.1 e j) → X (7, [(0, .ref (ad 3)), (1, .ref (ad (20 + 4 * b))), (2, .int (nI i)), (3, .int (nI (anc S.1 e i)))], [], C, 0, 0) := by
    intro kk
    induction kk with
    | zero =>
      intro i hi hyp
      have hlt : i = 12 := hi
      iterate 2 refine px_go hX ?_
      refine ⟨fun (c5 : nI (anc S.1 e i) ≤ 0) => ?_, fun (c5 : ¬ nI (anc S.1 e i) ≤ 0) => ?_⟩
      · exact px_lw hw [(0, .ref (ad 3)), (1, .ref (ad (20 + 4 * b))), (2, .int (nI i))] (fin i (by omega) hyp (Or.inl (Nat.le_zero.mp (Nat.le_of_not_lt (fun w => nI_nle w (by have := hal i; omega) c5))))) ⟨rfl, rfl, rfl, trivial⟩
      · iterate 3 refine px_go hX ?_
        refine ⟨fun (c6 : (1240 : Int32) ≤ nI (anc S.1 e i)) => absurd c6 (nI_ge (by have := hal i; omega : anc S.1 e i < 1240) (by omega : 1240 < 2 ^ 31)), fun (c6 : ¬ (1240 : Int32) ≤ nI (anc S.1 e i)) => ?_⟩
        iterate 3 refine px_go hX ?_
        refine ⟨fun (c7 : (12 : Int32) ≤ nI i) => ?_, fun (c7 : ¬ (12 : Int32) ≤ nI i) => absurd (by rw [hlt]; exact Int32.le_refl _) c7⟩
        exact px_lw hw [(0, .ref (ad 3)), (1, .ref (ad (20 + 4 * b))), (2, .int (nI i))] (fin i (by omega) hyp (Or.inr hlt)) ⟨rfl, rfl, rfl, trivial⟩
    | succ kk ih =>
      intro i hi hyp
      have hlt : i < 12 := by omega
      iterate 2 refine px_go hX ?_
      refine ⟨fun (c8 : nI (anc S.1 e i) ≤ 0) => ?_, fun (c8 : ¬ nI (anc S.1 e i) ≤ 0) => ?_⟩
      · exact px_lw hw [(0, .ref (ad 3)), (1, .ref (ad (20 + 4 * b))), (2, .int (nI i))] (fin i (by omega) hyp (Or.inl (Nat.le_zero.mp (Nat.le_of_not_lt (fun w => nI_nle w (by have := hal i; omega) c8))))) ⟨rfl, rfl, rfl, trivial⟩
      · iterate 3 refine px_go hX ?_
        refine ⟨fun (c9 : (1240 : Int32) ≤ nI (anc S.1 e i)) => absurd c9 (nI_ge (by have := hal i; omega : anc S.1 e i < 1240) (by omega : 1240 < 2 ^ 31)), fun (c9 : ¬ (1240 : Int32) ≤ nI (anc S.1 e i)) => ?_⟩
        iterate 3 refine px_go hX ?_
        refine ⟨fun (c10 : (12 : Int32) ≤ nI i) => absurd c10 (nI_ge hlt (by omega : 12 < 2 ^ 31)), fun (c10 : ¬ (12 : Int32) ≤ nI i) => ?_⟩
        obtain ⟨x, hx⟩ : ∃ x, S.1[anc S.1 e i]? = some x := ⟨_, List.getElem?_eq_getElem (hal i)⟩
        obtain ⟨-, hx5, hx6, -⟩ := hS.2.2.2.2.1 _ x hx
        obtain ⟨hp1, hp2, hx256⟩ := hQ _ x hx
        have hpos2 : 0 < anc S.1 e i := by
          rcases Nat.eq_zero_or_pos (anc S.1 e i) with h | h
          · rw [h] at c8
            exact absurd (Int32.le_refl _) c8
          · exact h
        have hpar : cs_sa σ 5 (anc S.1 e i) = nI (anc S.1 e (i + 1)) := by
          rw [hx5, anc_s hx]
          have := hp2 hpos2
          rw [show x.2.1 = (x.2.1 - 1) + 1 by omega, nI_pred]
          rfl
        iterate 3 refine px_go hX ?_
        refine ⟨_, _, h3, rfl, ?_⟩
        iterate 2 refine px_go hX ?_
        refine ⟨_, _, (hR.1 9 _ hc.2.1.2.2.2.2.2.1), (vp_in_nI (by have := hal i; omega) (by omega)), ?_⟩
        rw [nI_clamp (by have := hal i; omega), hpar]
        iterate 2 refine px_go hX ?_
        exact px_lw hw [(0, .ref (ad 3)), (1, .ref (ad (20 + 4 * b))), (2, .int (nI (i + 1))), (3, .int (nI (anc S.1 e (i + 1))))] (ih (i + 1) (by omega) (pn_alls hyp hpos2)) ⟨rfl, rfl, (congrArg (fun z => some (Value.int z)) (nI_succ _).symm), rfl, trivial⟩
  iterate 4 refine px_go hX ?_
  refine ⟨_, _, h3, rfl, ?_⟩
  iterate 1 refine px_go hX ?_
  exact px_lw hw [(0, .ref (ad 3)), (1, .ref (ad (20 + 4 * b))), (2, .int (nI 0)), (3, .int (nI (anc S.1 e 0)))] (loop (12 - 0) 0 (by omega) (fun j hj => absurd hj (Nat.not_lt_zero j))) ⟨rfl, rfl, rfl, rfl, trivial⟩
end RS
end
section
/-! The search: findPlan. -/
def bfs (ep : Nat → Bool) (suc : Nat → List (Nat × Nat)) : Nat → Nat → qS → qS
  | 0, _, S => S
  | m + 1, a, S => if S.2 = 0 then (match S.1[a]? with | some x => bfs ep suc m (a + 1) (rchl ep (a + 1) S (suc x.1)) | none => S) else S
theorem bfs_e {ep : Nat → Bool} {suc : Nat → List (Nat × Nat)} {m a : Nat} {S : qS} (h : ¬ S.2 = 0) : bfs ep suc m a S = S := by
  cases m with
  | zero => rfl
  | succ m => exact if_neg h
theorem bfs_n {ep : Nat → Bool} {suc : Nat → List (Nat × Nat)} {m a : Nat} {S : qS} (h : S.1.length ≤ a) : bfs ep suc m a S = S := by
  cases m with
  | zero => rfl
  | succ m =>
    show (if S.2 = 0 then (match S.1[a]? with | some x => bfs ep suc m (a + 1) (rchl ep (a + 1) S (suc x.1)) | none => S) else S) = S
    rw [List.getElem?_eq_none h]
    split <;> rfl
theorem bfs_s {ep : Nat → Bool} {suc : Nat → List (Nat × Nat)} {m a : Nat} {S : qS} {x : qE} (h : S.2 = 0) (hx : S.1[a]? = some x) : bfs ep suc (m + 1) a S = bfs ep suc m (a + 1) (rchl ep (a + 1) S (suc x.1)) := by
  show (if S.2 = 0 then (match S.1[a]? with | some x => bfs ep suc m (a + 1) (rchl ep (a + 1) S (suc x.1)) | none => S) else S) = _
  rw [if_pos h, hx]
def cs_en (σ : ck_S) (n : Nat) : Nat → Bool := fun c => en (cs_lv σ) c n
/-- the queue at the end of the search -/
def cs_F (σ : ck_S) (n c0 : Nat) : qS := bfs (cs_en σ n) (sucl σ n) 1240 0 (rch (cs_en σ n) ([], 0) (c0, 0, 0))
theorem Fw.en {σ σ' : ck_S} (h : Fw σ σ') : cs_en σ' = cs_en σ := by
  funext n c
  unfold cs_en
  rw [h.lv]
def Told (σ : ck_S) (S : qS) (e b L : Nat) (Y : Nat → Nat → Nat → Int32) : Prop := L ≤ 12 ∧ (∀ j, j < L → 0 < anc S.1 e j) ∧ (anc S.1 e L = 0 ∨ L = 12) ∧ (∀ b', b' ≠ b → Y b' = cs_ya σ b') ∧ ∀ (j : Nat) (x : qE), j < L → S.1[anc S.1 e j]? = some x → Y b 0 (L - 1 - j) = cs_sa σ 0 (x.2.2 / 64 % 4) ∧ Y b 1 (L - 1 - j) = nI (x.2.2 / 8 % 8) ∧ Y b 2 (L - 1 - j) = nI (x.2.2 % 8)
section RT
variable {B : Nat} {sc : Option (Nat × Nat × (Nat → Int32))} {d : Nat} {ad : Nat → Nat} {σ : ck_S} {K : rp_K} {C : px_P}
theorem cc_findPlan (hR : Rp ad K C) (hc : Cl ad σ K) {n c0 : Nat} (hsz : cs_si σ 0 = nI n) (hn4 : n ≤ 4) (hs2 : cs_si σ 2 = nI c0) (hc0 : c0 < 65536) (hz : ∀ r, r < 1024 → cs_sn σ r = 0) {b : Nat} (hb : b < cs_nb σ) (hQ : Qp (cs_F σ n c0).1) : px_W ps_Y ps_P B sc (d + 6) 47 [.ref (ad 3), .ref (ad (20 + 4 * b))] C 0 0 (fun v C' => v = none ∧ ∃ J : cs_J, (∀ r, r < 1024 → J.2.1 r = 0) ∧ (((cs_F σ n c0).2 = 0 ∧ Ck ad (cs_jk (cs_fp σ b) J) K C') ∨ ∃ e L Y, (cs_F σ n c0).2 = e + 1 ∧ Told σ (cs_F σ n c0) e b L Y ∧ Ck ad (cs_jk (cs_yA (cs_sP σ b (nI L)) Y) J) K C')) px_no := by
  have hnb := hc.2.2.2.2.2.2.1
  have h3 : C (ad 3) = some (px_o 3 [.int (nI (cs_ti σ)), .ref (ad 4), .ref (ad 5), .ref (ad 6), .ref (ad 7), .ref (ad 8), .ref (ad 9), .ref (ad 10), .ref (ad 11), .int (cs_si σ 0), .int (cs_si σ 1), .int (nI c0), .int (cs_si σ 3), .int (cs_si σ 4)]) := by rw [← hs2]; exact hR.1 3 _ hc.1.2.2.2
  generalize hF : cs_F σ n c0 = F at hQ ⊢
  refine ⟨pm_Sea_findPlan, rfl, Nat.le_of_ble_eq_true rfl, fun X hw hX => ?_⟩
  have fin : ∀ (σ2 : ck_S) (K2 : rp_K) (C2 : px_P), Rp ad K2 C2 → Cl ad σ2 K2 → (∀ q, 100 ≤ q → K2 q = K q) → Fw σ σ2 → Sq σ2 F → X (56, [(0, .ref (ad 3)), (1, .ref (ad (20 + 4 * b)))], [], C2, 0, 0) := by
    intro σ2 K2 C2 hR2 hc2 hK2 hF2 hS2
    have hb2 : b < cs_nb σ2 := by obtain ⟨J, rfl, -, -⟩ := hF2; exact hb
    have h32 : C2 (ad 3) = some (px_o 3 [.int (nI (cs_ti σ2)), .ref (ad 4), .ref (ad 5), .ref (ad 6), .ref (ad 7), .ref (ad 8), .ref (ad 9), .ref (ad 10), .ref (ad 11), .int (cs_si σ2 0), .int (cs_si σ2 1), .int (cs_si σ2 2), .int (cs_si σ2 3), .int (nI F.2 - 1)]) := by rw [← hS2.2.2.1]; exact hR2.1 3 _ hc2.1.2.2.2
    have hfl : F.2 < 2 ^ 31 := by have := hS2.2.1; have := hS2.2.2.2.1; omega
    iterate 2 refine px_go hX ?_
    refine ⟨_, _, h32, rfl, ?_⟩
    iterate 2 refine px_go hX ?_
    refine ⟨fun (c1 : ¬ nI F.2 - 1 = (-1 : Int32)) => ?_, fun (c1 : nI F.2 - 1 = (-1 : Int32)) => ?_⟩
    · obtain ⟨e, he⟩ : ∃ e, F.2 = e + 1 := ⟨F.2 - 1, by have : F.2 ≠ 0 := fun w => c1 ((nI_m1 hfl).mpr w); omega⟩
      iterate 3 refine px_go hX ?_
      refine ⟨_, h32, 0, 0, _, Nat.le_of_ble_eq_true rfl, Nat.le_of_ble_eq_true rfl, Nat.le_of_ble_eq_true rfl, cc_tellPlan hR2 hc2 hS2 hQ he hb2, ?_⟩
      rintro _ C ⟨rfl, L, Y, t1, t2, t3, ⟨t4, t5⟩, K3, hR3, hc3, hK3⟩
      iterate 2 refine px_go hX ?_
      refine ⟨_, (hR3.1 3 _ hc3.1.2.2.2), 0, 0, _, Nat.le_of_ble_eq_true rfl, Nat.le_of_ble_eq_true rfl, Nat.le_of_ble_eq_true rfl, cc_forgetSeen (σ := cs_yA (cs_sP σ2 b (nI L)) Y) hR3 hc3 (S := F) hS2, ?_⟩
      rintro _ C ⟨rfl, g, hg, K4, hR4, hc4, hK4⟩
      refine px_go hX ?_
      obtain ⟨J, rfl, hJ1, -⟩ := hF2
      exact ⟨rfl, (J.1, g, J.2.2), hg, Or.inr ⟨e, L, Y, he, ⟨t1, t2, t3, t4, fun j x hj hx => by
        obtain ⟨w1, w2, w3⟩ := t5 j x hj hx
        exact ⟨by rw [w1]; exact congrFun (hJ1 0 (by omega)) _, w2, w3⟩⟩, K4, hR4, hc4, fun q hq => (hK4 q hq).trans ((hK3 q hq).trans (hK2 q hq))⟩⟩
    · iterate 2 refine px_go hX ?_
      refine ⟨_, (hR2.1 _ _ (hc2.2.2.1 b hb2).1), 0, 0, _, Nat.le_of_ble_eq_true rfl, Nat.le_of_ble_eq_true rfl, Nat.le_of_ble_eq_true rfl, cc_forgetPlan hR2 hc2 hb2, ?_⟩
      rintro _ C ⟨rfl, K3, hR3, hc3, hK3⟩
      iterate 3 refine px_go hX ?_
      refine ⟨_, (hR3.1 3 _ hc3.1.2.2.2), 0, 0, _, Nat.le_of_ble_eq_true rfl, Nat.le_of_ble_eq_true rfl, Nat.le_of_ble_eq_true rfl, cc_forgetSeen (σ := cs_fp σ2 b) hR3 hc3 (S := F) hS2, ?_⟩
      rintro _ C ⟨rfl, g, hg, K4, hR4, hc4, hK4⟩
      refine px_go hX ?_
      obtain ⟨J, rfl, -, -⟩ := hF2
      exact ⟨rfl, (J.1, g, J.2.2), hg, Or.inl ⟨(nI_m1 hfl).mp c1, K4, hR4, hc4, fun q hq => (hK4 q hq).trans ((hK3 q hq).trans (hK2 q hq))⟩⟩
  have loop : ∀ kk i (S2 : qS) (σ2 : ck_S) (K2 : rp_K) (C2 : px_P), i + kk = 1240 → (Rp ad K2 C2 ∧ Cl ad σ2 K2 ∧ (∀ q, 100 ≤ q → K2 q = K q) ∧ Fw σ σ2 ∧ Sq σ2 S2 ∧ bfs (cs_en σ n) (sucl σ n) (1240 - i) i S2 = F) → X (22, [(0, .ref (ad 3)), (1, .ref (ad (20 + 4 * b))), (2, .int (nI i))], [], C2, 0, 0) := by
    intro kk
    induction kk with
    | zero =>
      intro i S2 σ2 K2 C2 hi ⟨hR2, hc2, hK2, hF2, hS2, hbf⟩
      have hlt : i = 1240 := hi
      have hsz2 : cs_si σ2 0 = nI n := by rw [hF2.si (by omega)]; exact hsz
      have h12 := hS2.2.1
      have h13 := hS2.2.2.2.1
      have h32 : C2 (ad 3) = some (px_o 3 [.int (nI (cs_ti σ2)), .ref (ad 4), .ref (ad 5), .ref (ad 6), .ref (ad 7), .ref (ad 8), .ref (ad 9), .ref (ad 10), .ref (ad 11), .int (cs_si σ2 0), .int (cs_si σ2 1), .int (cs_si σ2 2), .int (nI S2.1.length), .int (nI S2.2 - 1)]) := by rw [← hS2.2.2.1, ← hS2.1]; exact hR2.1 3 _ hc2.1.2.2.2
      iterate 3 refine px_go hX ?_
      refine ⟨fun (c2 : (1240 : Int32) ≤ nI i) => ?_, fun (c2 : ¬ (1240 : Int32) ≤ nI i) => absurd (by rw [hlt]; exact Int32.le_refl _) c2⟩
      exact px_lw hw [(0, .ref (ad 3)), (1, .ref (ad (20 + 4 * b)))] (fin σ2 K2 _ hR2 hc2 hK2 hF2 (by rw [← hbf, hlt]; exact hS2)) ⟨rfl, rfl, trivial⟩
    | succ kk ih =>
      intro i S2 σ2 K2 C2 hi ⟨hR2, hc2, hK2, hF2, hS2, hbf⟩
      have hlt : i < 1240 := by omega
      have hsz2 : cs_si σ2 0 = nI n := by rw [hF2.si (by omega)]; exact hsz
      have h12 := hS2.2.1
      have h13 := hS2.2.2.2.1
      have h32 : C2 (ad 3) = some (px_o 3 [.int (nI (cs_ti σ2)), .ref (ad 4), .ref (ad 5), .ref (ad 6), .ref (ad 7), .ref (ad 8), .ref (ad 9), .ref (ad 10), .ref (ad 11), .int (cs_si σ2 0), .int (cs_si σ2 1), .int (cs_si σ2 2), .int (nI S2.1.length), .int (nI S2.2 - 1)]) := by rw [← hS2.2.2.1, ← hS2.1]; exact hR2.1 3 _ hc2.1.2.2.2
      iterate 3 refine px_go hX ?_
      refine ⟨fun (c3 : (1240 : Int32) ≤ nI i) => absurd c3 (nI_ge hlt (by omega : 1240 < 2 ^ 31)), fun (c3 : ¬ (1240 : Int32) ≤ nI i) => ?_⟩
      iterate 3 refine px_go hX ?_
      refine ⟨_, _, h32, rfl, ?_⟩
      refine px_go hX ?_
      refine ⟨fun (c4 : nI S2.1.length ≤ nI i) => ?_, fun (c4 : ¬ nI S2.1.length ≤ nI i) => ?_⟩
      · exact px_lw hw [(0, .ref (ad 3)), (1, .ref (ad (20 + 4 * b)))] (fin σ2 K2 _ hR2 hc2 hK2 hF2 (by rw [← hbf, bfs_n (Nat.le_of_not_lt (fun w => nI_ge w (by omega) c4))]; exact hS2)) ⟨rfl, rfl, trivial⟩
      · iterate 2 refine px_go hX ?_
        refine ⟨_, _, h32, rfl, ?_⟩
        iterate 2 refine px_go hX ?_
        refine ⟨fun (c5 : ¬ nI S2.2 - 1 = (-1 : Int32)) => ?_, fun (c5 : nI S2.2 - 1 = (-1 : Int32)) => ?_⟩
        · exact px_lw hw [(0, .ref (ad 3)), (1, .ref (ad (20 + 4 * b)))] (fin σ2 K2 _ hR2 hc2 hK2 hF2 (by rw [← hbf, bfs_e (fun w => c5 ((nI_m1 (by omega)).mpr w))]; exact hS2)) ⟨rfl, rfl, trivial⟩
        · obtain ⟨x, hx⟩ : ∃ x, S2.1[i]? = some x := ⟨_, List.getElem?_eq_getElem (Nat.lt_of_not_le (fun w => c4 (nI_le w (by omega))))⟩
          have hz2 : S2.2 = 0 := (nI_m1 (by omega)).mp c5
          rw [show 1240 - i = (1240 - (i + 1)) + 1 by omega, bfs_s hz2 hx] at hbf
          iterate 3 refine px_go hX ?_
          refine ⟨_, h32, 0, 0, _, Nat.le_of_ble_eq_true rfl, Nat.le_of_ble_eq_true rfl, Nat.le_of_ble_eq_true rfl, cc_tryMoves hR2 hc2 hS2 hsz2 hn4 (c := x.1) (pq := x.2) hx, ?_⟩
          rintro _ C ⟨rfl, σ3, K3, hR3, hc3, hK3, hF3, hS3⟩
          have hS3 : Sq σ3 (rchl (cs_en σ2 n) (i + 1) S2 (sucl σ2 n x.1)) := hS3
          rw [hF2.en, hF2.suc] at hS3
          iterate 2 refine px_go hX ?_
          exact px_lw hw [(0, .ref (ad 3)), (1, .ref (ad (20 + 4 * b))), (2, .int (nI (i + 1)))] (ih (i + 1) _ σ3 K3 _ (by omega) ⟨hR3, hc3, fun q hq => (hK3 q hq).trans (hK2 q hq), hF2.tr hF3, hS3, hbf⟩) ⟨rfl, rfl, (congrArg (fun z => some (Value.int z)) (nI_succ _).symm), trivial⟩
  iterate 3 refine px_go hX ?_
  refine ⟨_, h3, Nat.le_of_ble_eq_true rfl, rfl, rfl, ?_⟩
  iterate 3 refine px_go hX ?_
  refine ⟨_, (px_up_s _ _ _), Nat.le_of_ble_eq_true rfl, rfl, rfl, ?_⟩
  have hR0 := ((hR.put (i := 3) hc.1.2.2.2 (px_o 3 [.int (nI (cs_ti σ)), .ref (ad 4), .ref (ad 5), .ref (ad 6), .ref (ad 7), .ref (ad 8), .ref (ad 9), .ref (ad 10), .ref (ad 11), .int (cs_si σ 0), .int (cs_si σ 1), .int (nI c0), .int ((0 : Int32)), .int (cs_si σ 4)])).put (i := 3) (rp_up_s _ _ _) (px_o 3 [.int (nI (cs_ti σ)), .ref (ad 4), .ref (ad 5), .ref (ad 6), .ref (ad 7), .ref (ad 8), .ref (ad 9), .ref (ad 10), .ref (ad 11), .int (cs_si σ 0), .int (cs_si σ 1), .int (nI c0), .int ((0 : Int32)), .int ((-1 : Int32))]))
  have hc0' : Cl ad (cs_sSi σ (fun q => match q with | 0 => cs_si σ 0 | 1 => cs_si σ 1 | 2 => nI c0 | 3 => 0 | _ => -1)) (rp_up (rp_up (K) (3) (px_o 3 [.int (nI (cs_ti σ)), .ref (ad 4), .ref (ad 5), .ref (ad 6), .ref (ad 7), .ref (ad 8), .ref (ad 9), .ref (ad 10), .ref (ad 11), .int (cs_si σ 0), .int (cs_si σ 1), .int (nI c0), .int ((0 : Int32)), .int (cs_si σ 4)])) (3) (px_o 3 [.int (nI (cs_ti σ)), .ref (ad 4), .ref (ad 5), .ref (ad 6), .ref (ad 7), .ref (ad 8), .ref (ad 9), .ref (ad 10), .ref (ad 11), .int (cs_si σ 0), .int (cs_si σ 1), .int (nI c0), .int ((0 : Int32)), .int ((-1 : Int32))])) := by
    rw [rp_up_up]
    exact hc.sSi _
  have hK0 : ∀ zz, 100 ≤ zz → (rp_up (rp_up (K) (3) (px_o 3 [.int (nI (cs_ti σ)), .ref (ad 4), .ref (ad 5), .ref (ad 6), .ref (ad 7), .ref (ad 8), .ref (ad 9), .ref (ad 10), .ref (ad 11), .int (cs_si σ 0), .int (cs_si σ 1), .int (nI c0), .int ((0 : Int32)), .int (cs_si σ 4)])) (3) (px_o 3 [.int (nI (cs_ti σ)), .ref (ad 4), .ref (ad 5), .ref (ad 6), .ref (ad 7), .ref (ad 8), .ref (ad 9), .ref (ad 10), .ref (ad 11), .int (cs_si σ 0), .int (cs_si σ 1), .int (nI c0), .int ((0 : Int32)), .int ((-1 : Int32))])) zz = (K) zz := fun zz hzz => by rw [rp_up_n _ _ (by omega), rp_up_n _ _ (by omega)]
  have hF0 : Fw σ (cs_sSi σ (fun q => match q with | 0 => cs_si σ 0 | 1 => cs_si σ 1 | 2 => nI c0 | 3 => 0 | _ => -1)) := ⟨_, rfl, fun _ _ => rfl, fun q hq => by
    match q, hq with
    | 0, _ => rfl
    | 1, _ => rfl
    | 2, _ => exact hs2.symm⟩
  have hS0 : Sq (cs_sSi σ (fun q => match q with | 0 => cs_si σ 0 | 1 => cs_si σ 1 | 2 => nI c0 | 3 => 0 | _ => -1)) ([], 0) := by
    refine ⟨rfl, by decide, (by decide +kernel : (-1 : Int32) = nI 0 - 1), Nat.le_refl 0, fun i x hx => (by simp at hx), fun c hc => ?_⟩
    show lb (cs_sn σ (c / 64)) (c % 64) = true ↔ c ∈ []
    rw [hz _ (by omega), lb_0]
    simp
  iterate 3 refine px_go hX ?_
  refine ⟨_, _, (px_up_s _ _ _), rfl, ?_⟩
  iterate 3 refine px_go hX ?_
  refine ⟨_, (px_up_s _ _ _), 0, 0, _, Nat.le_of_ble_eq_true rfl, Nat.le_of_ble_eq_true rfl, Nat.le_of_ble_eq_true rfl, cc_reachS (n := n) hR0 hc0' hS0 hc0 hsz hn4 0 0 (by decide +kernel), ?_⟩
  rintro _ C ⟨rfl, σ1, K1, hR1, hc1, hK1, hF1, hS1⟩
  have hF1 := hF0.tr hF1.w
  have hK1 : ∀ q, 100 ≤ q → K1 q = K q := fun q hq => (hK1 q hq).trans (hK0 q hq)
  iterate 2 refine px_go hX ?_
  exact px_lw hw [(0, .ref (ad 3)), (1, .ref (ad (20 + 4 * b))), (2, .int (nI 0))] (loop (1240 - 0) 0 _ σ1 K1 _ (by omega) ⟨hR1, hc1, hK1, hF1, hS1, hF⟩) ⟨rfl, rfl, rfl, trivial⟩
end RT
end
section
/-! What the search knows of a bay's boxes; its queue comes from before. -/
def bjs (σ : ck_S) (x : Int32) : Nat → List Nat
  | 0 => []
  | i + 1 => if cs_bf σ i 1 = x ∧ ¬ cs_bf σ i 2 = 3 then bjs σ x i ++ [i] else bjs σ x i
theorem bjs_len (σ : ck_S) (x : Int32) : ∀ i, (bjs σ x i).length = pn_ct (fun j => decide (cs_bf σ j 1 = x ∧ ¬ cs_bf σ j 2 = 3)) i
  | 0 => rfl
  | i + 1 => by
    have ih := bjs_len σ x i
    by_cases h : cs_bf σ i 1 = x ∧ ¬ cs_bf σ i 2 = 3
    · rw [show bjs σ x (i + 1) = bjs σ x i ++ [i] from if_pos h, List.length_append, ih, pn_ct_t (decide_eq_true h)]
      rfl
    · rw [show bjs σ x (i + 1) = bjs σ x i from if_neg h, ih, pn_ct_f (decide_eq_false h)]
theorem pn_ct_mono (p : Nat → Bool) {i n : Nat} (h : i ≤ n) : pn_ct p i ≤ pn_ct p n := by
  induction n with
  | zero => rw [Nat.le_zero.mp h]; exact Nat.le_refl _
  | succ n ih =>
    rcases Nat.lt_or_ge i (n + 1) with h2 | h2
    · exact Nat.le_trans (ih (by omega)) (Nat.le_add_right _ _)
    · rw [show i = n + 1 by omega]
      exact Nat.le_refl _
theorem bjs_at (σ : ck_S) (x : Int32) : ∀ i (k j : Nat), (bjs σ x i)[k]? = some j → j < i ∧ cs_bf σ j 1 = x ∧ ¬ cs_bf σ j 2 = 3
  | 0, k, j, h => by simp [bjs] at h
  | i + 1, k, j, h => by
    have ih := bjs_at σ x i
    by_cases hq : cs_bf σ i 1 = x ∧ ¬ cs_bf σ i 2 = 3
    · rw [show bjs σ x (i + 1) = bjs σ x i ++ [i] from if_pos hq] at h
      rcases Nat.lt_or_ge k (bjs σ x i).length with hk | hk
      · rw [List.getElem?_append_left hk] at h
        have := ih k j h
        exact ⟨by omega, this.2⟩
      · rw [List.getElem?_append_right hk] at h
        have hj : j = i := by
          have := List.mem_of_getElem? h
          simpa using this
        subst hj
        exact ⟨by omega, hq⟩
    · rw [show bjs σ x (i + 1) = bjs σ x i from if_neg hq] at h
      have := ih k j h
      exact ⟨by omega, this.2⟩
/-- a box's place -/
def plc (σ : ck_S) (j : Nat) : Nat := if cs_bf σ j 2 = 4 then 13 else (cs_bf σ j 2).toNatClampNeg * 4 + (cs_bf σ j 3).toNatClampNeg
/-- a box's stack and tier -/
def cs_rg (σ : ck_S) : Prop := ∀ j, j < cs_n σ → cs_bf σ j 2 = 3 ∨ cs_bf σ j 2 = 4 ∨ ∃ s t : Nat, s < 3 ∧ t < 4 ∧ cs_bf σ j 2 = nI s ∧ cs_bf σ j 3 = nI t
theorem ie_lv1 : ∀ n, n < 4 → ∀ m, m < 8 → m < 2 ^ n → (nI m ||| ((1 : Int32) <<< (nI n &&& 31))) = nI (m + 2 ^ n) ∧ (nI m ||| ((0 : Int32) <<< (nI n &&& 31))) = nI m := by decide +kernel
theorem ie_lv2 : ∀ n, n < 4 → ∀ m, m < 8 → m < 2 ^ n → ∀ k, k < n → ((((nI (m + 2 ^ n)) >>> (nI k &&& 31)) &&& 1 = 0) ↔ ((nI m >>> (nI k &&& 31)) &&& 1 = 0)) := by decide +kernel
theorem ie_lv3 : ∀ n, n < 4 → ∀ m, m < 8 → m < 2 ^ n → ¬ (((nI (m + 2 ^ n)) >>> (nI n &&& 31)) &&& 1 = 0) ∧ (((nI m) >>> (nI n &&& 31)) &&& 1 = 0) := by decide +kernel
theorem pl_add {c p n : Nat} (hn : n < 4) (hc : c < 2 ^ (4 * n)) (hp : p < 16) : pl (c + p * 2 ^ (4 * n)) n = p ∧ ∀ k, k < n → pl (c + p * 2 ^ (4 * n)) k = pl c k := by
  unfold pl
  match n, hn with
  | 0, _ => exact ⟨by omega, fun k hk => absurd hk (Nat.not_lt_zero k)⟩
  | 1, _ =>
    refine ⟨by omega, fun k hk => ?_⟩
    match k, hk with
    | 0, _ => omega
  | 2, _ =>
    refine ⟨by omega, fun k hk => ?_⟩
    match k, hk with
    | 0, _ => omega
    | 1, _ => omega
  | 3, _ =>
    refine ⟨by omega, fun k hk => ?_⟩
    match k, hk with
    | 0, _ => omega
    | 1, _ => omega
    | 2, _ => omega
theorem ie_ad0 {c p N s : Nat} (hc : c < 2 ^ N) (hp : p < 16) (t : Int32) (hs : (t.toBitVec.smod 32).toNat = N) (hlt : p * 2 ^ N < 2 ^ 32) : nI c ||| ((nI p &&& 15) <<< t) = nI (c + p * 2 ^ N) := by
  have h1 : nI p &&& 15 = nI p := by rw [pk_andN (by omega) 4 (by decide +kernel), Nat.mod_eq_of_lt hp]
  have h2 : c ||| p * 2 ^ N = c + p * 2 ^ N := by
    have h := Nat.two_pow_add_eq_or_of_lt hc p
    rw [Nat.or_comm, Nat.mul_comm p (2 ^ N), ← h, Nat.add_comm]
  rw [h1, pk_shlN t N hs hlt, nI_or, h2]
theorem ie_ad {c p n : Nat} (hn : n < 4) (hc : c < 2 ^ (4 * n)) (hp : p < 16) : nI c ||| ((nI p &&& 15) <<< ((nI n * 4) &&& 31)) = nI (c + p * 2 ^ (4 * n)) := by
  have h4 : n = 0 ∨ n = 1 ∨ n = 2 ∨ n = 3 := by omega
  refine ie_ad0 (s := 0) hc hp _ ?_ ?_
  · rcases h4 with h | h | h | h <;> rw [h] <;> decide +kernel
  · rcases h4 with h | h | h | h <;> rw [h] <;> omega
/-- the search's boxes are those of js, its start the code c0 -/
def Ad (σ σ1 : ck_S) (js : List Nat) (c0 : Nat) : Prop := (∃ J, σ1 = cs_jk σ J ∧ J.2.1 = cs_sn σ) ∧ cs_si σ1 0 = nI js.length ∧ js.length ≤ 4 ∧ cs_si σ1 2 = nI c0 ∧ c0 < 2 ^ (4 * js.length) ∧ (∃ m, cs_si σ1 1 = nI m ∧ m < 2 ^ js.length) ∧
  ∀ k j : Nat, js[k]? = some j → cs_sa σ1 0 k = nI j ∧ cs_sa σ1 1 k = cs_bf σ j 4 ∧ cs_lv σ1 k = decide (cs_bf σ j 0 = 0) ∧ pl c0 k = plc σ j
theorem Ad.add {σ σ1 : ck_S} {js : List Nat} {c0 : Nat} (h : Ad σ σ1 js c0) {j : Nat} (h4 : js.length < 4) {pv lb : Int32} (hpv : pv = nI (plc σ j)) (hp : plc σ j < 16) (hlb : (cs_bf σ j 0 = 0 ∧ lb = 1) ∨ (¬ cs_bf σ j 0 = 0 ∧ lb = 0)) : Ad σ (cs_ad σ1 j js.length pv lb) (js ++ [j]) (c0 + plc σ j * 2 ^ (4 * js.length)) := by
  obtain ⟨⟨J, rfl, hJ⟩, h0, hl, h2, hc, ⟨m, hm, hm2⟩, hk⟩ := h
  have hm8 : m < 8 := Nat.lt_of_lt_of_le hm2 (show 2 ^ js.length ≤ 2 ^ 3 from Nat.pow_le_pow_right (by decide) (by omega))
  have L1 := ie_lv1 js.length h4 m hm8 hm2
  have L2 := ie_lv2 js.length h4 m hm8 hm2
  have L3 := ie_lv3 js.length h4 m hm8 hm2
  have hsi1 : cs_si (cs_ad (cs_jk σ J) j js.length pv lb) 1 = nI m ||| (lb <<< (nI js.length &&& 31)) := by
    rw [← hm]
    rfl
  refine ⟨⟨_, rfl, hJ⟩, ?_, ?_, ?_, ?_, ?_, ?_⟩
  · rw [List.length_append]
    exact (nI_succ _).symm
  · rw [List.length_append]
    exact h4
  · show cs_si (cs_jk σ J) 2 ||| ((pv &&& 15) <<< ((nI js.length * 4) &&& 31)) = _
    rw [h2, hpv]
    exact ie_ad h4 hc hp
  · rw [List.length_append]
    show _ < 2 ^ (4 * (js.length + 1))
    rw [show 4 * (js.length + 1) = 4 * js.length + 4 by omega, Nat.pow_add]
    have : plc σ j * 2 ^ (4 * js.length) ≤ 15 * 2 ^ (4 * js.length) := Nat.mul_le_mul_right _ (by omega)
    omega
  · rw [hsi1, List.length_append]
    rcases hlb with ⟨-, hlb⟩ | ⟨-, hlb⟩
    · refine ⟨m + 2 ^ js.length, ?_, ?_⟩
      · rw [hlb]
        exact L1.1
      · show _ < 2 ^ (js.length + 1)
        rw [Nat.pow_succ]
        omega
    · refine ⟨m, ?_, ?_⟩
      · rw [hlb]
        exact L1.2
      · exact Nat.lt_of_lt_of_le hm2 (Nat.pow_le_pow_right (by decide) (Nat.le_add_right _ _))
  · intro k i hki
    have hlv : ∀ k, cs_lv (cs_ad (cs_jk σ J) j js.length pv lb) k = !decide (((nI m ||| (lb <<< (nI js.length &&& 31))) >>> (nI k &&& 31)) &&& 1 = 0) := fun k => by
      unfold cs_lv
      rw [hsi1]
    have hlv0 : ∀ k, cs_lv (cs_jk σ J) k = !decide ((nI m >>> (nI k &&& 31)) &&& 1 = 0) := fun k => by
      unfold cs_lv
      rw [hm]
    rcases Nat.lt_or_ge k js.length with hkl | hkl
    · rw [List.getElem?_append_left hkl] at hki
      obtain ⟨a1, a2, a3, a4⟩ := hk k i hki
      refine ⟨?_, ?_, ?_, ?_⟩
      · show upd (cs_sa (cs_jk σ J) 0) js.length (nI j) k = _
        rw [pk_un (by omega)]
        exact a1
      · show upd (cs_sa (cs_jk σ J) 1) js.length _ k = _
        rw [pk_un (by omega)]
        exact a2
      · rw [hlv k, ← a3, hlv0 k]
        rcases hlb with ⟨-, hlb⟩ | ⟨-, hlb⟩
        · rw [hlb, L1.1]
          exact congrArg (fun b => !b) (decide_eq_decide.mpr (L2 k hkl))
        · rw [hlb, L1.2]
      · rw [(pl_add h4 hc hp).2 k hkl]
        exact a4
    · rw [List.getElem?_append_right hkl] at hki
      have hkk : k = js.length := by
        have := (List.getElem?_eq_some_iff.mp hki).1
        simp at this
        omega
      have hij : i = j := by
        have := List.mem_of_getElem? hki
        simpa using this
      subst hij
      subst hkk
      refine ⟨?_, ?_, ?_, ?_⟩
      · show upd (cs_sa (cs_jk σ J) 0) js.length (nI i) js.length = _
        exact pk_us
      · show upd (cs_sa (cs_jk σ J) 1) js.length _ js.length = _
        rw [pk_us]
        rfl
      · rw [hlv]
        rcases hlb with ⟨hz, hlb⟩ | ⟨hz, hlb⟩
        · rw [hlb, L1.1, decide_eq_false L3.1, decide_eq_true hz]
          rfl
        · rw [hlb, L1.2, decide_eq_true L3.2, decide_eq_false hz]
          rfl
      · exact (pl_add h4 hc hp).1
end
section
/-! The class's plan. -/
theorem rch_Qp {ep : Nat → Bool} {S : qS} {x : qE} (h : Qp S.1) (hp : x.2.1 ≤ S.1.length) (h1 : 0 < S.1.length → 1 ≤ x.2.1) (hs : x.2.2 < 256) : Qp (rch ep S x).1 ∧ S.1.length ≤ (rch ep S x).1.length := by
  unfold rch
  split
  · exact ⟨h, Nat.le_refl _⟩
  · refine ⟨fun i y hy => ?_, by show _ ≤ (S.1 ++ [x]).length; rw [List.length_append]; exact Nat.le_add_right _ _⟩
    have hy : (S.1 ++ [x])[i]? = some y := hy
    rcases Nat.lt_or_ge i S.1.length with hi | hi
    · rw [List.getElem?_append_left hi] at hy
      exact h i y hy
    · rw [List.getElem?_append_right hi] at hy
      have hxy : y = x := by
        have := List.mem_of_getElem? hy
        simpa using this
      have hil : i = S.1.length := by
        have := (List.getElem?_eq_some_iff.mp hy).1
        simp at this
        omega
      rw [hxy, hil]
      exact ⟨hp, h1, hs⟩
theorem rchl_Qp {ep : Nat → Bool} {p : Nat} (h1 : 1 ≤ p) : ∀ (l : List (Nat × Nat)) (S : qS), Qp S.1 → p ≤ S.1.length → (∀ y ∈ l, y.2 < 256) → Qp (rchl ep p S l).1 ∧ S.1.length ≤ (rchl ep p S l).1.length
  | [], S, h, hp, hl => ⟨h, Nat.le_refl _⟩
  | y :: l, S, h, hp, hl => by
    have q := rch_Qp (ep := ep) (x := (y.1, p, y.2)) h hp (fun _ => h1) (hl y List.mem_cons_self)
    have r := rchl_Qp (ep := ep) h1 l (rch ep S (y.1, p, y.2)) q.1 (Nat.le_trans hp q.2) (fun z hz => hl z (List.mem_cons_of_mem _ hz))
    exact ⟨r.1, Nat.le_trans q.2 r.2⟩
theorem bfs_Qp {ep : Nat → Bool} {suc : Nat → List (Nat × Nat)} (hs : ∀ c, ∀ y ∈ suc c, y.2 < 256) : ∀ (m a : Nat) (S : qS), Qp S.1 → Qp (bfs ep suc m a S).1
  | 0, _, S, h => h
  | m + 1, a, S, h => by
    by_cases h0 : S.2 = 0
    · cases hx : S.1[a]? with
      | none =>
        rw [bfs_n (List.getElem?_eq_none_iff.mp hx)]
        exact h
      | some x =>
        rw [bfs_s h0 hx]
        have := (List.getElem?_eq_some_iff.mp hx).1
        exact bfs_Qp hs m (a + 1) _ (rchl_Qp (by omega) _ S h (by omega) (hs x.1)).1
    · rw [bfs_e h0]
      exact h
theorem tsl_b {n t c k f : Nat} (hk : k < 4) (hf : f < 7) : ∀ i, i ≤ 3 → ∀ y ∈ tsl n t c k f i, y.2 < 256
  | 0, _, y, hy => by cases hy
  | i + 1, hi, y, hy => by
    by_cases h : ¬ i = f ∧ hs c i n < t
    · rw [tsl_t h] at hy
      rcases List.mem_append.mp hy with hy | hy
      · exact tsl_b hk hf i (by omega) y hy
      · rw [List.mem_singleton.mp hy]
        show 64 * k + 8 * f + i < 256
        omega
    · rw [tsl_f h] at hy
      exact tsl_b hk hf i (by omega) y hy
theorem ttl1_b {n t : Nat} {mg : Nat → Bool} {c f : Nat} (hn : n ≤ 4) (hf : f < 3) : ∀ y ∈ ttl1 n t mg c f, y.2 < 256 := by
  intro y hy
  unfold ttl1 at hy
  have := tp_le c f n
  split at hy
  · cases hy
  · rcases List.mem_append.mp hy with hy | hy
    · rcases List.mem_append.mp hy with hy | hy
      · exact tsl_b (by omega) (by omega) 3 (Nat.le_refl 3) y hy
      · split at hy
        · rw [List.mem_singleton.mp hy]
          show 64 * (tp c f n - 1) + 8 * f + 3 < 256
          omega
        · cases hy
    · rw [List.mem_singleton.mp hy]
      show 64 * (tp c f n - 1) + 8 * f + 4 < 256
      omega
theorem asl_b {n t c : Nat} : ∀ k, k ≤ 4 → ∀ y ∈ asl n t c k, y.2 < 256
  | 0, _, y, hy => by cases hy
  | k + 1, hk, y, hy => by
    by_cases h : pl c k = 13
    · rw [asl_t h] at hy
      rcases List.mem_append.mp hy with hy | hy
      · exact asl_b k (by omega) y hy
      · have := asc_le c k
        exact tsl_b (by omega) (by omega) 3 (Nat.le_refl 3) y hy
    · rw [asl_f h] at hy
      exact asl_b k (by omega) y hy
theorem sucl_b {σ : ck_S} {n : Nat} (hn : n ≤ 4) (c : Nat) : ∀ y ∈ sucl σ n c, y.2 < 256 := by
  intro y hy
  unfold sucl at hy
  rcases List.mem_append.mp hy with hy | hy
  · rcases List.mem_append.mp (show y ∈ (ttl n (cs_ti σ) (mgc σ n c) c 2) ++ ttl1 n (cs_ti σ) (mgc σ n c) c 2 from hy) with hy | hy
    · rcases List.mem_append.mp (show y ∈ (ttl n (cs_ti σ) (mgc σ n c) c 1) ++ ttl1 n (cs_ti σ) (mgc σ n c) c 1 from hy) with hy | hy
      · rcases List.mem_append.mp (show y ∈ (ttl n (cs_ti σ) (mgc σ n c) c 0) ++ ttl1 n (cs_ti σ) (mgc σ n c) c 0 from hy) with hy | hy
        · cases hy
        · exact ttl1_b hn (by omega) y hy
      · exact ttl1_b hn (by omega) y hy
    · exact ttl1_b hn (by omega) y hy
  · exact asl_b n hn y hy
theorem cs_F_Qp (σ : ck_S) {n : Nat} (hn : n ≤ 4) (c0 : Nat) : Qp (cs_F σ n c0).1 := bfs_Qp (sucl_b hn) _ _ _ (rch_Qp (S := ([], 0)) (x := (c0, 0, 0)) (fun i x hx => by simp at hx) (Nat.le_refl 0) (fun h => absurd h (Nat.lt_irrefl 0)) (show 0 < 256 by omega)).1
theorem plc_ok {σ : ck_S} (hrg : cs_rg σ) {j : Nat} (hj : j < cs_n σ) (h3 : ¬ cs_bf σ j 2 = 3) {pv : Int32} (hpv : (cs_bf σ j 2 = 4 ∧ pv = 13) ∨ (¬ cs_bf σ j 2 = 4 ∧ pv = cs_bf σ j 2 * 4 + cs_bf σ j 3)) : pv = nI (plc σ j) ∧ plc σ j < 16 := by
  unfold plc
  rcases hpv with ⟨h, hpv⟩ | ⟨h, hpv⟩
  · rw [if_pos h, hpv]
    exact ⟨rfl, by omega⟩
  · rw [if_neg h, hpv]
    rcases hrg j hj with q | q | ⟨s, t, hs, ht, q1, q2⟩
    · exact absurd q h3
    · exact absurd q h
    · rw [q1, q2, nI_clamp (by omega), nI_clamp (by omega)]
      refine ⟨?_, by omega⟩
      rw [show (nI s * (4 : Int32)) = nI (s * 4) from pk_mul s 4, nI_add]
section RU
variable {B : Nat} {sc : Option (Nat × Nat × (Nat → Int32))} {d : Nat} {ad : Nat → Nat} {σ : ck_S} {K : rp_K} {C : px_P}
/-- what a plan of bay b answers, and the state behind it -/
def PlanP (ad : Nat → Nat) (σ : ck_S) (K : rp_K) (b : Nat) (v : Option Value) (C' : px_P) : Prop := ∃ (σ1 : ck_S) (c0 : Nat) (J : cs_J), Ad σ σ1 (bjs σ (nI b) (cs_n σ)) c0 ∧ (∀ r, r < 1024 → J.2.1 r = 0) ∧
  (((cs_F σ1 (bjs σ (nI b) (cs_n σ)).length c0).2 = 0 ∧ v = some (.int (-1)) ∧ Ck ad (cs_jk (cs_fp σ b) J) K C') ∨
   ∃ e L Y, (cs_F σ1 (bjs σ (nI b) (cs_n σ)).length c0).2 = e + 1 ∧ Told σ1 (cs_F σ1 (bjs σ (nI b) (cs_n σ)).length c0) e b L Y ∧ v = some (.int (nI L)) ∧ Ck ad (cs_jk (cs_yA (cs_sP σ b (nI L)) Y) J) K C')
theorem cs_fp_0 (σ : ck_S) (b : Nat) : cs_yf (cs_fp σ b) b 0 = 0 := by
  show va_up (cs_yf σ) b _ b 0 = _
  rw [va_up_self]
  rfl
theorem cc_plan (hR : Rp ad K C) (hc : Cl ad σ K) (hz : ∀ r, r < 1024 → cs_sn σ r = 0) (hrg : cs_rg σ) (hb4 : ∀ x, pn_ct (fun j => decide (cs_bf σ j 1 = x ∧ ¬ cs_bf σ j 2 = 3)) (cs_n σ) ≤ 4) (x : Int32) : px_W ps_Y ps_P B sc (d + 7) 48 [.ref (ad 0), .int x] C 1 6 (fun v C' => ∃ b, b < cs_nb σ ∧ x = nI b ∧ PlanP ad σ K b v C') (fun kd C' => kd = 1 ∧ C' = C ∧ (x < 0 ∨ nI (cs_nb σ) ≤ x)) := by
  have h0 := hR.1 0 _ hc.1.1
  have hn := hc.2.2.2.2.2.2.2.2.2
  have hnb := hc.2.2.2.2.2.2.1
  refine ⟨pm_Mo_plan, rfl, Nat.le_of_ble_eq_true rfl, fun X hw hX => ?_⟩
  iterate 3 refine px_go hX ?_
  refine ⟨_, h0, 0, 0, _, Nat.le_of_ble_eq_true rfl, Nat.le_of_ble_eq_true rfl, Nat.le_of_ble_eq_true rfl, cc_bayAt hR hc _, ?_⟩
  rintro _ C ⟨rfl, ⟨b, hb, hx, rfl⟩ | ⟨hx, rfl⟩⟩
  · iterate 5 refine px_go hX ?_
    refine ⟨_, _, h0, rfl, ?_⟩
    refine px_go hX ?_
    refine ⟨_, (hR.1 3 _ hc.1.2.2.2), 0, 0, _, Nat.le_of_ble_eq_true rfl, Nat.le_of_ble_eq_true rfl, Nat.le_of_ble_eq_true rfl, cc_clear hR hc, ?_⟩
    rintro _ C ⟨rfl, K0, hR0, hc0, hK0⟩
    iterate 2 refine px_go hX ?_
    have loop : ∀ kk i (σ1 : ck_S) (c0 : Nat) (K1 : rp_K) (C1 : px_P), i + kk = cs_n σ → (Rp ad K1 C1 ∧ Cl ad σ1 K1 ∧ (∀ q, 100 ≤ q → K1 q = K q) ∧ Ad σ σ1 (bjs σ x i) c0) → X (29, [(0, .ref (ad 0)), (1, .int (x)), (2, .ref (ad (20 + 4 * b))), (3, .int (nI i))], [], C1, 0, 0) := by
      intro kk
      induction kk with
      | zero =>
        intro i σ1 c0 K1 C1 hi ⟨hR1, hc1, hK1, hA⟩
        have hlt : i = cs_n σ := hi
        have hA' := hA
        obtain ⟨⟨J, rfl, hJ⟩, a0, a4, a2, a5, a6, a7⟩ := hA'
        iterate 3 refine px_go hX ?_
        refine ⟨_, _, (hR1.1 0 _ hc1.1.1), rfl, ?_⟩
        refine px_go hX ?_
        refine ⟨fun (c1 : nI (cs_n σ) ≤ nI i) => ?_, fun (c1 : ¬ nI (cs_n σ) ≤ nI i) => absurd (nI_le (by omega) (by omega)) c1⟩
        rw [hlt] at hA a0 a4 a5
        iterate 2 refine px_go hX ?_
        refine ⟨_, _, (hR1.1 0 _ hc1.1.1), rfl, ?_⟩
        iterate 2 refine px_go hX ?_
        refine ⟨_, (hR1.1 3 _ hc1.1.2.2.2), 0, 0, _, Nat.le_of_ble_eq_true rfl, Nat.le_of_ble_eq_true rfl, Nat.le_of_ble_eq_true rfl, cc_findPlan (σ := cs_jk σ J) (n := (bjs σ x (cs_n σ)).length) hR1 hc1 a0 a4 a2 (Nat.lt_of_lt_of_le a5 (show 2 ^ (4 * (bjs σ x (cs_n σ)).length) ≤ 2 ^ 16 from Nat.pow_le_pow_right (by decide) (by omega))) (fun r hr => by rw [show cs_sn (cs_jk σ J) = cs_sn σ from hJ]; exact hz r hr) hb (cs_F_Qp _ a4 _), ?_⟩
        rintro _ C ⟨rfl, J2, hJ2, ⟨hF0, K3, hR3, hc3, hK3⟩ | ⟨e, L, Y, he, hT, K3, hR3, hc3, hK3⟩⟩
        · iterate 2 refine px_go hX ?_
          refine ⟨_, _, (hR3.1 _ _ (hc3.2.2.1 b hb).1), rfl, ?_⟩
          refine px_go hX ?_
          refine ⟨fun (c2 : cs_yf (cs_fp σ b) b 0 = 0) => ?_, fun (c2 : ¬ cs_yf (cs_fp σ b) b 0 = 0) => absurd (cs_fp_0 σ b) c2⟩
          iterate 2 refine px_go hX ?_
          subst hx
          exact ⟨b, hb, rfl, _, c0, J2, hA, hJ2, Or.inl ⟨hF0, rfl, K3, hR3, hc3, fun q hq => (hK3 q hq).trans (hK1 q hq)⟩⟩
        · iterate 2 refine px_go hX ?_
          refine ⟨_, _, (hR3.1 _ _ (hc3.2.2.1 b hb).1), rfl, ?_⟩
          refine px_go hX ?_
          refine ⟨fun (c3 : cs_yf (cs_sP σ b (nI L)) b 0 = 0) => absurd ((cs_sP_0 σ b (nI L)).symm.trans c3) (by decide), fun (c3 : ¬ cs_yf (cs_sP σ b (nI L)) b 0 = 0) => ?_⟩
          iterate 2 refine px_go hX ?_
          refine ⟨_, _, (hR3.1 _ _ (hc3.2.2.1 b hb).1), rfl, ?_⟩
          iterate 2 refine px_go hX ?_
          subst hx
          exact ⟨b, hb, rfl, _, c0, J2, hA, hJ2, Or.inr ⟨e, L, Y, he, hT, congrArg (fun z => some (Value.int z)) (cs_sP_1 σ b (nI L)), K3, hR3, hc3, fun q hq => (hK3 q hq).trans (hK1 q hq)⟩⟩
      | succ kk ih =>
        intro i σ1 c0 K1 C1 hi ⟨hR1, hc1, hK1, hA⟩
        have hlt : i < cs_n σ := by omega
        have hA' := hA
        obtain ⟨⟨J, rfl, hJ⟩, a0, a4, a2, a5, a6, a7⟩ := hA'
        iterate 3 refine px_go hX ?_
        refine ⟨_, _, (hR1.1 0 _ hc1.1.1), rfl, ?_⟩
        refine px_go hX ?_
        refine ⟨fun (c4 : nI (cs_n σ) ≤ nI i) => absurd c4 (nI_ge hlt (by omega)), fun (c4 : ¬ nI (cs_n σ) ≤ nI i) => ?_⟩
        iterate 3 refine px_go hX ?_
        refine ⟨_, (hR1.1 0 _ hc1.1.1), 0, 0, _, Nat.le_of_ble_eq_true rfl, Nat.le_of_ble_eq_true rfl, Nat.le_of_ble_eq_true rfl, cc_boxAtI (σ := cs_jk σ J) hR1 hc1 hlt, ?_⟩
        rintro _ C ⟨rfl, rfl⟩
        iterate 6 refine px_go hX ?_
        refine ⟨_, (hR1.1 _ _ (hc1.2.2.2.1 i hlt)), 0, 0, _, Nat.le_of_ble_eq_true rfl, Nat.le_of_ble_eq_true rfl, Nat.le_of_ble_eq_true rfl, cc_isIn (σ := cs_jk σ J) hR1 hc1 hlt _, ?_⟩
        rintro _ C ⟨rfl, ⟨b5, rfl⟩ | ⟨b5, rfl⟩⟩
        · refine px_go hX ?_
          refine ⟨fun (c6 : 1 = 0) => absurd c6 (by decide), fun (c6 : ¬ 1 = 0) => ?_⟩
          have h4 : (bjs σ x i).length < 4 := by
            have h5 := hb4 x
            have h6 := pn_ct_mono (fun j => decide (cs_bf σ j 1 = x ∧ ¬ cs_bf σ j 2 = 3)) (show i + 1 ≤ cs_n σ from hlt)
            rw [pn_ct_t (decide_eq_true b5), ← bjs_len] at h6
            omega
          iterate 2 refine px_go hX ?_
          refine ⟨_, _, (hR1.1 0 _ hc1.1.1), rfl, ?_⟩
          iterate 3 refine px_go hX ?_
          refine ⟨_, (hR1.1 3 _ hc1.1.2.2.2), 0, 0, _, Nat.le_of_ble_eq_true rfl, Nat.le_of_ble_eq_true rfl, Nat.le_of_ble_eq_true rfl, cc_add (σ := cs_jk σ J) hR1 hc1 hlt a0 h4, ?_⟩
          rintro _ C ⟨rfl, pv, lb, hpv, hlb, K2, hR2, hc2, hK2⟩
          obtain ⟨hp1, hp2⟩ := plc_ok hrg hlt b5.2 hpv
          have hA2 := hA.add h4 hp1 hp2 hlb
          rw [← show bjs σ x (i + 1) = bjs σ x i ++ [i] from if_pos b5] at hA2
          iterate 2 refine px_go hX ?_
          exact px_lw hw [(0, .ref (ad 0)), (1, .int (x)), (2, .ref (ad (20 + 4 * b))), (3, .int (nI (i + 1)))] (ih (i + 1) _ _ K2 _ (by omega) ⟨hR2, hc2, fun q hq => (hK2 q hq).trans (hK1 q hq), hA2⟩) ⟨rfl, rfl, rfl, (congrArg (fun z => some (Value.int z)) (nI_succ _).symm), trivial⟩
        · refine px_go hX ?_
          refine ⟨fun (c7 : 0 = 0) => ?_, fun (c7 : ¬ 0 = 0) => absurd rfl c7⟩
          iterate 2 refine px_go hX ?_
          exact px_lw hw [(0, .ref (ad 0)), (1, .int (x)), (2, .ref (ad (20 + 4 * b))), (3, .int (nI (i + 1)))] (ih (i + 1) _ c0 K1 _ (by omega) ⟨hR1, hc1, hK1, by rw [show bjs σ x (i + 1) = bjs σ x i from if_neg b5]; exact hA⟩) ⟨rfl, rfl, rfl, (congrArg (fun z => some (Value.int z)) (nI_succ _).symm), trivial⟩
    exact px_lw hw [(0, .ref (ad 0)), (1, .int (x)), (2, .ref (ad (20 + 4 * b))), (3, .int (nI 0))] (loop (cs_n σ - 0) 0 (cs_clr σ) 0 K0 _ (by omega) ⟨hR0, hc0, hK0, ⟨_, rfl, rfl⟩, rfl, Nat.zero_le 4, rfl, (show 0 < 2 ^ 0 by decide), ⟨0, rfl, (show 0 < 2 ^ 0 by decide)⟩, fun k j hk => by simp [bjs] at hk⟩) ⟨rfl, rfl, rfl, rfl, trivial⟩
  · iterate 4 refine px_go hX ?_
    exact ⟨Nat.le_refl 1, Nat.le_refl 6, rfl, rfl, rfl, hx⟩
end RU
end
section
/-! The reference's cells: 100 the object, 100 + q its arrays. -/
/-- bays, tiers, boxes; thrown, went, worked, ways, mineCount; its arrays of ints; its ways -/
abbrev rs_S : Type := (Nat × Nat × Nat) × (Nat → Int32) × (Nat → Nat → Int32) × (Nat → Int64)
abbrev rs_nb (ρ : rs_S) : Nat := ρ.1.1
abbrev rs_ti (ρ : rs_S) : Nat := ρ.1.2.1
abbrev rs_n (ρ : rs_S) : Nat := ρ.1.2.2
abbrev rs_sc (ρ : rs_S) : Nat → Int32 := ρ.2.1
abbrev rs_a (ρ : rs_S) : Nat → Nat → Int32 := ρ.2.2.1
abbrev rs_w (ρ : rs_S) : Nat → Int64 := ρ.2.2.2
def rk (q : Nat) : Nat := match q with | 5 => 2 | 7 => 2 | _ => 0
def rz (q : Nat) : Nat := match q with | 1 => 16 | 2 => 16 | 3 => 16 | 4 => 16 | 5 => 256 | 6 => 4 | 7 => 4 | 8 => 4 | 9 => 4 | 10 => 160 | 11 => 160 | 12 => 160 | 14 => 2048 | 15 => 2048 | 16 => 4096 | _ => 4
abbrev rr_o (ad : Nat → Nat) (p : Nat × Nat × Nat) (f : Nat → Int32) : px_E := px_o 4 [.int (f 0), .int (nI p.1), .int (nI p.2.1), .int (nI p.2.2), .ref (ad 101), .ref (ad 102), .ref (ad 103), .ref (ad 104), .ref (ad 105), .ref (ad 106), .int (f 1), .int (f 2), .ref (ad 107), .ref (ad 108), .ref (ad 109), .ref (ad 110), .ref (ad 111), .ref (ad 112), .ref (ad 113), .ref (ad 114), .ref (ad 115), .int (f 3), .ref (ad 116), .ref (ad 117), .int (f 4)]
def Rl (ad : Nat → Nat) (ρ : rs_S) (K : rp_K) : Prop := K 100 = some (rr_o ad ρ.1 (rs_sc ρ)) ∧ (∀ q, 1 ≤ q → q ≤ 17 → q ≠ 13 → K (100 + q) = some (.inl (rk q, rz q, rs_a ρ q))) ∧ K 113 = some (px_j 2048 (rs_w ρ))
def rs_sO (ρ : rs_S) (n : Nat) (f : Nat → Int32) : rs_S := ((ρ.1.1, ρ.1.2.1, n), f, ρ.2.2)
def rs_sA (ρ : rs_S) (q : Nat) (g : Nat → Int32) : rs_S := (ρ.1, ρ.2.1, va_up (rs_a ρ) q g, ρ.2.2.2)
def rs_sW (ρ : rs_S) (g : Nat → Int64) : rs_S := (ρ.1, ρ.2.1, ρ.2.2.1, g)
theorem Rl.sO {ad : Nat → Nat} {ρ : rs_S} {K : rp_K} (h : Rl ad ρ K) (n : Nat) (f : Nat → Int32) : Rl ad (rs_sO ρ n f) (rp_up K 100 (rr_o ad (ρ.1.1, ρ.1.2.1, n) f)) :=
  ⟨rp_up_s _ _ _, fun q h1 h2 h3 => by rw [rp_up_n _ _ (by omega)]; exact h.2.1 q h1 h2 h3, by rw [rp_up_n _ _ (by omega)]; exact h.2.2⟩
theorem Rl.sA {ad : Nat → Nat} {ρ : rs_S} {K : rp_K} (h : Rl ad ρ K) {q : Nat} (h1 : 1 ≤ q) (h2 : q ≤ 17) (h3 : q ≠ 13) (g : Nat → Int32) : Rl ad (rs_sA ρ q g) (rp_up K (100 + q) (.inl (rk q, rz q, g))) := by
  refine ⟨by rw [rp_up_n _ _ (by omega)]; exact h.1, fun p p1 p2 p3 => ?_, by rw [rp_up_n _ _ (by omega)]; exact h.2.2⟩
  show _ = some (Sum.inl (rk p, rz p, va_up (rs_a ρ) q g p))
  by_cases hp : p = q
  · subst hp
    rw [rp_up_s, va_up_self]
  · rw [rp_up_n _ _ (by omega), va_up_ne _ _ hp]
    exact h.2.1 p p1 p2 p3
theorem Rl.sW {ad : Nat → Nat} {ρ : rs_S} {K : rp_K} (h : Rl ad ρ K) (g : Nat → Int64) : Rl ad (rs_sW ρ g) (rp_up K 113 (px_j 2048 g)) :=
  ⟨by rw [rp_up_n _ _ (by omega)]; exact h.1, fun q h1 h2 h3 => by rw [rp_up_n _ _ (by omega)]; exact h.2.1 q h1 h2 h3, rp_up_s _ _ _⟩
/-- i is to go out before j -/
def cs_need (σ : ck_S) (i j : Nat) : Prop := j < cs_n σ ∧ ¬ ((cs_bf σ j 4 >>> (nI i &&& 31)) &&& 1) = 0
/-- the reference says the same -/
def Sim (σ : ck_S) (ρ : rs_S) : Prop :=
  (ρ.1 = σ.1 ∧ rs_sc ρ 1 = cs_lg σ ∧ rs_sc ρ 2 = cs_mw σ) ∧
  (∀ j, j < cs_n σ → rs_a ρ 1 j = cs_bf σ j 0 ∧ rs_a ρ 2 j = cs_bf σ j 1 ∧ rs_a ρ 3 j = cs_bf σ j 2 ∧ rs_a ρ 4 j = cs_bf σ j 3) ∧
  (∀ i j, i < 16 → j < 16 → (cs_need σ i j ∧ rs_a ρ 5 (16 * i + j) = 1) ∨ (¬ cs_need σ i j ∧ rs_a ρ 5 (16 * i + j) = 0)) ∧
  (∀ b, b < cs_nb σ → rs_a ρ 6 b = cs_yf σ b 3 ∧ rs_a ρ 7 b = cs_yf σ b 0 ∧ (¬ cs_yf σ b 0 = 0 → rs_a ρ 8 b = cs_yf σ b 1 ∧ rs_a ρ 9 b = cs_yf σ b 2 ∧ ∀ i, i < 12 → nI i < cs_yf σ b 1 → rs_a ρ 10 (40 * b + i) = cs_ya σ b 0 i ∧ rs_a ρ 11 (40 * b + i) = cs_ya σ b 1 i ∧ rs_a ρ 12 (40 * b + i) = cs_ya σ b 2 i) ∧ ∃ m d : Nat, rs_a ρ 8 b = nI m ∧ rs_a ρ 9 b = nI d ∧ d ≤ m ∧ m ≤ 12)
/-- the picture behind a call of the reference -/
def Cr (ad : Nat → Nat) (ρ : rs_S) (K : rp_K) (C : px_P) : Prop := ∃ K', Rp ad K' C ∧ Rl ad ρ K' ∧ ∀ i, i < 100 ∨ 118 ≤ i → K' i = K i
/-- a call of the reference: it says what r says -/
def px_oR (ad : Nat → Nat) (K : rp_K) (r : cs_R) : Option Value → px_P → Prop := fun v C' => ∃ ρ' y, Cr ad ρ' K C' ∧ Sim r.2.2 ρ' ∧ rs_sc ρ' 0 = nI r.1 ∧ v = some (.int y) ∧ (r.1 = 0 → y = r.2.1)
def rs_th (ρ : rs_S) (t : Int32) : rs_S := rs_sO ρ (rs_n ρ) (fun q => match q with | 0 => t | 1 => rs_sc ρ 1 | 2 => rs_sc ρ 2 | 3 => rs_sc ρ 3 | _ => rs_sc ρ 4)
theorem Sim.th {σ : ck_S} {ρ : rs_S} (h : Sim σ ρ) (t : Int32) : Sim σ (rs_th ρ t) := h
theorem Cr.of {ad : Nat → Nat} {ρ : rs_S} {K : rp_K} {C : px_P} (hR : Rp ad K C) (hr : Rl ad ρ K) : Cr ad ρ K C := ⟨K, hR, hr, fun _ _ => rfl⟩
end
section
/-! The reference's small methods. -/
section SA
variable {B : Nat} {sc : Option (Nat × Nat × (Nat → Int32))} {d : Nat} {ad : Nat → Nat} {σ : ck_S} {ρ : rs_S} {K : rp_K} {C : px_P}
theorem rr_isBay (hR : Rp ad K C) (hr : Rl ad ρ K) (hs : Sim σ ρ) (x : Int32) : px_W ps_Y ps_P B sc (d + 1) 56 [.ref (ad 100), .int x] C 0 0 (px_bo (¬ x < 0 ∧ ¬ nI (cs_nb σ) ≤ x) C) px_no := by
  obtain ⟨p, fs, fa, fw⟩ := ρ
  obtain rfl : p = σ.1 := hs.1.1
  refine ⟨pm_Ref_isBay, rfl, Nat.le_of_ble_eq_true rfl, fun X hw hX => ?_⟩
  iterate 2 refine px_go hX ?_
  refine ⟨fun (c1 : x < 0) => ?_, fun (c1 : ¬ x < 0) => ?_⟩
  · iterate 2 refine px_go hX ?_
    exact ⟨Or.inl rfl, rfl, Or.inr ⟨fun q => q.1 c1, rfl⟩⟩
  · iterate 3 refine px_go hX ?_
    refine ⟨_, _, (hR.1 100 _ hr.1), rfl, ?_⟩
    refine px_go hX ?_
    refine ⟨fun (c2 : nI (cs_nb σ) ≤ x) => ?_, fun (c2 : ¬ nI (cs_nb σ) ≤ x) => ?_⟩
    · iterate 2 refine px_go hX ?_
      exact ⟨Or.inl rfl, rfl, Or.inr ⟨fun q => q.2 c2, rfl⟩⟩
    · iterate 3 refine px_go hX ?_
      exact ⟨Or.inr rfl, rfl, Or.inl ⟨⟨c1, c2⟩, rfl⟩⟩
theorem rr_isBox (hR : Rp ad K C) (hr : Rl ad ρ K) (hs : Sim σ ρ) (x : Int32) : px_W ps_Y ps_P B sc (d + 1) 64 [.ref (ad 100), .int x] C 0 0 (px_bo (¬ x < 0 ∧ ¬ nI (cs_n σ) ≤ x) C) px_no := by
  obtain ⟨p, fs, fa, fw⟩ := ρ
  obtain rfl : p = σ.1 := hs.1.1
  refine ⟨pm_Ref_isBox, rfl, Nat.le_of_ble_eq_true rfl, fun X hw hX => ?_⟩
  iterate 2 refine px_go hX ?_
  refine ⟨fun (c1 : x < 0) => ?_, fun (c1 : ¬ x < 0) => ?_⟩
  · iterate 2 refine px_go hX ?_
    exact ⟨Or.inl rfl, rfl, Or.inr ⟨fun q => q.1 c1, rfl⟩⟩
  · iterate 3 refine px_go hX ?_
    refine ⟨_, _, (hR.1 100 _ hr.1), rfl, ?_⟩
    refine px_go hX ?_
    refine ⟨fun (c2 : nI (cs_n σ) ≤ x) => ?_, fun (c2 : ¬ nI (cs_n σ) ≤ x) => ?_⟩
    · iterate 2 refine px_go hX ?_
      exact ⟨Or.inl rfl, rfl, Or.inr ⟨fun q => q.2 c2, rfl⟩⟩
    · iterate 3 refine px_go hX ?_
      exact ⟨Or.inr rfl, rfl, Or.inl ⟨⟨c1, c2⟩, rfl⟩⟩
theorem rr_in (x y z : Int32) : px_W ps_Y ps_P B sc (d + 1) 57 [.int x, .int y, .int z] C 0 0 (px_bo (¬ x < y ∧ ¬ z < x) C) px_no := by
  refine ⟨pm_Ref_in, rfl, Nat.le_of_ble_eq_true rfl, fun X hw hX => ?_⟩
  iterate 3 refine px_go hX ?_
  refine ⟨fun (c1 : x < y) => ?_, fun (c1 : ¬ x < y) => ?_⟩
  · iterate 2 refine px_go hX ?_
    exact ⟨Or.inl rfl, rfl, Or.inr ⟨fun q => q.1 c1, rfl⟩⟩
  · iterate 3 refine px_go hX ?_
    refine ⟨fun (c2 : z < x) => ?_, fun (c2 : ¬ z < x) => ?_⟩
    · iterate 2 refine px_go hX ?_
      exact ⟨Or.inl rfl, rfl, Or.inr ⟨fun q => q.2 c2, rfl⟩⟩
    · iterate 3 refine px_go hX ?_
      exact ⟨Or.inr rfl, rfl, Or.inl ⟨⟨c1, c2⟩, rfl⟩⟩
theorem rr_refuse (hR : Rp ad K C) (hr : Rl ad ρ K) (hs : Sim σ ρ) (t : Int32) : px_W ps_Y ps_P B sc (d + 1) 58 [.ref (ad 100), .int t] C 0 0 (fun v C' => v = some (.int 0) ∧ Cr ad (rs_th ρ t) K C') px_no := by
  obtain ⟨p, fs, fa, fw⟩ := ρ
  obtain rfl : p = σ.1 := hs.1.1
  refine ⟨pm_Ref_refuse, rfl, Nat.le_of_ble_eq_true rfl, fun X hw hX => ?_⟩
  iterate 3 refine px_go hX ?_
  refine ⟨_, (hR.1 100 _ hr.1), Nat.le_of_ble_eq_true rfl, rfl, rfl, ?_⟩
  iterate 2 refine px_go hX ?_
  have hR1 := (hR.put (i := 100) hr.1 (px_o 4 [.int (t), .int (nI (cs_nb σ)), .int (nI (cs_ti σ)), .int (nI (cs_n σ)), .ref (ad 101), .ref (ad 102), .ref (ad 103), .ref (ad 104), .ref (ad 105), .ref (ad 106), .int (fs 1), .int (fs 2), .ref (ad 107), .ref (ad 108), .ref (ad 109), .ref (ad 110), .ref (ad 111), .ref (ad 112), .ref (ad 113), .ref (ad 114), .ref (ad 115), .int (fs 3), .ref (ad 116), .ref (ad 117), .int (fs 4)]))
  have hr1 : Rl ad (rs_th (σ.1, fs, fa, fw) t) (rp_up (K) (100) (px_o 4 [.int (t), .int (nI (cs_nb σ)), .int (nI (cs_ti σ)), .int (nI (cs_n σ)), .ref (ad 101), .ref (ad 102), .ref (ad 103), .ref (ad 104), .ref (ad 105), .ref (ad 106), .int (fs 1), .int (fs 2), .ref (ad 107), .ref (ad 108), .ref (ad 109), .ref (ad 110), .ref (ad 111), .ref (ad 112), .ref (ad 113), .ref (ad 114), .ref (ad 115), .int (fs 3), .ref (ad 116), .ref (ad 117), .int (fs 4)])) := hr.sO _ _
  have hK1 : ∀ zz, zz < 100 ∨ 118 ≤ zz → (rp_up (K) (100) (px_o 4 [.int (t), .int (nI (cs_nb σ)), .int (nI (cs_ti σ)), .int (nI (cs_n σ)), .ref (ad 101), .ref (ad 102), .ref (ad 103), .ref (ad 104), .ref (ad 105), .ref (ad 106), .int (fs 1), .int (fs 2), .ref (ad 107), .ref (ad 108), .ref (ad 109), .ref (ad 110), .ref (ad 111), .ref (ad 112), .ref (ad 113), .ref (ad 114), .ref (ad 115), .int (fs 3), .ref (ad 116), .ref (ad 117), .int (fs 4)])) zz = (K) zz := fun zz hzz => by rw [rp_up_n _ _ (by omega)]
  exact ⟨rfl, _, hR1, hr1, hK1⟩
theorem rr_thrown (hR : Rp ad K C) (hr : Rl ad ρ K) : px_W ps_Y ps_P B sc (d + 1) 63 [.ref (ad 100)] C 0 0 (fun v C' => C' = C ∧ v = some (.int (rs_sc ρ 0))) px_no := by
  refine ⟨pm_Ref_thrown, rfl, Nat.le_of_ble_eq_true rfl, fun X hw hX => ?_⟩
  iterate 2 refine px_go hX ?_
  refine ⟨_, _, (hR.1 100 _ hr.1), rfl, ?_⟩
  refine px_go hX ?_
  exact ⟨rfl, rfl⟩
theorem rr_there (hR : Rp ad K C) (hr : Rl ad ρ K) (hs : Sim σ ρ) (hn : cs_n σ ≤ 16) (x : Int32) : px_W ps_Y ps_P B sc (d + 1) 59 [.ref (ad 100), .int x] C 0 0 (fun v C' => C' = C ∧ v = some (.int (cs_bin σ x))) px_no := by
  obtain ⟨p, fs, fa, fw⟩ := ρ
  obtain rfl : p = σ.1 := hs.1.1
  have hA2 : C (ad 102) = some (px_i 16 (fa 2)) := hR.1 102 _ (hr.2.1 2 (by decide) (by decide) (by decide))
  have hA3 : C (ad 103) = some (px_i 16 (fa 3)) := hR.1 103 _ (hr.2.1 3 (by decide) (by decide) (by decide))
  unfold cs_bin
  generalize hp : (fun j => decide (cs_bf σ j 1 = x ∧ ¬ cs_bf σ j 2 = 3)) = p
  refine ⟨pm_Ref_there, rfl, Nat.le_of_ble_eq_true rfl, fun X hw hX => ?_⟩
  have loop : ∀ kk i, i + kk = cs_n σ → X (4, [(0, .ref (ad 100)), (1, .int (x)), (2, .int (nI (pn_ct p i))), (3, .int (nI i))], [], C, 0, 0) := by
    intro kk
    induction kk with
    | zero =>
      intro i hi
      have hlt : i = cs_n σ := hi
      iterate 3 refine px_go hX ?_
      refine ⟨_, _, (hR.1 100 _ hr.1), rfl, ?_⟩
      refine px_go hX ?_
      refine ⟨fun (c1 : nI (cs_n σ) ≤ nI i) => ?_, fun (c1 : ¬ nI (cs_n σ) ≤ nI i) => absurd (nI_le (by omega) (by omega)) c1⟩
      iterate 2 refine px_go hX ?_
      rw [hlt]
      exact ⟨rfl, rfl⟩
    | succ kk ih =>
      intro i hi
      have hlt : i < cs_n σ := by omega
      iterate 3 refine px_go hX ?_
      refine ⟨_, _, (hR.1 100 _ hr.1), rfl, ?_⟩
      refine px_go hX ?_
      refine ⟨fun (c2 : nI (cs_n σ) ≤ nI i) => absurd c2 (nI_ge hlt (by omega)), fun (c2 : ¬ nI (cs_n σ) ≤ nI i) => ?_⟩
      iterate 3 refine px_go hX ?_
      refine ⟨_, _, (hR.1 100 _ hr.1), rfl, ?_⟩
      iterate 2 refine px_go hX ?_
      refine ⟨_, _, hA2, (vp_in_nI (by omega) (by omega)), ?_⟩
      rw [nI_clamp (by omega), show fa 2 i = cs_bf σ i 1 from (hs.2.1 i hlt).2.1]
      iterate 2 refine px_go hX ?_
      refine ⟨fun (c3 : ¬ cs_bf σ i 1 = x) => ?_, fun (c3 : cs_bf σ i 1 = x) => ?_⟩
      · iterate 5 refine px_go hX ?_
        exact px_lw hw [(0, .ref (ad 100)), (1, .int (x)), (2, .int (nI (pn_ct p (i + 1)))), (3, .int (nI (i + 1)))] (ih (i + 1) (by omega)) ⟨rfl, rfl, (congrArg (fun z => some (Value.int z)) (by rw [pn_ct_f (by rw [← hp]; exact decide_eq_false (by simp [c2, c3]))]; exact Int32.add_zero _)), (congrArg (fun z => some (Value.int z)) (nI_succ _).symm), trivial⟩
      · iterate 2 refine px_go hX ?_
        refine ⟨_, _, (hR.1 100 _ hr.1), rfl, ?_⟩
        iterate 2 refine px_go hX ?_
        refine ⟨_, _, hA3, (vp_in_nI (by omega) (by omega)), ?_⟩
        rw [nI_clamp (by omega), show fa 3 i = cs_bf σ i 2 from (hs.2.1 i hlt).2.2.1]
        iterate 2 refine px_go hX ?_
        refine ⟨fun (c4 : cs_bf σ i 2 = (3 : Int32)) => ?_, fun (c4 : ¬ cs_bf σ i 2 = (3 : Int32)) => ?_⟩
        · iterate 5 refine px_go hX ?_
          exact px_lw hw [(0, .ref (ad 100)), (1, .int (x)), (2, .int (nI (pn_ct p (i + 1)))), (3, .int (nI (i + 1)))] (ih (i + 1) (by omega)) ⟨rfl, rfl, (congrArg (fun z => some (Value.int z)) (by rw [pn_ct_f (by rw [← hp]; exact decide_eq_false (by simp [c2, c3, c4]))]; exact Int32.add_zero _)), (congrArg (fun z => some (Value.int z)) (nI_succ _).symm), trivial⟩
        · iterate 6 refine px_go hX ?_
          exact px_lw hw [(0, .ref (ad 100)), (1, .int (x)), (2, .int (nI (pn_ct p (i + 1)))), (3, .int (nI (i + 1)))] (ih (i + 1) (by omega)) ⟨rfl, rfl, (congrArg (fun z => some (Value.int z)) (by rw [pn_ct_t (by rw [← hp]; exact decide_eq_true (by simp [c2, c3, c4]))]; exact (nI_succ _).symm)), (congrArg (fun z => some (Value.int z)) (nI_succ _).symm), trivial⟩
  iterate 4 refine px_go hX ?_
  exact px_lw hw [(0, .ref (ad 100)), (1, .int (x)), (2, .int (nI (pn_ct p 0))), (3, .int (nI 0))] (loop (cs_n σ - 0) 0 (by omega)) ⟨rfl, rfl, rfl, rfl, trivial⟩
theorem rr_height (hR : Rp ad K C) (hr : Rl ad ρ K) (hs : Sim σ ρ) (hn : cs_n σ ≤ 16) (x y : Int32) : px_W ps_Y ps_P B sc (d + 1) 60 [.ref (ad 100), .int x, .int y] C 0 0 (fun v C' => C' = C ∧ v = some (.int (cs_hgt σ x y))) px_no := by
  obtain ⟨p, fs, fa, fw⟩ := ρ
  obtain rfl : p = σ.1 := hs.1.1
  have hA2 : C (ad 102) = some (px_i 16 (fa 2)) := hR.1 102 _ (hr.2.1 2 (by decide) (by decide) (by decide))
  have hA3 : C (ad 103) = some (px_i 16 (fa 3)) := hR.1 103 _ (hr.2.1 3 (by decide) (by decide) (by decide))
  unfold cs_hgt
  generalize hp : (fun j => decide (cs_bf σ j 1 = x) && decide (cs_bf σ j 2 = y)) = p
  refine ⟨pm_Ref_height, rfl, Nat.le_of_ble_eq_true rfl, fun X hw hX => ?_⟩
  have loop : ∀ kk i, i + kk = cs_n σ → X (5, [(0, .ref (ad 100)), (1, .int (x)), (2, .int (y)), (3, .int (nI (pn_ct p i))), (4, .int (nI i))], [], C, 0, 0) := by
    intro kk
    induction kk with
    | zero =>
      intro i hi
      have hlt : i = cs_n σ := hi
      iterate 3 refine px_go hX ?_
      refine ⟨_, _, (hR.1 100 _ hr.1), rfl, ?_⟩
      refine px_go hX ?_
      refine ⟨fun (c1 : nI (cs_n σ) ≤ nI i) => ?_, fun (c1 : ¬ nI (cs_n σ) ≤ nI i) => absurd (nI_le (by omega) (by omega)) c1⟩
      iterate 2 refine px_go hX ?_
      rw [hlt]
      exact ⟨rfl, rfl⟩
    | succ kk ih =>
      intro i hi
      have hlt : i < cs_n σ := by omega
      iterate 3 refine px_go hX ?_
      refine ⟨_, _, (hR.1 100 _ hr.1), rfl, ?_⟩
      refine px_go hX ?_
      refine ⟨fun (c2 : nI (cs_n σ) ≤ nI i) => absurd c2 (nI_ge hlt (by omega)), fun (c2 : ¬ nI (cs_n σ) ≤ nI i) => ?_⟩
      iterate 3 refine px_go hX ?_
      refine ⟨_, _, (hR.1 100 _ hr.1), rfl, ?_⟩
      iterate 2 refine px_go hX ?_
      refine ⟨_, _, hA2, (vp_in_nI (by omega) (by omega)), ?_⟩
      rw [nI_clamp (by omega), show fa 2 i = cs_bf σ i 1 from (hs.2.1 i hlt).2.1]
      iterate 2 refine px_go hX ?_
      refine ⟨fun (c3 : ¬ cs_bf σ i 1 = x) => ?_, fun (c3 : cs_bf σ i 1 = x) => ?_⟩
      · iterate 5 refine px_go hX ?_
        exact px_lw hw [(0, .ref (ad 100)), (1, .int (x)), (2, .int (y)), (3, .int (nI (pn_ct p (i + 1)))), (4, .int (nI (i + 1)))] (ih (i + 1) (by omega)) ⟨rfl, rfl, rfl, (congrArg (fun z => some (Value.int z)) (by rw [pn_ct_f (by rw [← hp]; exact by simp [c2, c3])]; exact Int32.add_zero _)), (congrArg (fun z => some (Value.int z)) (nI_succ _).symm), trivial⟩
      · iterate 2 refine px_go hX ?_
        refine ⟨_, _, (hR.1 100 _ hr.1), rfl, ?_⟩
        iterate 2 refine px_go hX ?_
        refine ⟨_, _, hA3, (vp_in_nI (by omega) (by omega)), ?_⟩
        rw [nI_clamp (by omega), show fa 3 i = cs_bf σ i 2 from (hs.2.1 i hlt).2.2.1]
        iterate 2 refine px_go hX ?_
        refine ⟨fun (c4 : ¬ cs_bf σ i 2 = y) => ?_, fun (c4 : cs_bf σ i 2 = y) => ?_⟩
        · iterate 5 refine px_go hX ?_
          exact px_lw hw [(0, .ref (ad 100)), (1, .int (x)), (2, .int (y)), (3, .int (nI (pn_ct p (i + 1)))), (4, .int (nI (i + 1)))] (ih (i + 1) (by omega)) ⟨rfl, rfl, rfl, (congrArg (fun z => some (Value.int z)) (by rw [pn_ct_f (by rw [← hp]; exact by simp [c2, c3, c4])]; exact Int32.add_zero _)), (congrArg (fun z => some (Value.int z)) (nI_succ _).symm), trivial⟩
        · iterate 6 refine px_go hX ?_
          exact px_lw hw [(0, .ref (ad 100)), (1, .int (x)), (2, .int (y)), (3, .int (nI (pn_ct p (i + 1)))), (4, .int (nI (i + 1)))] (ih (i + 1) (by omega)) ⟨rfl, rfl, rfl, (congrArg (fun z => some (Value.int z)) (by rw [pn_ct_t (by rw [← hp]; exact by simp [c2, c3, c4])]; exact (nI_succ _).symm)), (congrArg (fun z => some (Value.int z)) (nI_succ _).symm), trivial⟩
  iterate 4 refine px_go hX ?_
  exact px_lw hw [(0, .ref (ad 100)), (1, .int (x)), (2, .int (y)), (3, .int (nI (pn_ct p 0))), (4, .int (nI 0))] (loop (cs_n σ - 0) 0 (by omega)) ⟨rfl, rfl, rfl, rfl, rfl, trivial⟩
theorem rr_voids (hR : Rp ad K C) (hr : Rl ad ρ K) (hs : Sim σ ρ) {b : Nat} (hb : b < 4) : px_W ps_Y ps_P B sc (d + 1) 61 [.ref (ad 100), .int (nI b)] C 0 0 (fun v C' => v = none ∧ Cr ad (rs_sA ρ 7 (upd (rs_a ρ 7) b 0)) K C') px_no := by
  obtain ⟨p, fs, fa, fw⟩ := ρ
  obtain rfl : p = σ.1 := hs.1.1
  have hA7 : C (ad 107) = some (px_z 4 (fa 7)) := hR.1 107 _ (hr.2.1 7 (by decide) (by decide) (by decide))
  refine ⟨pm_Ref_voids, rfl, Nat.le_of_ble_eq_true rfl, fun X hw hX => ?_⟩
  iterate 2 refine px_go hX ?_
  refine ⟨_, _, (hR.1 100 _ hr.1), rfl, ?_⟩
  iterate 3 refine px_go hX ?_
  refine ⟨_, _, hA7, (vp_in_nI hb (by omega)), ?_⟩
  rw [nI_clamp (by omega), show vp_nar .boolean (px_ic 0) = 0 from by decide +kernel]
  refine px_go hX ?_
  have hR1 := (hR.put (i := 107) (hr.2.1 7 (by decide) (by decide) (by decide)) (px_z 4 (upd (fa 7) (b) (0))))
  have hr1 : Rl ad (rs_sA (σ.1, fs, fa, fw) 7 (upd (fa 7) b 0)) (rp_up (K) (107) (px_z 4 (upd (fa 7) (b) (0)))) := hr.sA (q := 7) (by decide) (by decide) (by decide) _
  have hK1 : ∀ zz, zz < 100 ∨ 118 ≤ zz → (rp_up (K) (107) (px_z 4 (upd (fa 7) (b) (0)))) zz = (K) zz := fun zz hzz => by rw [rp_up_n _ _ (by omega)]
  exact ⟨rfl, _, hR1, hr1, hK1⟩
end SA
end
section
/-! The reference's calls that answer. -/
section SB
variable {B : Nat} {sc : Option (Nat × Nat × (Nat → Int32))} {d : Nat} {ad : Nat → Nat} {σ : ck_S} {ρ : rs_S} {K : rp_K} {C : px_P}
theorem px_ix2 {x : Int32} {n : Nat} (h : ¬ x < 0 ∧ ¬ nI n ≤ x) (hn : n < 2 ^ 31) : ∃ j, j < n ∧ x = nI j := by
  rcases px_ixx x n hn with q | q | q
  · exact q
  · exact absurd q h.1
  · exact absurd q h.2
theorem px_nix {x : Int32} {n : Nat} (h : ¬ (¬ x < 0 ∧ ¬ nI n ≤ x)) : x < 0 ∨ nI n ≤ x := by
  rcases Classical.em (x < 0) with q | q
  · exact Or.inl q
  · exact Or.inr (Classical.not_not.mp (fun w => h ⟨q, w⟩))
theorem cs_bq_s2 (hnb : cs_nb σ ≤ 4) {b : Nat} (hb : b < cs_nb σ) : cs_bq σ (nI b) = some b := by
  unfold cs_bq
  rw [if_neg, nI_clamp (by omega)]
  rintro (h | h)
  · exact nI_pos (by omega) h
  · exact nI_ge hb (by omega) h
theorem cs_xq_s2 (hn : cs_n σ ≤ 16) {b : Nat} (hb : b < cs_n σ) : cs_xq σ (nI b) = some b := by
  unfold cs_xq
  rw [if_neg, nI_clamp (by omega)]
  rintro (h | h)
  · exact nI_pos (by omega) h
  · exact nI_ge hb (by omega) h
theorem px_nin {x y z : Int32} (h : ¬ (¬ x < y ∧ ¬ z < x)) : x < y ∨ ¬ x ≤ z := by
  rcases Classical.em (x < y) with q | q
  · exact Or.inl q
  · exact Or.inr (fun w => h ⟨q, Int32.not_lt.mpr w⟩)
theorem px_yin {x y z : Int32} (h : ¬ x < y ∧ ¬ z < x) : ¬ (x < y ∨ ¬ x ≤ z) := fun q => q.elim h.1 (fun w => w (Int32.not_lt.mp h.2))
theorem rr_look (hR : Rp ad K C) (hr : Rl ad ρ K) (hs : Sim σ ρ) (hn : cs_n σ ≤ 16) (x y : Int32) : px_W ps_Y ps_P B sc (d + 2) 94 [.ref (ad 100), .int x, .int y] C 0 0 (px_oR ad K (of_look σ x y)) px_no := by
  obtain ⟨p, fs, fa, fw⟩ := ρ
  obtain rfl : p = σ.1 := hs.1.1
  have hA1 : C (ad 101) = some (px_i 16 (fa 1)) := hR.1 101 _ (hr.2.1 1 (by decide) (by decide) (by decide))
  have hA2 : C (ad 102) = some (px_i 16 (fa 2)) := hR.1 102 _ (hr.2.1 2 (by decide) (by decide) (by decide))
  have hA3 : C (ad 103) = some (px_i 16 (fa 3)) := hR.1 103 _ (hr.2.1 3 (by decide) (by decide) (by decide))
  have hA4 : C (ad 104) = some (px_i 16 (fa 4)) := hR.1 104 _ (hr.2.1 4 (by decide) (by decide) (by decide))
  refine ⟨pm_Ref_look, rfl, Nat.le_of_ble_eq_true rfl, fun X hw hX => ?_⟩
  iterate 3 refine px_go hX ?_
  refine ⟨_, (hR.1 100 _ hr.1), 0, 0, _, Nat.le_of_ble_eq_true rfl, Nat.le_of_ble_eq_true rfl, Nat.le_of_ble_eq_true rfl, rr_isBox hR hr hs _, ?_⟩
  rintro _ C ⟨rfl, ⟨b1, rfl⟩ | ⟨b1, rfl⟩⟩
  · obtain ⟨j, hj, rfl⟩ := px_ix2 b1 (by omega)
    refine px_go hX ?_
    refine ⟨fun (c2 : 1 = 0) => absurd c2 (by decide), fun (c2 : ¬ 1 = 0) => ?_⟩
    iterate 4 refine px_go hX ?_
    refine ⟨Nat.le_of_ble_eq_true rfl, 0, 0, _, Nat.le_of_ble_eq_true rfl, Nat.le_of_ble_eq_true rfl, Nat.le_of_ble_eq_true rfl, rr_in _ _ _, ?_⟩
    rintro _ C ⟨rfl, ⟨b3, rfl⟩ | ⟨b3, rfl⟩⟩
    · refine px_go hX ?_
      refine ⟨fun (c4 : ¬ 1 = 0) => ?_, fun (c4 : 1 = 0) => absurd c4 (by decide)⟩
      iterate 3 refine px_go hX ?_
      refine ⟨_, (hR.1 100 _ hr.1), Nat.le_of_ble_eq_true rfl, rfl, rfl, ?_⟩
      iterate 2 refine px_go hX ?_
      refine ⟨fun (c5 : ¬ y = 0) => ?_, fun (c5 : y = 0) => ?_⟩
      · iterate 3 refine px_go hX ?_
        refine ⟨fun (c6 : ¬ y = (1 : Int32)) => ?_, fun (c6 : y = (1 : Int32)) => ?_⟩
        · iterate 3 refine px_go hX ?_
          refine ⟨fun (c7 : ¬ y = (2 : Int32)) => ?_, fun (c7 : y = (2 : Int32)) => ?_⟩
          · iterate 2 refine px_go hX ?_
            refine ⟨_, _, (px_up_s _ _ _), rfl, ?_⟩
            iterate 2 refine px_go hX ?_
            refine ⟨_, _, ((px_up_n _ _ (hR.ne (hr.2.1 4 (by decide) (by decide) (by decide)) hr.1 (by decide))).trans hA4), (vp_in_nI (by omega) (by omega)), ?_⟩
            rw [nI_clamp (by omega), show fa 4 j = cs_bf σ j 3 from (hs.2.1 j hj).2.2.2]
            refine px_go hX ?_
            have hR1 := (hR.put (i := 100) hr.1 (px_o 4 [.int ((0 : Int32)), .int (nI (cs_nb σ)), .int (nI (cs_ti σ)), .int (nI (cs_n σ)), .ref (ad 101), .ref (ad 102), .ref (ad 103), .ref (ad 104), .ref (ad 105), .ref (ad 106), .int (fs 1), .int (fs 2), .ref (ad 107), .ref (ad 108), .ref (ad 109), .ref (ad 110), .ref (ad 111), .ref (ad 112), .ref (ad 113), .ref (ad 114), .ref (ad 115), .int (fs 3), .ref (ad 116), .ref (ad 117), .int (fs 4)]))
            have hr1 : Rl ad (rs_th (σ.1, fs, fa, fw) 0) (rp_up (K) (100) (px_o 4 [.int ((0 : Int32)), .int (nI (cs_nb σ)), .int (nI (cs_ti σ)), .int (nI (cs_n σ)), .ref (ad 101), .ref (ad 102), .ref (ad 103), .ref (ad 104), .ref (ad 105), .ref (ad 106), .int (fs 1), .int (fs 2), .ref (ad 107), .ref (ad 108), .ref (ad 109), .ref (ad 110), .ref (ad 111), .ref (ad 112), .ref (ad 113), .ref (ad 114), .ref (ad 115), .int (fs 3), .ref (ad 116), .ref (ad 117), .int (fs 4)])) := hr.sO _ _
            have hK1 : ∀ zz, zz < 100 ∨ 118 ≤ zz → (rp_up (K) (100) (px_o 4 [.int ((0 : Int32)), .int (nI (cs_nb σ)), .int (nI (cs_ti σ)), .int (nI (cs_n σ)), .ref (ad 101), .ref (ad 102), .ref (ad 103), .ref (ad 104), .ref (ad 105), .ref (ad 106), .int (fs 1), .int (fs 2), .ref (ad 107), .ref (ad 108), .ref (ad 109), .ref (ad 110), .ref (ad 111), .ref (ad 112), .ref (ad 113), .ref (ad 114), .ref (ad 115), .int (fs 3), .ref (ad 116), .ref (ad 117), .int (fs 4)])) zz = (K) zz := fun zz hzz => by rw [rp_up_n _ _ (by omega)]
            have hq : of_look σ (nI j) y = (0, cs_bf σ j 3, σ) := by
              unfold of_look
              rw [cs_xq_s2 hn hj]
              exact (if_neg (px_yin b3)).trans (congrArg (fun z => ((0, z, σ) : cs_R)) (((if_neg c5).trans (if_neg c6)).trans (if_neg c7)))
            rw [hq]
            exact ⟨_, _, ⟨_, hR1, hr1, hK1⟩, hs, rfl, rfl, fun _ => rfl⟩
          · iterate 2 refine px_go hX ?_
            refine ⟨_, _, (px_up_s _ _ _), rfl, ?_⟩
            iterate 2 refine px_go hX ?_
            refine ⟨_, _, ((px_up_n _ _ (hR.ne (hr.2.1 3 (by decide) (by decide) (by decide)) hr.1 (by decide))).trans hA3), (vp_in_nI (by omega) (by omega)), ?_⟩
            rw [nI_clamp (by omega), show fa 3 j = cs_bf σ j 2 from (hs.2.1 j hj).2.2.1]
            iterate 2 refine px_go hX ?_
            have hR1 := (hR.put (i := 100) hr.1 (px_o 4 [.int ((0 : Int32)), .int (nI (cs_nb σ)), .int (nI (cs_ti σ)), .int (nI (cs_n σ)), .ref (ad 101), .ref (ad 102), .ref (ad 103), .ref (ad 104), .ref (ad 105), .ref (ad 106), .int (fs 1), .int (fs 2), .ref (ad 107), .ref (ad 108), .ref (ad 109), .ref (ad 110), .ref (ad 111), .ref (ad 112), .ref (ad 113), .ref (ad 114), .ref (ad 115), .int (fs 3), .ref (ad 116), .ref (ad 117), .int (fs 4)]))
            have hr1 : Rl ad (rs_th (σ.1, fs, fa, fw) 0) (rp_up (K) (100) (px_o 4 [.int ((0 : Int32)), .int (nI (cs_nb σ)), .int (nI (cs_ti σ)), .int (nI (cs_n σ)), .ref (ad 101), .ref (ad 102), .ref (ad 103), .ref (ad 104), .ref (ad 105), .ref (ad 106), .int (fs 1), .int (fs 2), .ref (ad 107), .ref (ad 108), .ref (ad 109), .ref (ad 110), .ref (ad 111), .ref (ad 112), .ref (ad 113), .ref (ad 114), .ref (ad 115), .int (fs 3), .ref (ad 116), .ref (ad 117), .int (fs 4)])) := hr.sO _ _
            have hK1 : ∀ zz, zz < 100 ∨ 118 ≤ zz → (rp_up (K) (100) (px_o 4 [.int ((0 : Int32)), .int (nI (cs_nb σ)), .int (nI (cs_ti σ)), .int (nI (cs_n σ)), .ref (ad 101), .ref (ad 102), .ref (ad 103), .ref (ad 104), .ref (ad 105), .ref (ad 106), .int (fs 1), .int (fs 2), .ref (ad 107), .ref (ad 108), .ref (ad 109), .ref (ad 110), .ref (ad 111), .ref (ad 112), .ref (ad 113), .ref (ad 114), .ref (ad 115), .int (fs 3), .ref (ad 116), .ref (ad 117), .int (fs 4)])) zz = (K) zz := fun zz hzz => by rw [rp_up_n _ _ (by omega)]
            have hq : of_look σ (nI j) y = (0, cs_bf σ j 2, σ) := by
              unfold of_look
              rw [cs_xq_s2 hn hj]
              exact (if_neg (px_yin b3)).trans (congrArg (fun z => ((0, z, σ) : cs_R)) (((if_neg c5).trans (if_neg c6)).trans (if_pos c7)))
            rw [hq]
            exact ⟨_, _, ⟨_, hR1, hr1, hK1⟩, hs, rfl, rfl, fun _ => rfl⟩
        · iterate 2 refine px_go hX ?_
          refine ⟨_, _, (px_up_s _ _ _), rfl, ?_⟩
          iterate 2 refine px_go hX ?_
          refine ⟨_, _, ((px_up_n _ _ (hR.ne (hr.2.1 2 (by decide) (by decide) (by decide)) hr.1 (by decide))).trans hA2), (vp_in_nI (by omega) (by omega)), ?_⟩
          rw [nI_clamp (by omega), show fa 2 j = cs_bf σ j 1 from (hs.2.1 j hj).2.1]
          iterate 2 refine px_go hX ?_
          have hR1 := (hR.put (i := 100) hr.1 (px_o 4 [.int ((0 : Int32)), .int (nI (cs_nb σ)), .int (nI (cs_ti σ)), .int (nI (cs_n σ)), .ref (ad 101), .ref (ad 102), .ref (ad 103), .ref (ad 104), .ref (ad 105), .ref (ad 106), .int (fs 1), .int (fs 2), .ref (ad 107), .ref (ad 108), .ref (ad 109), .ref (ad 110), .ref (ad 111), .ref (ad 112), .ref (ad 113), .ref (ad 114), .ref (ad 115), .int (fs 3), .ref (ad 116), .ref (ad 117), .int (fs 4)]))
          have hr1 : Rl ad (rs_th (σ.1, fs, fa, fw) 0) (rp_up (K) (100) (px_o 4 [.int ((0 : Int32)), .int (nI (cs_nb σ)), .int (nI (cs_ti σ)), .int (nI (cs_n σ)), .ref (ad 101), .ref (ad 102), .ref (ad 103), .ref (ad 104), .ref (ad 105), .ref (ad 106), .int (fs 1), .int (fs 2), .ref (ad 107), .ref (ad 108), .ref (ad 109), .ref (ad 110), .ref (ad 111), .ref (ad 112), .ref (ad 113), .ref (ad 114), .ref (ad 115), .int (fs 3), .ref (ad 116), .ref (ad 117), .int (fs 4)])) := hr.sO _ _
          have hK1 : ∀ zz, zz < 100 ∨ 118 ≤ zz → (rp_up (K) (100) (px_o 4 [.int ((0 : Int32)), .int (nI (cs_nb σ)), .int (nI (cs_ti σ)), .int (nI (cs_n σ)), .ref (ad 101), .ref (ad 102), .ref (ad 103), .ref (ad 104), .ref (ad 105), .ref (ad 106), .int (fs 1), .int (fs 2), .ref (ad 107), .ref (ad 108), .ref (ad 109), .ref (ad 110), .ref (ad 111), .ref (ad 112), .ref (ad 113), .ref (ad 114), .ref (ad 115), .int (fs 3), .ref (ad 116), .ref (ad 117), .int (fs 4)])) zz = (K) zz := fun zz hzz => by rw [rp_up_n _ _ (by omega)]
          have hq : of_look σ (nI j) y = (0, cs_bf σ j 1, σ) := by
            unfold of_look
            rw [cs_xq_s2 hn hj]
            exact (if_neg (px_yin b3)).trans (congrArg (fun z => ((0, z, σ) : cs_R)) ((if_neg c5).trans (if_pos c6)))
          rw [hq]
          exact ⟨_, _, ⟨_, hR1, hr1, hK1⟩, hs, rfl, rfl, fun _ => rfl⟩
      · iterate 2 refine px_go hX ?_
        refine ⟨_, _, (px_up_s _ _ _), rfl, ?_⟩
        iterate 2 refine px_go hX ?_
        refine ⟨_, _, ((px_up_n _ _ (hR.ne (hr.2.1 1 (by decide) (by decide) (by decide)) hr.1 (by decide))).trans hA1), (vp_in_nI (by omega) (by omega)), ?_⟩
        rw [nI_clamp (by omega), show fa 1 j = cs_bf σ j 0 from (hs.2.1 j hj).1]
        iterate 2 refine px_go hX ?_
        have hR1 := (hR.put (i := 100) hr.1 (px_o 4 [.int ((0 : Int32)), .int (nI (cs_nb σ)), .int (nI (cs_ti σ)), .int (nI (cs_n σ)), .ref (ad 101), .ref (ad 102), .ref (ad 103), .ref (ad 104), .ref (ad 105), .ref (ad 106), .int (fs 1), .int (fs 2), .ref (ad 107), .ref (ad 108), .ref (ad 109), .ref (ad 110), .ref (ad 111), .ref (ad 112), .ref (ad 113), .ref (ad 114), .ref (ad 115), .int (fs 3), .ref (ad 116), .ref (ad 117), .int (fs 4)]))
        have hr1 : Rl ad (rs_th (σ.1, fs, fa, fw) 0) (rp_up (K) (100) (px_o 4 [.int ((0 : Int32)), .int (nI (cs_nb σ)), .int (nI (cs_ti σ)), .int (nI (cs_n σ)), .ref (ad 101), .ref (ad 102), .ref (ad 103), .ref (ad 104), .ref (ad 105), .ref (ad 106), .int (fs 1), .int (fs 2), .ref (ad 107), .ref (ad 108), .ref (ad 109), .ref (ad 110), .ref (ad 111), .ref (ad 112), .ref (ad 113), .ref (ad 114), .ref (ad 115), .int (fs 3), .ref (ad 116), .ref (ad 117), .int (fs 4)])) := hr.sO _ _
        have hK1 : ∀ zz, zz < 100 ∨ 118 ≤ zz → (rp_up (K) (100) (px_o 4 [.int ((0 : Int32)), .int (nI (cs_nb σ)), .int (nI (cs_ti σ)), .int (nI (cs_n σ)), .ref (ad 101), .ref (ad 102), .ref (ad 103), .ref (ad 104), .ref (ad 105), .ref (ad 106), .int (fs 1), .int (fs 2), .ref (ad 107), .ref (ad 108), .ref (ad 109), .ref (ad 110), .ref (ad 111), .ref (ad 112), .ref (ad 113), .ref (ad 114), .ref (ad 115), .int (fs 3), .ref (ad 116), .ref (ad 117), .int (fs 4)])) zz = (K) zz := fun zz hzz => by rw [rp_up_n _ _ (by omega)]
        have hq : of_look σ (nI j) y = (0, cs_bf σ j 0, σ) := by
          unfold of_look
          rw [cs_xq_s2 hn hj]
          exact (if_neg (px_yin b3)).trans (congrArg (fun z => ((0, z, σ) : cs_R)) (if_pos c5))
        rw [hq]
        exact ⟨_, _, ⟨_, hR1, hr1, hK1⟩, hs, rfl, rfl, fun _ => rfl⟩
    · refine px_go hX ?_
      refine ⟨fun (c8 : ¬ 0 = 0) => absurd rfl c8, fun (c8 : 0 = 0) => ?_⟩
      iterate 3 refine px_go hX ?_
      refine ⟨_, (hR.1 100 _ hr.1), 0, 0, _, Nat.le_of_ble_eq_true rfl, Nat.le_of_ble_eq_true rfl, Nat.le_of_ble_eq_true rfl, rr_refuse hR hr hs _, ?_⟩
      rintro _ C ⟨rfl, hC1⟩
      refine px_go hX ?_
      have hq : of_look σ (nI j) y = (1, 0, σ) := by
        unfold of_look
        rw [cs_xq_s2 hn hj]
        exact if_pos (px_nin b3)
      rw [hq]
      exact ⟨_, _, hC1, hs, rfl, rfl, fun h => absurd (show (1 : Nat) = 0 from h) (by decide)⟩
  · refine px_go hX ?_
    refine ⟨fun (c9 : 0 = 0) => ?_, fun (c9 : ¬ 0 = 0) => absurd rfl c9⟩
    iterate 3 refine px_go hX ?_
    refine ⟨_, (hR.1 100 _ hr.1), 0, 0, _, Nat.le_of_ble_eq_true rfl, Nat.le_of_ble_eq_true rfl, Nat.le_of_ble_eq_true rfl, rr_refuse hR hr hs _, ?_⟩
    rintro _ C ⟨rfl, hC1⟩
    refine px_go hX ?_
    have hq : of_look σ x y = (1, 0, σ) := by
      unfold of_look
      rw [cs_xq_n (px_nix b1)]
    rw [hq]
    exact ⟨_, _, hC1, hs, rfl, rfl, fun h => absurd (show (1 : Nat) = 0 from h) (by decide)⟩
theorem Sim.ld {σ : ck_S} {p : Nat × Nat × Nat} {fs : Nat → Int32} {fa : Nat → Nat → Int32} {fw : Nat → Int64} (h : Sim σ (p, fs, fa, fw)) {b : Nat} (z : Int32) {t : Int32} : Sim (cs_sY σ b (fun k => match k with | 3 => z | k => cs_yf σ b k)) (rs_sA (rs_th (p, fs, fa, fw) t) 6 (upd (fa 6) b z)) := by
  obtain ⟨h1, h2, h3, h4⟩ := h
  have ne : ∀ q, q ≠ 6 → rs_a (rs_sA (rs_th (p, fs, fa, fw) t) 6 (upd (fa 6) b z)) q = fa q := fun q hq => va_up_ne _ _ hq
  have n6 : rs_a (rs_sA (rs_th (p, fs, fa, fw) t) 6 (upd (fa 6) b z)) 6 = upd (fa 6) b z := va_up_self fa 6 _
  refine ⟨h1, fun j hj => ?_, fun i j hi hj => ?_, fun c hc => ?_⟩
  · rw [ne 1 (by omega), ne 2 (by omega), ne 3 (by omega), ne 4 (by omega)]
    exact h2 j hj
  · rw [ne 5 (by omega)]
    exact h3 i j hi hj
  · rw [n6, ne 7 (by omega), ne 8 (by omega), ne 9 (by omega), ne 10 (by omega), ne 11 (by omega), ne 12 (by omega)]
    obtain ⟨q1, q2⟩ := h4 c hc
    by_cases hcb : c = b
    · subst hcb
      rw [show cs_yf (cs_sY σ c (fun k => match k with | 3 => z | k => cs_yf σ c k)) c = (fun k => match k with | 3 => z | k => cs_yf σ c k) from va_up_self _ _ _, pk_us]
      exact ⟨rfl, q2⟩
    · rw [show cs_yf (cs_sY σ b (fun k => match k with | 3 => z | k => cs_yf σ b k)) c = cs_yf σ c from va_up_ne _ _ hcb, pk_un hcb]
      exact ⟨q1, q2⟩
theorem rr_loads (hR : Rp ad K C) (hr : Rl ad ρ K) (hs : Sim σ ρ) (hnb : cs_nb σ ≤ 4) (x y : Int32) : px_W ps_Y ps_P B sc (d + 2) 88 [.ref (ad 100), .int x, .int y] C 0 0 (px_oR ad K (of_loads σ x y)) px_no := by
  obtain ⟨p, fs, fa, fw⟩ := ρ
  obtain rfl : p = σ.1 := hs.1.1
  have hA6 : C (ad 106) = some (px_i 4 (fa 6)) := hR.1 106 _ (hr.2.1 6 (by decide) (by decide) (by decide))
  refine ⟨pm_Ref_loads, rfl, Nat.le_of_ble_eq_true rfl, fun X hw hX => ?_⟩
  iterate 3 refine px_go hX ?_
  refine ⟨_, (hR.1 100 _ hr.1), 0, 0, _, Nat.le_of_ble_eq_true rfl, Nat.le_of_ble_eq_true rfl, Nat.le_of_ble_eq_true rfl, rr_isBay hR hr hs _, ?_⟩
  rintro _ C ⟨rfl, ⟨b1, rfl⟩ | ⟨b1, rfl⟩⟩
  · obtain ⟨b, hb, rfl⟩ := px_ix2 b1 (by omega)
    refine px_go hX ?_
    refine ⟨fun (c2 : 1 = 0) => absurd c2 (by decide), fun (c2 : ¬ 1 = 0) => ?_⟩
    iterate 4 refine px_go hX ?_
    refine ⟨Nat.le_of_ble_eq_true rfl, 0, 0, _, Nat.le_of_ble_eq_true rfl, Nat.le_of_ble_eq_true rfl, Nat.le_of_ble_eq_true rfl, rr_in _ _ _, ?_⟩
    rintro _ C ⟨rfl, ⟨b3, rfl⟩ | ⟨b3, rfl⟩⟩
    · refine px_go hX ?_
      refine ⟨fun (c4 : ¬ 1 = 0) => ?_, fun (c4 : 1 = 0) => absurd c4 (by decide)⟩
      iterate 2 refine px_go hX ?_
      refine ⟨_, _, (hR.1 100 _ hr.1), rfl, ?_⟩
      iterate 2 refine px_go hX ?_
      refine ⟨_, _, hA6, (vp_in_nI (by omega) (by omega)), ?_⟩
      rw [nI_clamp (by omega), show fa 6 b = cs_yf σ b 3 from (hs.2.2.2 b hb).1]
      iterate 4 refine px_go hX ?_
      refine ⟨fun (c5 : (cs_yf σ b 3) + (y) ≤ (100 : Int32)) => ?_, fun (c5 : ¬ (cs_yf σ b 3) + (y) ≤ (100 : Int32)) => ?_⟩
      · iterate 3 refine px_go hX ?_
        refine ⟨_, (hR.1 100 _ hr.1), Nat.le_of_ble_eq_true rfl, rfl, rfl, ?_⟩
        iterate 2 refine px_go hX ?_
        refine ⟨_, _, (px_up_s _ _ _), rfl, ?_⟩
        iterate 3 refine px_go hX ?_
        refine ⟨_, _, ((px_up_n _ _ (hR.ne (hr.2.1 6 (by decide) (by decide) (by decide)) hr.1 (by decide))).trans hA6), (vp_in_nI (by omega) (by omega)), ?_⟩
        rw [nI_clamp (by omega), show fa 6 b = cs_yf σ b 3 from (hs.2.2.2 b hb).1]
        iterate 3 refine px_go hX ?_
        refine ⟨_, _, ((px_up_n _ _ (hR.ne (hr.2.1 6 (by decide) (by decide) (by decide)) hr.1 (by decide))).trans hA6), (vp_in_nI (by omega) (by omega)), ?_⟩
        rw [nI_clamp (by omega)]
        iterate 2 refine px_go hX ?_
        refine ⟨_, _, ((px_up_n _ _ (hR.ne hr.1 (hr.2.1 6 (by decide) (by decide) (by decide)) (by decide))).trans (px_up_s _ _ _)), rfl, ?_⟩
        iterate 2 refine px_go hX ?_
        refine ⟨_, _, (px_up_s _ _ _), (vp_in_nI (by omega) (by omega)), ?_⟩
        rw [nI_clamp (by omega), pk_us]
        refine px_go hX ?_
        have hR1 := ((hR.put (i := 100) hr.1 (px_o 4 [.int ((0 : Int32)), .int (nI (cs_nb σ)), .int (nI (cs_ti σ)), .int (nI (cs_n σ)), .ref (ad 101), .ref (ad 102), .ref (ad 103), .ref (ad 104), .ref (ad 105), .ref (ad 106), .int (fs 1), .int (fs 2), .ref (ad 107), .ref (ad 108), .ref (ad 109), .ref (ad 110), .ref (ad 111), .ref (ad 112), .ref (ad 113), .ref (ad 114), .ref (ad 115), .int (fs 3), .ref (ad 116), .ref (ad 117), .int (fs 4)])).put (i := 106) ((rp_up_n _ _ (by decide)).trans (hr.2.1 6 (by decide) (by decide) (by decide))) (px_i 4 (upd (fa 6) (b) ((cs_yf σ b 3) + (y)))))
        have hr1 : Rl ad (rs_sA (rs_th (σ.1, fs, fa, fw) 0) 6 (upd (fa 6) b (cs_yf σ b 3 + y))) (rp_up (rp_up (K) (100) (px_o 4 [.int ((0 : Int32)), .int (nI (cs_nb σ)), .int (nI (cs_ti σ)), .int (nI (cs_n σ)), .ref (ad 101), .ref (ad 102), .ref (ad 103), .ref (ad 104), .ref (ad 105), .ref (ad 106), .int (fs 1), .int (fs 2), .ref (ad 107), .ref (ad 108), .ref (ad 109), .ref (ad 110), .ref (ad 111), .ref (ad 112), .ref (ad 113), .ref (ad 114), .ref (ad 115), .int (fs 3), .ref (ad 116), .ref (ad 117), .int (fs 4)])) (106) (px_i 4 (upd (fa 6) (b) ((cs_yf σ b 3) + (y))))) := (hr.sO _ _).sA (q := 6) (by decide) (by decide) (by decide) _
        have hK1 : ∀ zz, zz < 100 ∨ 118 ≤ zz → (rp_up (rp_up (K) (100) (px_o 4 [.int ((0 : Int32)), .int (nI (cs_nb σ)), .int (nI (cs_ti σ)), .int (nI (cs_n σ)), .ref (ad 101), .ref (ad 102), .ref (ad 103), .ref (ad 104), .ref (ad 105), .ref (ad 106), .int (fs 1), .int (fs 2), .ref (ad 107), .ref (ad 108), .ref (ad 109), .ref (ad 110), .ref (ad 111), .ref (ad 112), .ref (ad 113), .ref (ad 114), .ref (ad 115), .int (fs 3), .ref (ad 116), .ref (ad 117), .int (fs 4)])) (106) (px_i 4 (upd (fa 6) (b) ((cs_yf σ b 3) + (y))))) zz = (K) zz := fun zz hzz => by rw [rp_up_n _ _ (by omega), rp_up_n _ _ (by omega)]
        have hq : of_loads σ (nI b) y = (0, cs_yf σ b 3 + y, cs_sY σ b (fun k => match k with | 3 => cs_yf σ b 3 + y | k => cs_yf σ b k)) := by
          unfold of_loads
          rw [cs_bq_s2 hnb hb]
          exact (if_neg (px_yin b3)).trans (if_pos c5)
        rw [hq]
        exact ⟨_, _, ⟨_, hR1, hr1, hK1⟩, Sim.ld hs _, rfl, rfl, fun _ => rfl⟩
      · iterate 3 refine px_go hX ?_
        refine ⟨_, (hR.1 100 _ hr.1), 0, 0, _, Nat.le_of_ble_eq_true rfl, Nat.le_of_ble_eq_true rfl, Nat.le_of_ble_eq_true rfl, rr_refuse hR hr hs _, ?_⟩
        rintro _ C ⟨rfl, hC1⟩
        refine px_go hX ?_
        have hq : of_loads σ (nI b) y = (2, 0, σ) := by
          unfold of_loads
          rw [cs_bq_s2 hnb hb]
          exact (if_neg (px_yin b3)).trans (if_neg c5)
        rw [hq]
        exact ⟨_, _, hC1, hs, rfl, rfl, fun h => absurd (show (2 : Nat) = 0 from h) (by decide)⟩
    · refine px_go hX ?_
      refine ⟨fun (c6 : ¬ 0 = 0) => absurd rfl c6, fun (c6 : 0 = 0) => ?_⟩
      iterate 3 refine px_go hX ?_
      refine ⟨_, (hR.1 100 _ hr.1), 0, 0, _, Nat.le_of_ble_eq_true rfl, Nat.le_of_ble_eq_true rfl, Nat.le_of_ble_eq_true rfl, rr_refuse hR hr hs _, ?_⟩
      rintro _ C ⟨rfl, hC1⟩
      refine px_go hX ?_
      have hq : of_loads σ (nI b) y = (1, 0, σ) := by
        unfold of_loads
        rw [cs_bq_s2 hnb hb]
        exact if_pos (px_nin b3)
      rw [hq]
      exact ⟨_, _, hC1, hs, rfl, rfl, fun h => absurd (show (1 : Nat) = 0 from h) (by decide)⟩
  · refine px_go hX ?_
    refine ⟨fun (c7 : 0 = 0) => ?_, fun (c7 : ¬ 0 = 0) => absurd rfl c7⟩
    iterate 3 refine px_go hX ?_
    refine ⟨_, (hR.1 100 _ hr.1), 0, 0, _, Nat.le_of_ble_eq_true rfl, Nat.le_of_ble_eq_true rfl, Nat.le_of_ble_eq_true rfl, rr_refuse hR hr hs _, ?_⟩
    rintro _ C ⟨rfl, hC1⟩
    refine px_go hX ?_
    have hq : of_loads σ x y = (1, 0, σ) := by
      unfold of_loads
      rw [cs_bq_n (px_nix b1)]
    rw [hq]
    exact ⟨_, _, hC1, hs, rfl, rfl, fun h => absurd (show (1 : Nat) = 0 from h) (by decide)⟩
end SB
end
section
/-! The reference: least, dual, move, count. -/
section SC
variable {B : Nat} {sc : Option (Nat × Nat × (Nat → Int32))} {d : Nat} {ad : Nat → Nat} {σ : ck_S} {ρ : rs_S} {K : rp_K} {C : px_P}
theorem rr_isAbove (hR : Rp ad K C) (hr : Rl ad ρ K) (hs : Sim σ ρ) (hn : cs_n σ ≤ 16) {j : Nat} (hj : j < cs_n σ) : px_W ps_Y ps_P B sc (d + 1) 85 [.ref (ad 100), .int (nI j)] C 0 0 (px_bo (cs_abv σ j) C) px_no := by
  obtain ⟨p, fs, fa, fw⟩ := ρ
  obtain rfl : p = σ.1 := hs.1.1
  have hA1 : C (ad 101) = some (px_i 16 (fa 1)) := hR.1 101 _ (hr.2.1 1 (by decide) (by decide) (by decide))
  have hA2 : C (ad 102) = some (px_i 16 (fa 2)) := hR.1 102 _ (hr.2.1 2 (by decide) (by decide) (by decide))
  have hA3 : C (ad 103) = some (px_i 16 (fa 3)) := hR.1 103 _ (hr.2.1 3 (by decide) (by decide) (by decide))
  have hA4 : C (ad 104) = some (px_i 16 (fa 4)) := hR.1 104 _ (hr.2.1 4 (by decide) (by decide) (by decide))
  refine ⟨pm_Ref_isAbove, rfl, Nat.le_of_ble_eq_true rfl, fun X hw hX => ?_⟩
  have loop : ∀ kk i (fl : Int32), i + kk = cs_n σ → ((fl = 1 ∧ ∃ q, q < i ∧ (cs_bf σ q 0 = 0 ∧ (cs_bf σ q 1 = cs_bf σ j 1 ∧ cs_bf σ q 2 = cs_bf σ j 2 ∧ ¬ cs_bf σ j 3 ≤ cs_bf σ q 3))) ∨ (fl = 0 ∧ ∀ q, q < i → ¬ (cs_bf σ q 0 = 0 ∧ (cs_bf σ q 1 = cs_bf σ j 1 ∧ cs_bf σ q 2 = cs_bf σ j 2 ∧ ¬ cs_bf σ j 3 ≤ cs_bf σ q 3)))) → X (4, [(0, .ref (ad 100)), (1, .int (nI j)), (2, .int (fl)), (3, .int (nI i))], [], C, 0, 0) := by
    intro kk
    induction kk with
    | zero =>
      intro i fl hi hfl
      have hlt : i = cs_n σ := hi
      iterate 3 refine px_go hX ?_
      refine ⟨_, _, (hR.1 100 _ hr.1), rfl, ?_⟩
      refine px_go hX ?_
      refine ⟨fun (c1 : nI (cs_n σ) ≤ nI i) => ?_, fun (c1 : ¬ nI (cs_n σ) ≤ nI i) => absurd (nI_le (by omega) (by omega)) c1⟩
      iterate 2 refine px_go hX ?_
      refine ⟨fun (c2 : fl = 0) => ?_, fun (c2 : ¬ fl = 0) => ?_⟩
      · iterate 2 refine px_go hX ?_
        rw [hlt] at hfl
        exact ⟨Or.inl rfl, rfl, Or.inr ⟨fun ⟨_, q, hq, hq2⟩ => hfl.elim (fun ⟨h, _⟩ => absurd (h.symm.trans c2) (by decide)) (fun ⟨_, h⟩ => h q hq hq2), rfl⟩⟩
      · iterate 2 refine px_go hX ?_
        refine ⟨_, _, (hR.1 100 _ hr.1), rfl, ?_⟩
        iterate 2 refine px_go hX ?_
        refine ⟨_, _, hA3, (vp_in_nI (by omega) (by omega)), ?_⟩
        rw [nI_clamp (by omega), show fa 3 j = cs_bf σ j 2 from (hs.2.1 j hj).2.2.1]
        iterate 2 refine px_go hX ?_
        refine ⟨fun (c3 : (3 : Int32) ≤ cs_bf σ j 2) => ?_, fun (c3 : ¬ (3 : Int32) ≤ cs_bf σ j 2) => ?_⟩
        · iterate 2 refine px_go hX ?_
          exact ⟨Or.inl rfl, rfl, Or.inr ⟨fun q => q.1 c3, rfl⟩⟩
        · iterate 3 refine px_go hX ?_
          rw [hlt] at hfl
          exact ⟨Or.inr rfl, rfl, Or.inl ⟨⟨c3, hfl.elim (fun ⟨_, h⟩ => h) (fun ⟨h, _⟩ => absurd h c2)⟩, rfl⟩⟩
    | succ kk ih =>
      intro i fl hi hfl
      have hlt : i < cs_n σ := by omega
      iterate 3 refine px_go hX ?_
      refine ⟨_, _, (hR.1 100 _ hr.1), rfl, ?_⟩
      refine px_go hX ?_
      refine ⟨fun (c4 : nI (cs_n σ) ≤ nI i) => absurd c4 (nI_ge hlt (by omega)), fun (c4 : ¬ nI (cs_n σ) ≤ nI i) => ?_⟩
      iterate 2 refine px_go hX ?_
      refine ⟨fun (c5 : ¬ fl = 0) => ?_, fun (c5 : fl = 0) => ?_⟩
      · iterate 5 refine px_go hX ?_
        exact px_lw hw [(0, .ref (ad 100)), (1, .int (nI j)), (2, .int ((1 : Int32))), (3, .int (nI (i + 1)))] (ih (i + 1) _ (by omega) (Or.inl ⟨rfl, hfl.elim (fun ⟨_, q, hq, hq2⟩ => ⟨q, by omega, hq2⟩) (fun ⟨h, _⟩ => absurd h c5)⟩)) ⟨rfl, rfl, rfl, (congrArg (fun z => some (Value.int z)) (nI_succ _).symm), trivial⟩
      · iterate 2 refine px_go hX ?_
        refine ⟨_, _, (hR.1 100 _ hr.1), rfl, ?_⟩
        iterate 2 refine px_go hX ?_
        refine ⟨_, _, hA2, (vp_in_nI (by omega) (by omega)), ?_⟩
        rw [nI_clamp (by omega), show fa 2 i = cs_bf σ i 1 from (hs.2.1 i hlt).2.1]
        iterate 2 refine px_go hX ?_
        refine ⟨_, _, (hR.1 100 _ hr.1), rfl, ?_⟩
        iterate 2 refine px_go hX ?_
        refine ⟨_, _, hA2, (vp_in_nI (by omega) (by omega)), ?_⟩
        rw [nI_clamp (by omega), show fa 2 j = cs_bf σ j 1 from (hs.2.1 j hj).2.1]
        refine px_go hX ?_
        refine ⟨fun (c6 : ¬ cs_bf σ i 1 = cs_bf σ j 1) => ?_, fun (c6 : cs_bf σ i 1 = cs_bf σ j 1) => ?_⟩
        · iterate 4 refine px_go hX ?_
          exact px_lw hw [(0, .ref (ad 100)), (1, .int (nI j)), (2, .int ((0 : Int32))), (3, .int (nI (i + 1)))] (ih (i + 1) _ (by omega) (Or.inr ⟨rfl, pn_alls (hfl.elim (fun ⟨h, _⟩ => absurd (h.symm.trans c5) (by decide)) (fun ⟨_, h⟩ => h)) (fun z => c6 z.2.1)⟩)) ⟨rfl, rfl, rfl, (congrArg (fun z => some (Value.int z)) (nI_succ _).symm), trivial⟩
        · iterate 2 refine px_go hX ?_
          refine ⟨_, _, (hR.1 100 _ hr.1), rfl, ?_⟩
          iterate 2 refine px_go hX ?_
          refine ⟨_, _, hA3, (vp_in_nI (by omega) (by omega)), ?_⟩
          rw [nI_clamp (by omega), show fa 3 i = cs_bf σ i 2 from (hs.2.1 i hlt).2.2.1]
          iterate 2 refine px_go hX ?_
          refine ⟨_, _, (hR.1 100 _ hr.1), rfl, ?_⟩
          iterate 2 refine px_go hX ?_
          refine ⟨_, _, hA3, (vp_in_nI (by omega) (by omega)), ?_⟩
          rw [nI_clamp (by omega), show fa 3 j = cs_bf σ j 2 from (hs.2.1 j hj).2.2.1]
          refine px_go hX ?_
          refine ⟨fun (c7 : ¬ cs_bf σ i 2 = cs_bf σ j 2) => ?_, fun (c7 : cs_bf σ i 2 = cs_bf σ j 2) => ?_⟩
          · iterate 4 refine px_go hX ?_
            exact px_lw hw [(0, .ref (ad 100)), (1, .int (nI j)), (2, .int ((0 : Int32))), (3, .int (nI (i + 1)))] (ih (i + 1) _ (by omega) (Or.inr ⟨rfl, pn_alls (hfl.elim (fun ⟨h, _⟩ => absurd (h.symm.trans c5) (by decide)) (fun ⟨_, h⟩ => h)) (fun z => c7 z.2.2.1)⟩)) ⟨rfl, rfl, rfl, (congrArg (fun z => some (Value.int z)) (nI_succ _).symm), trivial⟩
          · iterate 2 refine px_go hX ?_
            refine ⟨_, _, (hR.1 100 _ hr.1), rfl, ?_⟩
            iterate 2 refine px_go hX ?_
            refine ⟨_, _, hA4, (vp_in_nI (by omega) (by omega)), ?_⟩
            rw [nI_clamp (by omega), show fa 4 i = cs_bf σ i 3 from (hs.2.1 i hlt).2.2.2]
            iterate 2 refine px_go hX ?_
            refine ⟨_, _, (hR.1 100 _ hr.1), rfl, ?_⟩
            iterate 2 refine px_go hX ?_
            refine ⟨_, _, hA4, (vp_in_nI (by omega) (by omega)), ?_⟩
            rw [nI_clamp (by omega), show fa 4 j = cs_bf σ j 3 from (hs.2.1 j hj).2.2.2]
            refine px_go hX ?_
            refine ⟨fun (c8 : cs_bf σ j 3 ≤ cs_bf σ i 3) => ?_, fun (c8 : ¬ cs_bf σ j 3 ≤ cs_bf σ i 3) => ?_⟩
            · iterate 4 refine px_go hX ?_
              exact px_lw hw [(0, .ref (ad 100)), (1, .int (nI j)), (2, .int ((0 : Int32))), (3, .int (nI (i + 1)))] (ih (i + 1) _ (by omega) (Or.inr ⟨rfl, pn_alls (hfl.elim (fun ⟨h, _⟩ => absurd (h.symm.trans c5) (by decide)) (fun ⟨_, h⟩ => h)) (fun z => z.2.2.2 c8)⟩)) ⟨rfl, rfl, rfl, (congrArg (fun z => some (Value.int z)) (nI_succ _).symm), trivial⟩
            · iterate 2 refine px_go hX ?_
              refine ⟨_, _, (hR.1 100 _ hr.1), rfl, ?_⟩
              iterate 2 refine px_go hX ?_
              refine ⟨_, _, hA1, (vp_in_nI (by omega) (by omega)), ?_⟩
              rw [nI_clamp (by omega), show fa 1 i = cs_bf σ i 0 from (hs.2.1 i hlt).1]
              refine px_go hX ?_
              refine ⟨fun (c9 : ¬ cs_bf σ i 0 = 0) => ?_, fun (c9 : cs_bf σ i 0 = 0) => ?_⟩
              · iterate 4 refine px_go hX ?_
                exact px_lw hw [(0, .ref (ad 100)), (1, .int (nI j)), (2, .int ((0 : Int32))), (3, .int (nI (i + 1)))] (ih (i + 1) _ (by omega) (Or.inr ⟨rfl, pn_alls (hfl.elim (fun ⟨h, _⟩ => absurd (h.symm.trans c5) (by decide)) (fun ⟨_, h⟩ => h)) (fun z => c9 z.1)⟩)) ⟨rfl, rfl, rfl, (congrArg (fun z => some (Value.int z)) (nI_succ _).symm), trivial⟩
              · iterate 5 refine px_go hX ?_
                exact px_lw hw [(0, .ref (ad 100)), (1, .int (nI j)), (2, .int ((1 : Int32))), (3, .int (nI (i + 1)))] (ih (i + 1) _ (by omega) (Or.inl ⟨rfl, i, Nat.lt_succ_self i, c9, c6, c7, c8⟩)) ⟨rfl, rfl, rfl, (congrArg (fun z => some (Value.int z)) (nI_succ _).symm), trivial⟩
  iterate 4 refine px_go hX ?_
  exact px_lw hw [(0, .ref (ad 100)), (1, .int (nI j)), (2, .int ((0 : Int32))), (3, .int (nI 0))] (loop (cs_n σ - 0) 0 _ (by omega) (Or.inr ⟨rfl, fun q hq => absurd hq (Nat.not_lt_zero q)⟩)) ⟨rfl, rfl, rfl, rfl, trivial⟩
theorem rr_least (hR : Rp ad K C) (hr : Rl ad ρ K) (hs : Sim σ ρ) (hn : cs_n σ ≤ 16) (hnb : cs_nb σ ≤ 4) (x : Int32) : px_W ps_Y ps_P B sc (d + 2) 86 [.ref (ad 100), .int x] C 0 0 (px_oR ad K (of_least σ x)) px_no := by
  obtain ⟨p, fs, fa, fw⟩ := ρ
  obtain rfl : p = σ.1 := hs.1.1
  have hr1q : ∀ b, b < cs_nb σ → x = nI b → of_least σ x = (0, nI (pn_ct (fun j => decide ((cs_bf σ j 1 = x ∧ ¬ cs_bf σ j 2 = 3) ∧ (cs_bf σ j 0 = 0 ∨ cs_abv σ j))) (cs_n σ)), σ) := fun b hb hx => by unfold of_least; rw [show cs_bq σ x = some b from by rw [hx]; exact cs_bq_s2 hnb hb]
  generalize hp : (fun j => decide ((cs_bf σ j 1 = x ∧ ¬ cs_bf σ j 2 = 3) ∧ (cs_bf σ j 0 = 0 ∨ cs_abv σ j))) = p at hr1q
  refine ⟨pm_Ref_least, rfl, Nat.le_of_ble_eq_true rfl, fun X hw hX => ?_⟩
  iterate 3 refine px_go hX ?_
  refine ⟨_, (hR.1 100 _ hr.1), 0, 0, _, Nat.le_of_ble_eq_true rfl, Nat.le_of_ble_eq_true rfl, Nat.le_of_ble_eq_true rfl, rr_isBay hR hr hs _, ?_⟩
  rintro _ C ⟨rfl, ⟨b0, rfl⟩ | ⟨b0, rfl⟩⟩
  · obtain ⟨b, hb, hx⟩ := px_ix2 b0 (by omega)
    refine px_go hX ?_
    refine ⟨fun (c1 : ¬ 1 = 0) => ?_, fun (c1 : 1 = 0) => absurd c1 (by decide)⟩
    iterate 3 refine px_go hX ?_
    refine ⟨_, (hR.1 100 _ hr.1), Nat.le_of_ble_eq_true rfl, rfl, rfl, ?_⟩
    iterate 4 refine px_go hX ?_
    have hR1 := (hR.put (i := 100) hr.1 (px_o 4 [.int ((0 : Int32)), .int (nI (cs_nb σ)), .int (nI (cs_ti σ)), .int (nI (cs_n σ)), .ref (ad 101), .ref (ad 102), .ref (ad 103), .ref (ad 104), .ref (ad 105), .ref (ad 106), .int (fs 1), .int (fs 2), .ref (ad 107), .ref (ad 108), .ref (ad 109), .ref (ad 110), .ref (ad 111), .ref (ad 112), .ref (ad 113), .ref (ad 114), .ref (ad 115), .int (fs 3), .ref (ad 116), .ref (ad 117), .int (fs 4)]))
    have hr1 : Rl ad (rs_th (σ.1, fs, fa, fw) 0) (rp_up (K) (100) (px_o 4 [.int ((0 : Int32)), .int (nI (cs_nb σ)), .int (nI (cs_ti σ)), .int (nI (cs_n σ)), .ref (ad 101), .ref (ad 102), .ref (ad 103), .ref (ad 104), .ref (ad 105), .ref (ad 106), .int (fs 1), .int (fs 2), .ref (ad 107), .ref (ad 108), .ref (ad 109), .ref (ad 110), .ref (ad 111), .ref (ad 112), .ref (ad 113), .ref (ad 114), .ref (ad 115), .int (fs 3), .ref (ad 116), .ref (ad 117), .int (fs 4)])) := hr.sO _ _
    have hK1 : ∀ zz, zz < 100 ∨ 118 ≤ zz → (rp_up (K) (100) (px_o 4 [.int ((0 : Int32)), .int (nI (cs_nb σ)), .int (nI (cs_ti σ)), .int (nI (cs_n σ)), .ref (ad 101), .ref (ad 102), .ref (ad 103), .ref (ad 104), .ref (ad 105), .ref (ad 106), .int (fs 1), .int (fs 2), .ref (ad 107), .ref (ad 108), .ref (ad 109), .ref (ad 110), .ref (ad 111), .ref (ad 112), .ref (ad 113), .ref (ad 114), .ref (ad 115), .int (fs 3), .ref (ad 116), .ref (ad 117), .int (fs 4)])) zz = (K) zz := fun zz hzz => by rw [rp_up_n _ _ (by omega)]
    have hs1 : Sim σ (rs_th (σ.1, fs, fa, fw) 0) := hs
    have hA1 : (px_up C (ad 100) (px_o 4 [.int ((0 : Int32)), .int (nI (cs_nb σ)), .int (nI (cs_ti σ)), .int (nI (cs_n σ)), .ref (ad 101), .ref (ad 102), .ref (ad 103), .ref (ad 104), .ref (ad 105), .ref (ad 106), .int (fs 1), .int (fs 2), .ref (ad 107), .ref (ad 108), .ref (ad 109), .ref (ad 110), .ref (ad 111), .ref (ad 112), .ref (ad 113), .ref (ad 114), .ref (ad 115), .int (fs 3), .ref (ad 116), .ref (ad 117), .int (fs 4)])) (ad 101) = some (px_i 16 (fa 1)) := hR1.1 101 _ (hr1.2.1 1 (by decide) (by decide) (by decide))
    have hA2 : (px_up C (ad 100) (px_o 4 [.int ((0 : Int32)), .int (nI (cs_nb σ)), .int (nI (cs_ti σ)), .int (nI (cs_n σ)), .ref (ad 101), .ref (ad 102), .ref (ad 103), .ref (ad 104), .ref (ad 105), .ref (ad 106), .int (fs 1), .int (fs 2), .ref (ad 107), .ref (ad 108), .ref (ad 109), .ref (ad 110), .ref (ad 111), .ref (ad 112), .ref (ad 113), .ref (ad 114), .ref (ad 115), .int (fs 3), .ref (ad 116), .ref (ad 117), .int (fs 4)])) (ad 102) = some (px_i 16 (fa 2)) := hR1.1 102 _ (hr1.2.1 2 (by decide) (by decide) (by decide))
    have hA3 : (px_up C (ad 100) (px_o 4 [.int ((0 : Int32)), .int (nI (cs_nb σ)), .int (nI (cs_ti σ)), .int (nI (cs_n σ)), .ref (ad 101), .ref (ad 102), .ref (ad 103), .ref (ad 104), .ref (ad 105), .ref (ad 106), .int (fs 1), .int (fs 2), .ref (ad 107), .ref (ad 108), .ref (ad 109), .ref (ad 110), .ref (ad 111), .ref (ad 112), .ref (ad 113), .ref (ad 114), .ref (ad 115), .int (fs 3), .ref (ad 116), .ref (ad 117), .int (fs 4)])) (ad 103) = some (px_i 16 (fa 3)) := hR1.1 103 _ (hr1.2.1 3 (by decide) (by decide) (by decide))
    have loop : ∀ kk i, i + kk = cs_n σ → X (23, [(0, .ref (ad 100)), (1, .int (x)), (2, .int (nI (pn_ct p i))), (3, .int (nI i))], [], px_up C (ad 100) (px_o 4 [.int ((0 : Int32)), .int (nI (cs_nb σ)), .int (nI (cs_ti σ)), .int (nI (cs_n σ)), .ref (ad 101), .ref (ad 102), .ref (ad 103), .ref (ad 104), .ref (ad 105), .ref (ad 106), .int (fs 1), .int (fs 2), .ref (ad 107), .ref (ad 108), .ref (ad 109), .ref (ad 110), .ref (ad 111), .ref (ad 112), .ref (ad 113), .ref (ad 114), .ref (ad 115), .int (fs 3), .ref (ad 116), .ref (ad 117), .int (fs 4)]), 0, 0) := by
      intro kk
      induction kk with
      | zero =>
        intro i hi
        have hlt : i = cs_n σ := hi
        iterate 3 refine px_go hX ?_
        refine ⟨_, _, (hR1.1 100 _ hr1.1), rfl, ?_⟩
        refine px_go hX ?_
        refine ⟨fun (c2 : nI (cs_n σ) ≤ nI i) => ?_, fun (c2 : ¬ nI (cs_n σ) ≤ nI i) => absurd (nI_le (by omega) (by omega)) c2⟩
        iterate 2 refine px_go hX ?_
        rw [hlt, hr1q b hb hx]
        exact ⟨_, _, ⟨_, hR1, hr1, hK1⟩, hs, rfl, rfl, fun _ => rfl⟩
      | succ kk ih =>
        intro i hi
        have hlt : i < cs_n σ := by omega
        iterate 3 refine px_go hX ?_
        refine ⟨_, _, (hR1.1 100 _ hr1.1), rfl, ?_⟩
        refine px_go hX ?_
        refine ⟨fun (c3 : nI (cs_n σ) ≤ nI i) => absurd c3 (nI_ge hlt (by omega)), fun (c3 : ¬ nI (cs_n σ) ≤ nI i) => ?_⟩
        iterate 2 refine px_go hX ?_
        refine ⟨_, _, (hR1.1 100 _ hr1.1), rfl, ?_⟩
        iterate 2 refine px_go hX ?_
        refine ⟨_, _, hA2, (vp_in_nI (by omega) (by omega)), ?_⟩
        rw [nI_clamp (by omega), show fa 2 i = cs_bf σ i 1 from (hs.2.1 i hlt).2.1]
        iterate 2 refine px_go hX ?_
        refine ⟨fun (c4 : ¬ cs_bf σ i 1 = x) => ?_, fun (c4 : cs_bf σ i 1 = x) => ?_⟩
        · iterate 5 refine px_go hX ?_
          refine ⟨fun (c5 : (0 : Int32) = 0) => ?_, fun (c5 : ¬ (0 : Int32) = 0) => absurd rfl c5⟩
          iterate 5 refine px_go hX ?_
          exact px_lw hw [(0, .ref (ad 100)), (1, .int (x)), (2, .int (nI (pn_ct p (i + 1)))), (3, .int (nI (i + 1)))] (ih (i + 1) (by omega)) ⟨rfl, rfl, (congrArg (fun z => some (Value.int z)) (by rw [pn_ct_f (by rw [← hp]; exact decide_eq_false (fun z => c4 z.1.1))]; exact Int32.add_zero _)), (congrArg (fun z => some (Value.int z)) (nI_succ _).symm), trivial⟩
        · iterate 2 refine px_go hX ?_
          refine ⟨_, _, (hR1.1 100 _ hr1.1), rfl, ?_⟩
          iterate 2 refine px_go hX ?_
          refine ⟨_, _, hA3, (vp_in_nI (by omega) (by omega)), ?_⟩
          rw [nI_clamp (by omega), show fa 3 i = cs_bf σ i 2 from (hs.2.1 i hlt).2.2.1]
          iterate 2 refine px_go hX ?_
          refine ⟨fun (c6 : cs_bf σ i 2 = (3 : Int32)) => ?_, fun (c6 : ¬ cs_bf σ i 2 = (3 : Int32)) => ?_⟩
          · iterate 5 refine px_go hX ?_
            refine ⟨fun (c7 : (0 : Int32) = 0) => ?_, fun (c7 : ¬ (0 : Int32) = 0) => absurd rfl c7⟩
            iterate 5 refine px_go hX ?_
            exact px_lw hw [(0, .ref (ad 100)), (1, .int (x)), (2, .int (nI (pn_ct p (i + 1)))), (3, .int (nI (i + 1)))] (ih (i + 1) (by omega)) ⟨rfl, rfl, (congrArg (fun z => some (Value.int z)) (by rw [pn_ct_f (by rw [← hp]; exact decide_eq_false (fun z => z.1.2 c6))]; exact Int32.add_zero _)), (congrArg (fun z => some (Value.int z)) (nI_succ _).symm), trivial⟩
          · iterate 6 refine px_go hX ?_
            refine ⟨fun (c8 : (1 : Int32) = 0) => absurd c8 (by decide), fun (c8 : ¬ (1 : Int32) = 0) => ?_⟩
            iterate 2 refine px_go hX ?_
            refine ⟨_, _, (hR1.1 100 _ hr1.1), rfl, ?_⟩
            iterate 2 refine px_go hX ?_
            refine ⟨_, _, hA1, (vp_in_nI (by omega) (by omega)), ?_⟩
            rw [nI_clamp (by omega), show fa 1 i = cs_bf σ i 0 from (hs.2.1 i hlt).1]
            refine px_go hX ?_
            refine ⟨fun (c9 : cs_bf σ i 0 = 0) => ?_, fun (c9 : ¬ cs_bf σ i 0 = 0) => ?_⟩
            · iterate 6 refine px_go hX ?_
              exact px_lw hw [(0, .ref (ad 100)), (1, .int (x)), (2, .int (nI (pn_ct p (i + 1)))), (3, .int (nI (i + 1)))] (ih (i + 1) (by omega)) ⟨rfl, rfl, (congrArg (fun z => some (Value.int z)) (by rw [pn_ct_t (by rw [← hp]; exact decide_eq_true ⟨⟨c4, c6⟩, Or.inl c9⟩)]; exact (nI_succ _).symm)), (congrArg (fun z => some (Value.int z)) (nI_succ _).symm), trivial⟩
            · iterate 3 refine px_go hX ?_
              refine ⟨_, (hR1.1 100 _ hr1.1), 0, 0, _, Nat.le_of_ble_eq_true rfl, Nat.le_of_ble_eq_true rfl, Nat.le_of_ble_eq_true rfl, rr_isAbove hR1 hr1 hs1 hn hlt, ?_⟩
              rintro _ C ⟨rfl, ⟨b10, rfl⟩ | ⟨b10, rfl⟩⟩
              · refine px_go hX ?_
                refine ⟨fun (c11 : 1 = 0) => absurd c11 (by decide), fun (c11 : ¬ 1 = 0) => ?_⟩
                iterate 6 refine px_go hX ?_
                exact px_lw hw [(0, .ref (ad 100)), (1, .int (x)), (2, .int (nI (pn_ct p (i + 1)))), (3, .int (nI (i + 1)))] (ih (i + 1) (by omega)) ⟨rfl, rfl, (congrArg (fun z => some (Value.int z)) (by rw [pn_ct_t (by rw [← hp]; exact decide_eq_true ⟨⟨c4, c6⟩, Or.inr b10⟩)]; exact (nI_succ _).symm)), (congrArg (fun z => some (Value.int z)) (nI_succ _).symm), trivial⟩
              · refine px_go hX ?_
                refine ⟨fun (c12 : 0 = 0) => ?_, fun (c12 : ¬ 0 = 0) => absurd rfl c12⟩
                iterate 5 refine px_go hX ?_
                exact px_lw hw [(0, .ref (ad 100)), (1, .int (x)), (2, .int (nI (pn_ct p (i + 1)))), (3, .int (nI (i + 1)))] (ih (i + 1) (by omega)) ⟨rfl, rfl, (congrArg (fun z => some (Value.int z)) (by rw [pn_ct_f (by rw [← hp]; exact decide_eq_false (fun z => z.2.elim c9 b10))]; exact Int32.add_zero _)), (congrArg (fun z => some (Value.int z)) (nI_succ _).symm), trivial⟩
    exact px_lw hw [(0, .ref (ad 100)), (1, .int (x)), (2, .int (nI (pn_ct p 0))), (3, .int (nI 0))] (loop (cs_n σ - 0) 0 (by omega)) ⟨rfl, rfl, rfl, rfl, trivial⟩
  · refine px_go hX ?_
    refine ⟨fun (c13 : ¬ 0 = 0) => absurd rfl c13, fun (c13 : 0 = 0) => ?_⟩
    iterate 3 refine px_go hX ?_
    refine ⟨_, (hR.1 100 _ hr.1), 0, 0, _, Nat.le_of_ble_eq_true rfl, Nat.le_of_ble_eq_true rfl, Nat.le_of_ble_eq_true rfl, rr_refuse hR hr hs _, ?_⟩
    rintro _ C ⟨rfl, hC1⟩
    refine px_go hX ?_
    have hq : of_least σ x = (1, 0, σ) := by
      unfold of_least
      rw [cs_bq_n (px_nix b0)]
    rw [hq]
    exact ⟨_, _, hC1, hs, rfl, rfl, fun h => absurd (show (1 : Nat) = 0 from h) (by decide)⟩
end SC
end
section
/-! The reference: dual, move, count. -/
section SD
variable {B : Nat} {sc : Option (Nat × Nat × (Nat → Int32))} {d : Nat} {ad : Nat → Nat} {σ : ck_S} {ρ : rs_S} {K : rp_K} {C : px_P}
theorem cs_cob_1b (hnb : cs_nb σ ≤ 4) {x : Int32} {b : Nat} (h1 : 20 ≤ x) (hb : b < cs_nb σ) (hx : x - 20 = nI b) : cs_cob σ x = cs_lft σ b := by
  unfold cs_cob
  rw [if_pos h1, hx, cs_bq_s2 hnb hb]
theorem cs_cob_3b (hnb : cs_nb σ ≤ 4) {x : Int32} {b : Nat} (h1 : ¬ 20 ≤ x) (h2 : 10 ≤ x) (hb : b < cs_nb σ) (hx : x - 10 = nI b) : cs_cob σ x = cs_yf σ b 3 := by
  unfold cs_cob
  rw [if_neg h1, if_pos h2, hx, cs_bq_s2 hnb hb]
theorem pn_ct_c {p q : Nat → Bool} : ∀ {n : Nat}, (∀ i, i < n → p i = q i) → pn_ct p n = pn_ct q n
  | 0, _ => rfl
  | n + 1, h => by
    show pn_ct p n + _ = pn_ct q n + _
    rw [pn_ct_c (fun i hi => h i (by omega)), h n (by omega)]
theorem ie_40 (b i : Nat) : (40 : Int32) * nI b + nI i = nI (40 * b + i) := by
  rw [show (40 : Int32) * nI b = nI (40 * b) from pk_mul 40 b, nI_add]
theorem rr_dual (hR : Rp ad K C) (hr : Rl ad ρ K) (hs : Sim σ ρ) (hnb : cs_nb σ ≤ 4) (x : Int32) : px_W ps_Y ps_P B sc (d + 2) 89 [.ref (ad 100), .int x] C 0 0 (px_oR ad K (of_dual σ x)) px_no := by
  obtain ⟨p, fs, fa, fw⟩ := ρ
  obtain rfl : p = σ.1 := hs.1.1
  refine ⟨pm_Ref_dual, rfl, Nat.le_of_ble_eq_true rfl, fun X hw hX => ?_⟩
  iterate 3 refine px_go hX ?_
  refine ⟨_, (hR.1 100 _ hr.1), 0, 0, _, Nat.le_of_ble_eq_true rfl, Nat.le_of_ble_eq_true rfl, Nat.le_of_ble_eq_true rfl, rr_isBay hR hr hs _, ?_⟩
  rintro _ C ⟨rfl, ⟨b1, rfl⟩ | ⟨b1, rfl⟩⟩
  · obtain ⟨b, hb, rfl⟩ := px_ix2 b1 (by omega)
    refine px_go hX ?_
    refine ⟨fun (c2 : ¬ 1 = 0) => ?_, fun (c2 : 1 = 0) => absurd c2 (by decide)⟩
    obtain ⟨h6, h7, hpl1, m, d0, hm, hd, hdm, hm12⟩ := hs.2.2.2 b hb
    have h6 : fa 6 b = cs_yf σ b 3 := h6
    have h7 : fa 7 b = cs_yf σ b 0 := h7
    have hm : fa 8 b = nI m := hm
    have hd : fa 9 b = nI d0 := hd
    generalize hp : (fun i => decide (fa 12 (40 * b + (d0 + i)) = 3)) = p
    iterate 3 refine px_go hX ?_
    refine ⟨_, (hR.1 100 _ hr.1), Nat.le_of_ble_eq_true rfl, rfl, rfl, ?_⟩
    have hR1 := (hR.put (i := 100) hr.1 (px_o 4 [.int ((0 : Int32)), .int (nI (cs_nb σ)), .int (nI (cs_ti σ)), .int (nI (cs_n σ)), .ref (ad 101), .ref (ad 102), .ref (ad 103), .ref (ad 104), .ref (ad 105), .ref (ad 106), .int (fs 1), .int (fs 2), .ref (ad 107), .ref (ad 108), .ref (ad 109), .ref (ad 110), .ref (ad 111), .ref (ad 112), .ref (ad 113), .ref (ad 114), .ref (ad 115), .int (fs 3), .ref (ad 116), .ref (ad 117), .int (fs 4)]))
    have hr1 : Rl ad (rs_th (σ.1, fs, fa, fw) 0) (rp_up (K) (100) (px_o 4 [.int ((0 : Int32)), .int (nI (cs_nb σ)), .int (nI (cs_ti σ)), .int (nI (cs_n σ)), .ref (ad 101), .ref (ad 102), .ref (ad 103), .ref (ad 104), .ref (ad 105), .ref (ad 106), .int (fs 1), .int (fs 2), .ref (ad 107), .ref (ad 108), .ref (ad 109), .ref (ad 110), .ref (ad 111), .ref (ad 112), .ref (ad 113), .ref (ad 114), .ref (ad 115), .int (fs 3), .ref (ad 116), .ref (ad 117), .int (fs 4)])) := hr.sO _ _
    have hK1 : ∀ zz, zz < 100 ∨ 118 ≤ zz → (rp_up (K) (100) (px_o 4 [.int ((0 : Int32)), .int (nI (cs_nb σ)), .int (nI (cs_ti σ)), .int (nI (cs_n σ)), .ref (ad 101), .ref (ad 102), .ref (ad 103), .ref (ad 104), .ref (ad 105), .ref (ad 106), .int (fs 1), .int (fs 2), .ref (ad 107), .ref (ad 108), .ref (ad 109), .ref (ad 110), .ref (ad 111), .ref (ad 112), .ref (ad 113), .ref (ad 114), .ref (ad 115), .int (fs 3), .ref (ad 116), .ref (ad 117), .int (fs 4)])) zz = (K) zz := fun zz hzz => by rw [rp_up_n _ _ (by omega)]
    have hA6 : (px_up C (ad 100) (px_o 4 [.int ((0 : Int32)), .int (nI (cs_nb σ)), .int (nI (cs_ti σ)), .int (nI (cs_n σ)), .ref (ad 101), .ref (ad 102), .ref (ad 103), .ref (ad 104), .ref (ad 105), .ref (ad 106), .int (fs 1), .int (fs 2), .ref (ad 107), .ref (ad 108), .ref (ad 109), .ref (ad 110), .ref (ad 111), .ref (ad 112), .ref (ad 113), .ref (ad 114), .ref (ad 115), .int (fs 3), .ref (ad 116), .ref (ad 117), .int (fs 4)])) (ad 106) = some (px_i 4 (fa 6)) := hR1.1 106 _ (hr1.2.1 6 (by decide) (by decide) (by decide))
    have hA7 : (px_up C (ad 100) (px_o 4 [.int ((0 : Int32)), .int (nI (cs_nb σ)), .int (nI (cs_ti σ)), .int (nI (cs_n σ)), .ref (ad 101), .ref (ad 102), .ref (ad 103), .ref (ad 104), .ref (ad 105), .ref (ad 106), .int (fs 1), .int (fs 2), .ref (ad 107), .ref (ad 108), .ref (ad 109), .ref (ad 110), .ref (ad 111), .ref (ad 112), .ref (ad 113), .ref (ad 114), .ref (ad 115), .int (fs 3), .ref (ad 116), .ref (ad 117), .int (fs 4)])) (ad 107) = some (px_z 4 (fa 7)) := hR1.1 107 _ (hr1.2.1 7 (by decide) (by decide) (by decide))
    have hA8 : (px_up C (ad 100) (px_o 4 [.int ((0 : Int32)), .int (nI (cs_nb σ)), .int (nI (cs_ti σ)), .int (nI (cs_n σ)), .ref (ad 101), .ref (ad 102), .ref (ad 103), .ref (ad 104), .ref (ad 105), .ref (ad 106), .int (fs 1), .int (fs 2), .ref (ad 107), .ref (ad 108), .ref (ad 109), .ref (ad 110), .ref (ad 111), .ref (ad 112), .ref (ad 113), .ref (ad 114), .ref (ad 115), .int (fs 3), .ref (ad 116), .ref (ad 117), .int (fs 4)])) (ad 108) = some (px_i 4 (fa 8)) := hR1.1 108 _ (hr1.2.1 8 (by decide) (by decide) (by decide))
    have hA9 : (px_up C (ad 100) (px_o 4 [.int ((0 : Int32)), .int (nI (cs_nb σ)), .int (nI (cs_ti σ)), .int (nI (cs_n σ)), .ref (ad 101), .ref (ad 102), .ref (ad 103), .ref (ad 104), .ref (ad 105), .ref (ad 106), .int (fs 1), .int (fs 2), .ref (ad 107), .ref (ad 108), .ref (ad 109), .ref (ad 110), .ref (ad 111), .ref (ad 112), .ref (ad 113), .ref (ad 114), .ref (ad 115), .int (fs 3), .ref (ad 116), .ref (ad 117), .int (fs 4)])) (ad 109) = some (px_i 4 (fa 9)) := hR1.1 109 _ (hr1.2.1 9 (by decide) (by decide) (by decide))
    have hA12 : (px_up C (ad 100) (px_o 4 [.int ((0 : Int32)), .int (nI (cs_nb σ)), .int (nI (cs_ti σ)), .int (nI (cs_n σ)), .ref (ad 101), .ref (ad 102), .ref (ad 103), .ref (ad 104), .ref (ad 105), .ref (ad 106), .int (fs 1), .int (fs 2), .ref (ad 107), .ref (ad 108), .ref (ad 109), .ref (ad 110), .ref (ad 111), .ref (ad 112), .ref (ad 113), .ref (ad 114), .ref (ad 115), .int (fs 3), .ref (ad 116), .ref (ad 117), .int (fs 4)])) (ad 112) = some (px_i 160 (fa 12)) := hR1.1 112 _ (hr1.2.1 12 (by decide) (by decide) (by decide))
    iterate 4 refine px_go hX ?_
    refine ⟨_, _, (hR1.1 100 _ hr1.1), rfl, ?_⟩
    iterate 2 refine px_go hX ?_
    refine ⟨_, _, hA9, (vp_in_nI (by omega) (by omega)), ?_⟩
    rw [nI_clamp (by omega), hd]
    iterate 1 refine px_go hX ?_
    have loop : ∀ kk i, i + kk = (m - d0) → X (28, [(0, .ref (ad 100)), (1, .int (nI b)), (2, .int (nI (pn_ct p i))), (3, .int (nI (d0 + i)))], [], px_up C (ad 100) (px_o 4 [.int (0), .int (nI (cs_nb σ)), .int (nI (cs_ti σ)), .int (nI (cs_n σ)), .ref (ad 101), .ref (ad 102), .ref (ad 103), .ref (ad 104), .ref (ad 105), .ref (ad 106), .int (fs 1), .int (fs 2), .ref (ad 107), .ref (ad 108), .ref (ad 109), .ref (ad 110), .ref (ad 111), .ref (ad 112), .ref (ad 113), .ref (ad 114), .ref (ad 115), .int (fs 3), .ref (ad 116), .ref (ad 117), .int (fs 4)]), 0, 0) := by
      intro kk
      induction kk with
      | zero =>
        intro i hi
        have hlt : i = (m - d0) := hi
        iterate 3 refine px_go hX ?_
        refine ⟨_, _, (hR1.1 100 _ hr1.1), rfl, ?_⟩
        iterate 2 refine px_go hX ?_
        refine ⟨_, _, hA8, (vp_in_nI (by omega) (by omega)), ?_⟩
        rw [nI_clamp (by omega), hm]
        refine px_go hX ?_
        refine ⟨fun (c3 : nI m ≤ nI (d0 + i)) => ?_, fun (c3 : ¬ nI m ≤ nI (d0 + i)) => absurd (nI_le (by omega) (by omega)) c3⟩
        iterate 2 refine px_go hX ?_
        refine ⟨_, _, (hR1.1 100 _ hr1.1), rfl, ?_⟩
        iterate 2 refine px_go hX ?_
        refine ⟨_, _, hA7, (vp_in_nI (by omega) (by omega)), ?_⟩
        rw [nI_clamp (by omega), h7]
        refine px_go hX ?_
        refine ⟨fun (c4 : ¬ cs_yf σ b 0 = 0) => ?_, fun (c4 : cs_yf σ b 0 = 0) => ?_⟩
        · iterate 3 refine px_go hX ?_
          refine ⟨_, _, (hR1.1 100 _ hr1.1), rfl, ?_⟩
          iterate 2 refine px_go hX ?_
          refine ⟨_, _, hA6, (vp_in_nI (by omega) (by omega)), ?_⟩
          rw [nI_clamp (by omega), h6]
          refine px_go hX ?_
          refine ⟨fun (c5 : cs_yf σ b 3 ≤ nI (pn_ct p i)) => ?_, fun (c5 : ¬ cs_yf σ b 3 ≤ nI (pn_ct p i)) => ?_⟩
          · iterate 2 refine px_go hX ?_
            refine ⟨_, _, (hR1.1 100 _ hr1.1), rfl, ?_⟩
            iterate 2 refine px_go hX ?_
            refine ⟨_, _, hA6, (vp_in_nI (by omega) (by omega)), ?_⟩
            rw [nI_clamp (by omega), h6]
            refine px_go hX ?_
            obtain ⟨w8, w9, w12⟩ := hpl1 c4
            have e1 : (cs_yf σ b 2).toNatClampNeg = d0 := by rw [← w9, show rs_a (σ.1, fs, fa, fw) 9 b = nI d0 from hd, nI_clamp (by omega)]
            have e2 : (cs_yf σ b 1).toNatClampNeg = m := by rw [← w8, show rs_a (σ.1, fs, fa, fw) 8 b = nI m from hm, nI_clamp (by omega)]
            have e3 : nI (pn_ct (fun i => decide (cs_ya σ b 2 ((cs_yf σ b 2).toNatClampNeg + i) = 3)) ((cs_yf σ b 1).toNatClampNeg - (cs_yf σ b 2).toNatClampNeg)) = nI (pn_ct p (m - d0)) := by
              rw [e1, e2, ← hp]
              exact congrArg nI (pn_ct_c (fun i hi => by rw [← (w12 (d0 + i) (by omega) (by rw [← w8, show rs_a (σ.1, fs, fa, fw) 8 b = nI m from hm]; exact nI_lt (by omega) (by omega))).2.2]))
            rw [hlt] at c5
            have hq : of_dual σ (nI b) = (0, cs_yf σ b 3, σ) := by
              unfold of_dual
              rw [cs_bq_s2 hnb hb]
              exact congrArg (fun z => ((0, z, σ) : cs_R)) ((if_neg c4).trans (by rw [e3]; exact if_neg (Int32.not_lt.mpr c5)))
            rw [hq]
            exact ⟨_, _, ⟨_, hR1, hr1, hK1⟩, hs, rfl, rfl, fun _ => rfl⟩
          · iterate 3 refine px_go hX ?_
            obtain ⟨w8, w9, w12⟩ := hpl1 c4
            have e1 : (cs_yf σ b 2).toNatClampNeg = d0 := by rw [← w9, show rs_a (σ.1, fs, fa, fw) 9 b = nI d0 from hd, nI_clamp (by omega)]
            have e2 : (cs_yf σ b 1).toNatClampNeg = m := by rw [← w8, show rs_a (σ.1, fs, fa, fw) 8 b = nI m from hm, nI_clamp (by omega)]
            have e3 : nI (pn_ct (fun i => decide (cs_ya σ b 2 ((cs_yf σ b 2).toNatClampNeg + i) = 3)) ((cs_yf σ b 1).toNatClampNeg - (cs_yf σ b 2).toNatClampNeg)) = nI (pn_ct p (m - d0)) := by
              rw [e1, e2, ← hp]
              exact congrArg nI (pn_ct_c (fun i hi => by rw [← (w12 (d0 + i) (by omega) (by rw [← w8, show rs_a (σ.1, fs, fa, fw) 8 b = nI m from hm]; exact nI_lt (by omega) (by omega))).2.2]))
            rw [hlt] at c5
            have hq : of_dual σ (nI b) = (0, nI (pn_ct p (m - d0)), σ) := by
              unfold of_dual
              rw [cs_bq_s2 hnb hb]
              exact congrArg (fun z => ((0, z, σ) : cs_R)) ((if_neg c4).trans (by rw [e3]; exact if_pos (Int32.not_le.mp c5)))
            rw [hq]
            rw [hlt]
            exact ⟨_, _, ⟨_, hR1, hr1, hK1⟩, hs, rfl, rfl, fun _ => rfl⟩
        · iterate 3 refine px_go hX ?_
          have hq : of_dual σ (nI b) = (0, -1, σ) := by
            unfold of_dual
            rw [cs_bq_s2 hnb hb]
            exact congrArg (fun z => ((0, z, σ) : cs_R)) (if_pos c4)
          rw [hq]
          exact ⟨_, _, ⟨_, hR1, hr1, hK1⟩, hs, rfl, rfl, fun _ => rfl⟩
      | succ kk ih =>
        intro i hi
        have hlt : i < (m - d0) := by omega
        iterate 3 refine px_go hX ?_
        refine ⟨_, _, (hR1.1 100 _ hr1.1), rfl, ?_⟩
        iterate 2 refine px_go hX ?_
        refine ⟨_, _, hA8, (vp_in_nI (by omega) (by omega)), ?_⟩
        rw [nI_clamp (by omega), hm]
        refine px_go hX ?_
        refine ⟨fun (c6 : nI m ≤ nI (d0 + i)) => absurd c6 (nI_ge (by omega) (by omega)), fun (c6 : ¬ nI m ≤ nI (d0 + i)) => ?_⟩
        iterate 3 refine px_go hX ?_
        refine ⟨_, _, (hR1.1 100 _ hr1.1), rfl, ?_⟩
        iterate 6 refine px_go hX ?_
        refine ⟨_, _, hA12, (by rw [show (px_ic 40 * nI b + nI (d0 + i)) = nI (40 * b + (d0 + i)) from ie_40 b (d0 + i)]; exact vp_in_nI (by omega) (by omega)), ?_⟩
        rw [show (px_ic 40 * nI b + nI (d0 + i)) = nI (40 * b + (d0 + i)) from ie_40 b (d0 + i), nI_clamp (by omega)]
        iterate 2 refine px_go hX ?_
        refine ⟨fun (c7 : ¬ fa 12 (40 * b + (d0 + i)) = (3 : Int32)) => ?_, fun (c7 : fa 12 (40 * b + (d0 + i)) = (3 : Int32)) => ?_⟩
        · iterate 5 refine px_go hX ?_
          exact px_lw hw [(0, .ref (ad 100)), (1, .int (nI b)), (2, .int (nI (pn_ct p (i + 1)))), (3, .int (nI (d0 + (i + 1))))] (ih (i + 1) (by omega)) ⟨rfl, rfl, (congrArg (fun z => some (Value.int z)) (by rw [pn_ct_f (by rw [← hp]; exact decide_eq_false c7)]; exact Int32.add_zero _)), (congrArg (fun z => some (Value.int z)) (nI_succ _).symm), trivial⟩
        · iterate 6 refine px_go hX ?_
          exact px_lw hw [(0, .ref (ad 100)), (1, .int (nI b)), (2, .int (nI (pn_ct p (i + 1)))), (3, .int (nI (d0 + (i + 1))))] (ih (i + 1) (by omega)) ⟨rfl, rfl, (congrArg (fun z => some (Value.int z)) (by rw [pn_ct_t (by rw [← hp]; exact decide_eq_true c7)]; exact (nI_succ _).symm)), (congrArg (fun z => some (Value.int z)) (nI_succ _).symm), trivial⟩
    exact px_lw hw [(0, .ref (ad 100)), (1, .int (nI b)), (2, .int (nI (pn_ct p 0))), (3, .int (nI (d0 + 0)))] (loop ((m - d0) - 0) 0 (by omega)) ⟨rfl, rfl, rfl, rfl, trivial⟩
  · refine px_go hX ?_
    refine ⟨fun (c8 : ¬ 0 = 0) => absurd rfl c8, fun (c8 : 0 = 0) => ?_⟩
    iterate 3 refine px_go hX ?_
    refine ⟨_, (hR.1 100 _ hr.1), 0, 0, _, Nat.le_of_ble_eq_true rfl, Nat.le_of_ble_eq_true rfl, Nat.le_of_ble_eq_true rfl, rr_refuse hR hr hs _, ?_⟩
    rintro _ C ⟨rfl, hC1⟩
    refine px_go hX ?_
    have hq : of_dual σ x = (1, 0, σ) := by
      unfold of_dual
      rw [cs_bq_n (px_nix b1)]
    rw [hq]
    exact ⟨_, _, hC1, hs, rfl, rfl, fun h => absurd (show (1 : Nat) = 0 from h) (by decide)⟩
theorem rr_move (hR : Rp ad K C) (hr : Rl ad ρ K) (hs : Sim σ ρ) (hnb : cs_nb σ ≤ 4) (hpl : cs_pl σ) (x y z : Int32) : px_W ps_Y ps_P B sc (d + 2) 81 [.ref (ad 100), .int x, .int y, .int z] C 0 0 (px_oR ad K (of_move σ x y z)) px_no := by
  obtain ⟨p, fs, fa, fw⟩ := ρ
  obtain rfl : p = σ.1 := hs.1.1
  have hA7 : C (ad 107) = some (px_z 4 (fa 7)) := hR.1 107 _ (hr.2.1 7 (by decide) (by decide) (by decide))
  have hA8 : C (ad 108) = some (px_i 4 (fa 8)) := hR.1 108 _ (hr.2.1 8 (by decide) (by decide) (by decide))
  have hA9 : C (ad 109) = some (px_i 4 (fa 9)) := hR.1 109 _ (hr.2.1 9 (by decide) (by decide) (by decide))
  have hA10 : C (ad 110) = some (px_i 160 (fa 10)) := hR.1 110 _ (hr.2.1 10 (by decide) (by decide) (by decide))
  have hA11 : C (ad 111) = some (px_i 160 (fa 11)) := hR.1 111 _ (hr.2.1 11 (by decide) (by decide) (by decide))
  have hA12 : C (ad 112) = some (px_i 160 (fa 12)) := hR.1 112 _ (hr.2.1 12 (by decide) (by decide) (by decide))
  refine ⟨pm_Ref_move, rfl, Nat.le_of_ble_eq_true rfl, fun X hw hX => ?_⟩
  iterate 3 refine px_go hX ?_
  refine ⟨_, (hR.1 100 _ hr.1), 0, 0, _, Nat.le_of_ble_eq_true rfl, Nat.le_of_ble_eq_true rfl, Nat.le_of_ble_eq_true rfl, rr_isBay hR hr hs _, ?_⟩
  rintro _ C ⟨rfl, ⟨b1, rfl⟩ | ⟨b1, rfl⟩⟩
  · obtain ⟨b, hb, rfl⟩ := px_ix2 b1 (by omega)
    refine px_go hX ?_
    refine ⟨fun (c2 : 1 = 0) => absurd c2 (by decide), fun (c2 : ¬ 1 = 0) => ?_⟩
    obtain ⟨h6, h7, hpl1, -⟩ := hs.2.2.2 b hb
    have h7 : fa 7 b = cs_yf σ b 0 := h7
    obtain ⟨m, w, hm, hw0, hwm, hm12, -⟩ := hpl b hb
    iterate 2 refine px_go hX ?_
    refine ⟨_, _, (hR.1 100 _ hr.1), rfl, ?_⟩
    iterate 3 refine px_go hX ?_
    refine ⟨_, (hR.1 100 _ hr.1), 0, 0, _, Nat.le_of_ble_eq_true rfl, Nat.le_of_ble_eq_true rfl, Nat.le_of_ble_eq_true rfl, rr_isBay hR hr hs _, ?_⟩
    rintro _ C ⟨rfl, ⟨bz, rfl⟩ | ⟨bz, rfl⟩⟩
    · refine px_go hX ?_
      refine ⟨fun (c3 : 1 = 0) => absurd c3 (by decide), fun (c3 : ¬ 1 = 0) => ?_⟩
      iterate 3 refine px_go hX ?_
      refine ⟨_, _, hA7, (vp_in_nI (by omega) (by omega)), ?_⟩
      rw [nI_clamp (by omega), h7]
      refine px_go hX ?_
      refine ⟨fun (c4 : cs_yf σ b 0 = 0) => ?_, fun (c4 : ¬ cs_yf σ b 0 = 0) => ?_⟩
      · iterate 3 refine px_go hX ?_
        refine ⟨_, (hR.1 100 _ hr.1), 0, 0, _, Nat.le_of_ble_eq_true rfl, Nat.le_of_ble_eq_true rfl, Nat.le_of_ble_eq_true rfl, rr_refuse hR hr hs _, ?_⟩
        rintro _ C ⟨rfl, hC1⟩
        refine px_go hX ?_
        have hq : of_move σ (nI b) y z = (1, 0, σ) := by
          unfold of_move
          rw [cs_bq_s2 hnb hb]
          exact if_pos (Or.inl (fun q => q.1 c4))
        rw [hq]
        exact ⟨_, _, hC1, hs, rfl, rfl, fun h => absurd (show (1 : Nat) = 0 from h) (by decide)⟩
      · obtain ⟨w8, w9, w12⟩ := hpl1 c4
        have w8 : fa 8 b = cs_yf σ b 1 := w8
        have w9 : fa 9 b = cs_yf σ b 2 := w9
        iterate 2 refine px_go hX ?_
        refine ⟨fun (c5 : y < 0) => ?_, fun (c5 : ¬ y < 0) => ?_⟩
        · iterate 3 refine px_go hX ?_
          refine ⟨_, (hR.1 100 _ hr.1), 0, 0, _, Nat.le_of_ble_eq_true rfl, Nat.le_of_ble_eq_true rfl, Nat.le_of_ble_eq_true rfl, rr_refuse hR hr hs _, ?_⟩
          rintro _ C ⟨rfl, hC1⟩
          refine px_go hX ?_
          have hq : of_move σ (nI b) y z = (1, 0, σ) := by
            unfold of_move
            rw [cs_bq_s2 hnb hb]
            exact if_pos (Or.inl (fun q => q.2.1 c5))
          rw [hq]
          exact ⟨_, _, hC1, hs, rfl, rfl, fun h => absurd (show (1 : Nat) = 0 from h) (by decide)⟩
        · iterate 3 refine px_go hX ?_
          refine ⟨_, _, (hR.1 100 _ hr.1), rfl, ?_⟩
          iterate 2 refine px_go hX ?_
          refine ⟨_, _, hA8, (vp_in_nI (by omega) (by omega)), ?_⟩
          rw [nI_clamp (by omega), w8]
          refine px_go hX ?_
          refine ⟨fun (c6 : cs_yf σ b 1 ≤ y) => ?_, fun (c6 : ¬ cs_yf σ b 1 ≤ y) => ?_⟩
          · iterate 3 refine px_go hX ?_
            refine ⟨_, (hR.1 100 _ hr.1), 0, 0, _, Nat.le_of_ble_eq_true rfl, Nat.le_of_ble_eq_true rfl, Nat.le_of_ble_eq_true rfl, rr_refuse hR hr hs _, ?_⟩
            rintro _ C ⟨rfl, hC1⟩
            refine px_go hX ?_
            have hq : of_move σ (nI b) y z = (1, 0, σ) := by
              unfold of_move
              rw [cs_bq_s2 hnb hb]
              exact if_pos (Or.inl (fun q => q.2.2.1 c6))
            rw [hq]
            exact ⟨_, _, hC1, hs, rfl, rfl, fun h => absurd (show (1 : Nat) = 0 from h) (by decide)⟩
          · iterate 4 refine px_go hX ?_
            refine ⟨Nat.le_of_ble_eq_true rfl, 0, 0, _, Nat.le_of_ble_eq_true rfl, Nat.le_of_ble_eq_true rfl, Nat.le_of_ble_eq_true rfl, rr_in _ _ _, ?_⟩
            rintro _ C ⟨rfl, ⟨b7, rfl⟩ | ⟨b7, rfl⟩⟩
            · refine px_go hX ?_
              refine ⟨fun (c8 : ¬ 1 = 0) => ?_, fun (c8 : 1 = 0) => absurd c8 (by decide)⟩
              have h12 : ¬ 12 ≤ y := fun q => c6 (by rw [hm]; exact Int32.le_trans (nI_le hm12 (by omega)) q)
              obtain ⟨i, hi, rfl⟩ := px_ix2 (n := 12) ⟨c5, h12⟩ (by omega)
              obtain ⟨v10, v11, v12⟩ := w12 i hi (Int32.not_le.mp c6)
              have v10 : fa 10 (40 * b + i) = cs_ya σ b 0 i := v10
              have v11 : fa 11 (40 * b + i) = cs_ya σ b 1 i := v11
              have v12 : fa 12 (40 * b + i) = cs_ya σ b 2 i := v12
              iterate 3 refine px_go hX ?_
              refine ⟨_, (hR.1 100 _ hr.1), Nat.le_of_ble_eq_true rfl, rfl, rfl, ?_⟩
              iterate 8 refine px_go hX ?_
              refine ⟨fun (c9 : ¬ z = 0) => ?_, fun (c9 : z = 0) => ?_⟩
              · iterate 3 refine px_go hX ?_
                refine ⟨fun (c10 : ¬ z = (1 : Int32)) => ?_, fun (c10 : z = (1 : Int32)) => ?_⟩
                · iterate 3 refine px_go hX ?_
                  refine ⟨fun (c11 : ¬ z = (2 : Int32)) => ?_, fun (c11 : z = (2 : Int32)) => ?_⟩
                  · iterate 3 refine px_go hX ?_
                    refine ⟨_, _, (px_up_s _ _ _), rfl, ?_⟩
                    iterate 2 refine px_go hX ?_
                    refine ⟨_, _, ((px_up_n _ _ (hR.ne (hr.2.1 9 (by decide) (by decide) (by decide)) hr.1 (by decide))).trans hA9), (vp_in_nI (by omega) (by omega)), ?_⟩
                    rw [nI_clamp (by omega), w9]
                    refine px_go hX ?_
                    refine ⟨fun (c12 : cs_yf σ b 2 ≤ nI i) => ?_, fun (c12 : ¬ cs_yf σ b 2 ≤ nI i) => ?_⟩
                    · iterate 2 refine px_go hX ?_
                      have hR1 := (hR.put (i := 100) hr.1 (px_o 4 [.int ((0 : Int32)), .int (nI (cs_nb σ)), .int (nI (cs_ti σ)), .int (nI (cs_n σ)), .ref (ad 101), .ref (ad 102), .ref (ad 103), .ref (ad 104), .ref (ad 105), .ref (ad 106), .int (fs 1), .int (fs 2), .ref (ad 107), .ref (ad 108), .ref (ad 109), .ref (ad 110), .ref (ad 111), .ref (ad 112), .ref (ad 113), .ref (ad 114), .ref (ad 115), .int (fs 3), .ref (ad 116), .ref (ad 117), .int (fs 4)]))
                      have hr1 : Rl ad (rs_th (σ.1, fs, fa, fw) 0) (rp_up (K) (100) (px_o 4 [.int ((0 : Int32)), .int (nI (cs_nb σ)), .int (nI (cs_ti σ)), .int (nI (cs_n σ)), .ref (ad 101), .ref (ad 102), .ref (ad 103), .ref (ad 104), .ref (ad 105), .ref (ad 106), .int (fs 1), .int (fs 2), .ref (ad 107), .ref (ad 108), .ref (ad 109), .ref (ad 110), .ref (ad 111), .ref (ad 112), .ref (ad 113), .ref (ad 114), .ref (ad 115), .int (fs 3), .ref (ad 116), .ref (ad 117), .int (fs 4)])) := hr.sO _ _
                      have hK1 : ∀ zz, zz < 100 ∨ 118 ≤ zz → (rp_up (K) (100) (px_o 4 [.int ((0 : Int32)), .int (nI (cs_nb σ)), .int (nI (cs_ti σ)), .int (nI (cs_n σ)), .ref (ad 101), .ref (ad 102), .ref (ad 103), .ref (ad 104), .ref (ad 105), .ref (ad 106), .int (fs 1), .int (fs 2), .ref (ad 107), .ref (ad 108), .ref (ad 109), .ref (ad 110), .ref (ad 111), .ref (ad 112), .ref (ad 113), .ref (ad 114), .ref (ad 115), .int (fs 3), .ref (ad 116), .ref (ad 117), .int (fs 4)])) zz = (K) zz := fun zz hzz => by rw [rp_up_n _ _ (by omega)]
                      have hq : of_move σ (nI b) (nI i) z = (0, (0 : Int32), σ) := by
                        unfold of_move
                        rw [cs_bq_s2 hnb hb]
                        exact (if_neg (fun q => q.elim (fun q => q ⟨c4, c5, c6, h12⟩) (px_yin b7))).trans (congrArg (fun z => ((0, z, σ) : cs_R)) ((((if_neg c9).trans (if_neg c10)).trans (if_neg c11)).trans (if_pos c12)))
                      rw [hq]
                      exact ⟨_, _, ⟨_, hR1, hr1, hK1⟩, hs, rfl, rfl, fun _ => rfl⟩
                    · iterate 3 refine px_go hX ?_
                      have hR1 := (hR.put (i := 100) hr.1 (px_o 4 [.int ((0 : Int32)), .int (nI (cs_nb σ)), .int (nI (cs_ti σ)), .int (nI (cs_n σ)), .ref (ad 101), .ref (ad 102), .ref (ad 103), .ref (ad 104), .ref (ad 105), .ref (ad 106), .int (fs 1), .int (fs 2), .ref (ad 107), .ref (ad 108), .ref (ad 109), .ref (ad 110), .ref (ad 111), .ref (ad 112), .ref (ad 113), .ref (ad 114), .ref (ad 115), .int (fs 3), .ref (ad 116), .ref (ad 117), .int (fs 4)]))
                      have hr1 : Rl ad (rs_th (σ.1, fs, fa, fw) 0) (rp_up (K) (100) (px_o 4 [.int ((0 : Int32)), .int (nI (cs_nb σ)), .int (nI (cs_ti σ)), .int (nI (cs_n σ)), .ref (ad 101), .ref (ad 102), .ref (ad 103), .ref (ad 104), .ref (ad 105), .ref (ad 106), .int (fs 1), .int (fs 2), .ref (ad 107), .ref (ad 108), .ref (ad 109), .ref (ad 110), .ref (ad 111), .ref (ad 112), .ref (ad 113), .ref (ad 114), .ref (ad 115), .int (fs 3), .ref (ad 116), .ref (ad 117), .int (fs 4)])) := hr.sO _ _
                      have hK1 : ∀ zz, zz < 100 ∨ 118 ≤ zz → (rp_up (K) (100) (px_o 4 [.int ((0 : Int32)), .int (nI (cs_nb σ)), .int (nI (cs_ti σ)), .int (nI (cs_n σ)), .ref (ad 101), .ref (ad 102), .ref (ad 103), .ref (ad 104), .ref (ad 105), .ref (ad 106), .int (fs 1), .int (fs 2), .ref (ad 107), .ref (ad 108), .ref (ad 109), .ref (ad 110), .ref (ad 111), .ref (ad 112), .ref (ad 113), .ref (ad 114), .ref (ad 115), .int (fs 3), .ref (ad 116), .ref (ad 117), .int (fs 4)])) zz = (K) zz := fun zz hzz => by rw [rp_up_n _ _ (by omega)]
                      have hq : of_move σ (nI b) (nI i) z = (0, (1 : Int32), σ) := by
                        unfold of_move
                        rw [cs_bq_s2 hnb hb]
                        exact (if_neg (fun q => q.elim (fun q => q ⟨c4, c5, c6, h12⟩) (px_yin b7))).trans (congrArg (fun z => ((0, z, σ) : cs_R)) ((((if_neg c9).trans (if_neg c10)).trans (if_neg c11)).trans (if_neg c12)))
                      rw [hq]
                      exact ⟨_, _, ⟨_, hR1, hr1, hK1⟩, hs, rfl, rfl, fun _ => rfl⟩
                  · iterate 2 refine px_go hX ?_
                    refine ⟨_, _, (px_up_s _ _ _), rfl, ?_⟩
                    iterate 2 refine px_go hX ?_
                    refine ⟨_, _, ((px_up_n _ _ (hR.ne (hr.2.1 12 (by decide) (by decide) (by decide)) hr.1 (by decide))).trans hA12), (by rw [show (px_ic 40 * nI b + nI i) = nI (40 * b + i) from ie_40 b i]; exact vp_in_nI (by omega) (by omega)), ?_⟩
                    rw [show (px_ic 40 * nI b + nI i) = nI (40 * b + i) from ie_40 b i, nI_clamp (by omega), v12]
                    iterate 2 refine px_go hX ?_
                    have hR1 := (hR.put (i := 100) hr.1 (px_o 4 [.int ((0 : Int32)), .int (nI (cs_nb σ)), .int (nI (cs_ti σ)), .int (nI (cs_n σ)), .ref (ad 101), .ref (ad 102), .ref (ad 103), .ref (ad 104), .ref (ad 105), .ref (ad 106), .int (fs 1), .int (fs 2), .ref (ad 107), .ref (ad 108), .ref (ad 109), .ref (ad 110), .ref (ad 111), .ref (ad 112), .ref (ad 113), .ref (ad 114), .ref (ad 115), .int (fs 3), .ref (ad 116), .ref (ad 117), .int (fs 4)]))
                    have hr1 : Rl ad (rs_th (σ.1, fs, fa, fw) 0) (rp_up (K) (100) (px_o 4 [.int ((0 : Int32)), .int (nI (cs_nb σ)), .int (nI (cs_ti σ)), .int (nI (cs_n σ)), .ref (ad 101), .ref (ad 102), .ref (ad 103), .ref (ad 104), .ref (ad 105), .ref (ad 106), .int (fs 1), .int (fs 2), .ref (ad 107), .ref (ad 108), .ref (ad 109), .ref (ad 110), .ref (ad 111), .ref (ad 112), .ref (ad 113), .ref (ad 114), .ref (ad 115), .int (fs 3), .ref (ad 116), .ref (ad 117), .int (fs 4)])) := hr.sO _ _
                    have hK1 : ∀ zz, zz < 100 ∨ 118 ≤ zz → (rp_up (K) (100) (px_o 4 [.int ((0 : Int32)), .int (nI (cs_nb σ)), .int (nI (cs_ti σ)), .int (nI (cs_n σ)), .ref (ad 101), .ref (ad 102), .ref (ad 103), .ref (ad 104), .ref (ad 105), .ref (ad 106), .int (fs 1), .int (fs 2), .ref (ad 107), .ref (ad 108), .ref (ad 109), .ref (ad 110), .ref (ad 111), .ref (ad 112), .ref (ad 113), .ref (ad 114), .ref (ad 115), .int (fs 3), .ref (ad 116), .ref (ad 117), .int (fs 4)])) zz = (K) zz := fun zz hzz => by rw [rp_up_n _ _ (by omega)]
                    have hq : of_move σ (nI b) (nI i) z = (0, cs_ya σ b 2 i, σ) := by
                      unfold of_move
                      rw [cs_bq_s2 hnb hb]
                      exact (if_neg (fun q => q.elim (fun q => q ⟨c4, c5, c6, h12⟩) (px_yin b7))).trans (congrArg (fun z => ((0, z, σ) : cs_R)) ((((if_neg c9).trans (if_neg c10)).trans (if_pos c11)).trans (by rw [nI_clamp (by omega)])))
                    rw [hq]
                    exact ⟨_, _, ⟨_, hR1, hr1, hK1⟩, hs, rfl, rfl, fun _ => rfl⟩
                · iterate 2 refine px_go hX ?_
                  refine ⟨_, _, (px_up_s _ _ _), rfl, ?_⟩
                  iterate 2 refine px_go hX ?_
                  refine ⟨_, _, ((px_up_n _ _ (hR.ne (hr.2.1 11 (by decide) (by decide) (by decide)) hr.1 (by decide))).trans hA11), (by rw [show (px_ic 40 * nI b + nI i) = nI (40 * b + i) from ie_40 b i]; exact vp_in_nI (by omega) (by omega)), ?_⟩
                  rw [show (px_ic 40 * nI b + nI i) = nI (40 * b + i) from ie_40 b i, nI_clamp (by omega), v11]
                  iterate 2 refine px_go hX ?_
                  have hR1 := (hR.put (i := 100) hr.1 (px_o 4 [.int ((0 : Int32)), .int (nI (cs_nb σ)), .int (nI (cs_ti σ)), .int (nI (cs_n σ)), .ref (ad 101), .ref (ad 102), .ref (ad 103), .ref (ad 104), .ref (ad 105), .ref (ad 106), .int (fs 1), .int (fs 2), .ref (ad 107), .ref (ad 108), .ref (ad 109), .ref (ad 110), .ref (ad 111), .ref (ad 112), .ref (ad 113), .ref (ad 114), .ref (ad 115), .int (fs 3), .ref (ad 116), .ref (ad 117), .int (fs 4)]))
                  have hr1 : Rl ad (rs_th (σ.1, fs, fa, fw) 0) (rp_up (K) (100) (px_o 4 [.int ((0 : Int32)), .int (nI (cs_nb σ)), .int (nI (cs_ti σ)), .int (nI (cs_n σ)), .ref (ad 101), .ref (ad 102), .ref (ad 103), .ref (ad 104), .ref (ad 105), .ref (ad 106), .int (fs 1), .int (fs 2), .ref (ad 107), .ref (ad 108), .ref (ad 109), .ref (ad 110), .ref (ad 111), .ref (ad 112), .ref (ad 113), .ref (ad 114), .ref (ad 115), .int (fs 3), .ref (ad 116), .ref (ad 117), .int (fs 4)])) := hr.sO _ _
                  have hK1 : ∀ zz, zz < 100 ∨ 118 ≤ zz → (rp_up (K) (100) (px_o 4 [.int ((0 : Int32)), .int (nI (cs_nb σ)), .int (nI (cs_ti σ)), .int (nI (cs_n σ)), .ref (ad 101), .ref (ad 102), .ref (ad 103), .ref (ad 104), .ref (ad 105), .ref (ad 106), .int (fs 1), .int (fs 2), .ref (ad 107), .ref (ad 108), .ref (ad 109), .ref (ad 110), .ref (ad 111), .ref (ad 112), .ref (ad 113), .ref (ad 114), .ref (ad 115), .int (fs 3), .ref (ad 116), .ref (ad 117), .int (fs 4)])) zz = (K) zz := fun zz hzz => by rw [rp_up_n _ _ (by omega)]
                  have hq : of_move σ (nI b) (nI i) z = (0, cs_ya σ b 1 i, σ) := by
                    unfold of_move
                    rw [cs_bq_s2 hnb hb]
                    exact (if_neg (fun q => q.elim (fun q => q ⟨c4, c5, c6, h12⟩) (px_yin b7))).trans (congrArg (fun z => ((0, z, σ) : cs_R)) (((if_neg c9).trans (if_pos c10)).trans (by rw [nI_clamp (by omega)])))
                  rw [hq]
                  exact ⟨_, _, ⟨_, hR1, hr1, hK1⟩, hs, rfl, rfl, fun _ => rfl⟩
              · iterate 2 refine px_go hX ?_
                refine ⟨_, _, (px_up_s _ _ _), rfl, ?_⟩
                iterate 2 refine px_go hX ?_
                refine ⟨_, _, ((px_up_n _ _ (hR.ne (hr.2.1 10 (by decide) (by decide) (by decide)) hr.1 (by decide))).trans hA10), (by rw [show (px_ic 40 * nI b + nI i) = nI (40 * b + i) from ie_40 b i]; exact vp_in_nI (by omega) (by omega)), ?_⟩
                rw [show (px_ic 40 * nI b + nI i) = nI (40 * b + i) from ie_40 b i, nI_clamp (by omega), v10]
                iterate 2 refine px_go hX ?_
                have hR1 := (hR.put (i := 100) hr.1 (px_o 4 [.int ((0 : Int32)), .int (nI (cs_nb σ)), .int (nI (cs_ti σ)), .int (nI (cs_n σ)), .ref (ad 101), .ref (ad 102), .ref (ad 103), .ref (ad 104), .ref (ad 105), .ref (ad 106), .int (fs 1), .int (fs 2), .ref (ad 107), .ref (ad 108), .ref (ad 109), .ref (ad 110), .ref (ad 111), .ref (ad 112), .ref (ad 113), .ref (ad 114), .ref (ad 115), .int (fs 3), .ref (ad 116), .ref (ad 117), .int (fs 4)]))
                have hr1 : Rl ad (rs_th (σ.1, fs, fa, fw) 0) (rp_up (K) (100) (px_o 4 [.int ((0 : Int32)), .int (nI (cs_nb σ)), .int (nI (cs_ti σ)), .int (nI (cs_n σ)), .ref (ad 101), .ref (ad 102), .ref (ad 103), .ref (ad 104), .ref (ad 105), .ref (ad 106), .int (fs 1), .int (fs 2), .ref (ad 107), .ref (ad 108), .ref (ad 109), .ref (ad 110), .ref (ad 111), .ref (ad 112), .ref (ad 113), .ref (ad 114), .ref (ad 115), .int (fs 3), .ref (ad 116), .ref (ad 117), .int (fs 4)])) := hr.sO _ _
                have hK1 : ∀ zz, zz < 100 ∨ 118 ≤ zz → (rp_up (K) (100) (px_o 4 [.int ((0 : Int32)), .int (nI (cs_nb σ)), .int (nI (cs_ti σ)), .int (nI (cs_n σ)), .ref (ad 101), .ref (ad 102), .ref (ad 103), .ref (ad 104), .ref (ad 105), .ref (ad 106), .int (fs 1), .int (fs 2), .ref (ad 107), .ref (ad 108), .ref (ad 109), .ref (ad 110), .ref (ad 111), .ref (ad 112), .ref (ad 113), .ref (ad 114), .ref (ad 115), .int (fs 3), .ref (ad 116), .ref (ad 117), .int (fs 4)])) zz = (K) zz := fun zz hzz => by rw [rp_up_n _ _ (by omega)]
                have hq : of_move σ (nI b) (nI i) z = (0, cs_ya σ b 0 i, σ) := by
                  unfold of_move
                  rw [cs_bq_s2 hnb hb]
                  exact (if_neg (fun q => q.elim (fun q => q ⟨c4, c5, c6, h12⟩) (px_yin b7))).trans (congrArg (fun z => ((0, z, σ) : cs_R)) ((if_pos c9).trans (by rw [nI_clamp (by omega)])))
                rw [hq]
                exact ⟨_, _, ⟨_, hR1, hr1, hK1⟩, hs, rfl, rfl, fun _ => rfl⟩
            · refine px_go hX ?_
              refine ⟨fun (c13 : ¬ 0 = 0) => absurd rfl c13, fun (c13 : 0 = 0) => ?_⟩
              iterate 3 refine px_go hX ?_
              refine ⟨_, (hR.1 100 _ hr.1), 0, 0, _, Nat.le_of_ble_eq_true rfl, Nat.le_of_ble_eq_true rfl, Nat.le_of_ble_eq_true rfl, rr_refuse hR hr hs _, ?_⟩
              rintro _ C ⟨rfl, hC1⟩
              refine px_go hX ?_
              have hq : of_move σ (nI b) y z = (1, 0, σ) := by
                unfold of_move
                rw [cs_bq_s2 hnb hb]
                exact if_pos (Or.inr (px_nin b7))
              rw [hq]
              exact ⟨_, _, hC1, hs, rfl, rfl, fun h => absurd (show (1 : Nat) = 0 from h) (by decide)⟩
    · exact absurd ⟨nI_pos (by omega), nI_ge hb (by omega)⟩ bz
  · refine px_go hX ?_
    refine ⟨fun (c14 : 0 = 0) => ?_, fun (c14 : ¬ 0 = 0) => absurd rfl c14⟩
    iterate 3 refine px_go hX ?_
    refine ⟨_, (hR.1 100 _ hr.1), 0, 0, _, Nat.le_of_ble_eq_true rfl, Nat.le_of_ble_eq_true rfl, Nat.le_of_ble_eq_true rfl, rr_refuse hR hr hs _, ?_⟩
    rintro _ C ⟨rfl, hC1⟩
    refine px_go hX ?_
    have hq : of_move σ x y z = (1, 0, σ) := by
      unfold of_move
      rw [cs_bq_n (px_nix b1)]
    rw [hq]
    exact ⟨_, _, hC1, hs, rfl, rfl, fun h => absurd (show (1 : Nat) = 0 from h) (by decide)⟩
theorem rr_count (hR : Rp ad K C) (hr : Rl ad ρ K) (hs : Sim σ ρ) (hn : cs_n σ ≤ 16) (hnb : cs_nb σ ≤ 4) (x : Int32) : px_W ps_Y ps_P B sc (d + 2) 95 [.ref (ad 100), .int x] C 0 0 (fun v C' => v = some (.int (cs_cnt σ x)) ∧ ∃ ρ', Cr ad ρ' K C' ∧ Sim σ ρ') px_no := by
  obtain ⟨p, fs, fa, fw⟩ := ρ
  obtain rfl : p = σ.1 := hs.1.1
  refine ⟨pm_Ref_count, rfl, Nat.le_of_ble_eq_true rfl, fun X hw hX => ?_⟩
  iterate 3 refine px_go hX ?_
  refine ⟨_, (hR.1 100 _ hr.1), Nat.le_of_ble_eq_true rfl, rfl, rfl, ?_⟩
  have hR1 := (hR.put (i := 100) hr.1 (px_o 4 [.int ((0 : Int32)), .int (nI (cs_nb σ)), .int (nI (cs_ti σ)), .int (nI (cs_n σ)), .ref (ad 101), .ref (ad 102), .ref (ad 103), .ref (ad 104), .ref (ad 105), .ref (ad 106), .int (fs 1), .int (fs 2), .ref (ad 107), .ref (ad 108), .ref (ad 109), .ref (ad 110), .ref (ad 111), .ref (ad 112), .ref (ad 113), .ref (ad 114), .ref (ad 115), .int (fs 3), .ref (ad 116), .ref (ad 117), .int (fs 4)]))
  have hr1 : Rl ad (rs_th (σ.1, fs, fa, fw) 0) (rp_up (K) (100) (px_o 4 [.int ((0 : Int32)), .int (nI (cs_nb σ)), .int (nI (cs_ti σ)), .int (nI (cs_n σ)), .ref (ad 101), .ref (ad 102), .ref (ad 103), .ref (ad 104), .ref (ad 105), .ref (ad 106), .int (fs 1), .int (fs 2), .ref (ad 107), .ref (ad 108), .ref (ad 109), .ref (ad 110), .ref (ad 111), .ref (ad 112), .ref (ad 113), .ref (ad 114), .ref (ad 115), .int (fs 3), .ref (ad 116), .ref (ad 117), .int (fs 4)])) := hr.sO _ _
  have hK1 : ∀ zz, zz < 100 ∨ 118 ≤ zz → (rp_up (K) (100) (px_o 4 [.int ((0 : Int32)), .int (nI (cs_nb σ)), .int (nI (cs_ti σ)), .int (nI (cs_n σ)), .ref (ad 101), .ref (ad 102), .ref (ad 103), .ref (ad 104), .ref (ad 105), .ref (ad 106), .int (fs 1), .int (fs 2), .ref (ad 107), .ref (ad 108), .ref (ad 109), .ref (ad 110), .ref (ad 111), .ref (ad 112), .ref (ad 113), .ref (ad 114), .ref (ad 115), .int (fs 3), .ref (ad 116), .ref (ad 117), .int (fs 4)])) zz = (K) zz := fun zz hzz => by rw [rp_up_n _ _ (by omega)]
  have hs1 : Sim σ (rs_th (σ.1, fs, fa, fw) 0) := hs
  have hA3 : (px_up C (ad 100) (px_o 4 [.int ((0 : Int32)), .int (nI (cs_nb σ)), .int (nI (cs_ti σ)), .int (nI (cs_n σ)), .ref (ad 101), .ref (ad 102), .ref (ad 103), .ref (ad 104), .ref (ad 105), .ref (ad 106), .int (fs 1), .int (fs 2), .ref (ad 107), .ref (ad 108), .ref (ad 109), .ref (ad 110), .ref (ad 111), .ref (ad 112), .ref (ad 113), .ref (ad 114), .ref (ad 115), .int (fs 3), .ref (ad 116), .ref (ad 117), .int (fs 4)])) (ad 103) = some (px_i 16 (fa 3)) := hR1.1 103 _ (hr1.2.1 3 (by decide) (by decide) (by decide))
  have hA6 : (px_up C (ad 100) (px_o 4 [.int ((0 : Int32)), .int (nI (cs_nb σ)), .int (nI (cs_ti σ)), .int (nI (cs_n σ)), .ref (ad 101), .ref (ad 102), .ref (ad 103), .ref (ad 104), .ref (ad 105), .ref (ad 106), .int (fs 1), .int (fs 2), .ref (ad 107), .ref (ad 108), .ref (ad 109), .ref (ad 110), .ref (ad 111), .ref (ad 112), .ref (ad 113), .ref (ad 114), .ref (ad 115), .int (fs 3), .ref (ad 116), .ref (ad 117), .int (fs 4)])) (ad 106) = some (px_i 4 (fa 6)) := hR1.1 106 _ (hr1.2.1 6 (by decide) (by decide) (by decide))
  have hA7 : (px_up C (ad 100) (px_o 4 [.int ((0 : Int32)), .int (nI (cs_nb σ)), .int (nI (cs_ti σ)), .int (nI (cs_n σ)), .ref (ad 101), .ref (ad 102), .ref (ad 103), .ref (ad 104), .ref (ad 105), .ref (ad 106), .int (fs 1), .int (fs 2), .ref (ad 107), .ref (ad 108), .ref (ad 109), .ref (ad 110), .ref (ad 111), .ref (ad 112), .ref (ad 113), .ref (ad 114), .ref (ad 115), .int (fs 3), .ref (ad 116), .ref (ad 117), .int (fs 4)])) (ad 107) = some (px_z 4 (fa 7)) := hR1.1 107 _ (hr1.2.1 7 (by decide) (by decide) (by decide))
  have hA8 : (px_up C (ad 100) (px_o 4 [.int ((0 : Int32)), .int (nI (cs_nb σ)), .int (nI (cs_ti σ)), .int (nI (cs_n σ)), .ref (ad 101), .ref (ad 102), .ref (ad 103), .ref (ad 104), .ref (ad 105), .ref (ad 106), .int (fs 1), .int (fs 2), .ref (ad 107), .ref (ad 108), .ref (ad 109), .ref (ad 110), .ref (ad 111), .ref (ad 112), .ref (ad 113), .ref (ad 114), .ref (ad 115), .int (fs 3), .ref (ad 116), .ref (ad 117), .int (fs 4)])) (ad 108) = some (px_i 4 (fa 8)) := hR1.1 108 _ (hr1.2.1 8 (by decide) (by decide) (by decide))
  have hA9 : (px_up C (ad 100) (px_o 4 [.int ((0 : Int32)), .int (nI (cs_nb σ)), .int (nI (cs_ti σ)), .int (nI (cs_n σ)), .ref (ad 101), .ref (ad 102), .ref (ad 103), .ref (ad 104), .ref (ad 105), .ref (ad 106), .int (fs 1), .int (fs 2), .ref (ad 107), .ref (ad 108), .ref (ad 109), .ref (ad 110), .ref (ad 111), .ref (ad 112), .ref (ad 113), .ref (ad 114), .ref (ad 115), .int (fs 3), .ref (ad 116), .ref (ad 117), .int (fs 4)])) (ad 109) = some (px_i 4 (fa 9)) := hR1.1 109 _ (hr1.2.1 9 (by decide) (by decide) (by decide))
  iterate 3 refine px_go hX ?_
  refine ⟨fun (c1 : x < (20 : Int32)) => ?_, fun (c1 : ¬ x < (20 : Int32)) => ?_⟩
  · iterate 3 refine px_go hX ?_
    refine ⟨fun (c2 : x < (10 : Int32)) => ?_, fun (c2 : ¬ x < (10 : Int32)) => ?_⟩
    · iterate 6 refine px_go hX ?_
      have c2q := c2
      generalize hp : (fun j => decide (cs_bf σ j 2 = 3)) = p
      generalize hp2 : (fun j => decide (cs_bf σ j 2 = 4)) = p2
      have loop : ∀ kk i, i + kk = cs_n σ → X (111, [(0, .ref (ad 100)), (1, .int (x)), (2, .int (nI (pn_ct p i))), (3, .int (nI (pn_ct p2 i))), (4, .int (nI i))], [], px_up C (ad 100) (px_o 4 [.int ((0 : Int32)), .int (nI (cs_nb σ)), .int (nI (cs_ti σ)), .int (nI (cs_n σ)), .ref (ad 101), .ref (ad 102), .ref (ad 103), .ref (ad 104), .ref (ad 105), .ref (ad 106), .int (fs 1), .int (fs 2), .ref (ad 107), .ref (ad 108), .ref (ad 109), .ref (ad 110), .ref (ad 111), .ref (ad 112), .ref (ad 113), .ref (ad 114), .ref (ad 115), .int (fs 3), .ref (ad 116), .ref (ad 117), .int (fs 4)]), 0, 0) := by
        intro kk
        induction kk with
        | zero =>
          intro i hi
          have hlt : i = cs_n σ := hi
          iterate 3 refine px_go hX ?_
          refine ⟨_, _, (hR1.1 100 _ hr1.1), rfl, ?_⟩
          refine px_go hX ?_
          refine ⟨fun (c3 : nI (cs_n σ) ≤ nI i) => ?_, fun (c3 : ¬ nI (cs_n σ) ≤ nI i) => absurd (nI_le (by omega) (by omega)) c3⟩
          iterate 2 refine px_go hX ?_
          refine ⟨fun c4 => ?_, fun c4 => ⟨fun c5 => ?_, fun c5 => ⟨fun c6 => ?_, fun c6 => ⟨fun c7 => ?_, fun c7 => ⟨fun c8 => ?_, fun c8 => ?_⟩⟩⟩⟩⟩
          · have c4 : x = (0 : Int32) := c4
            iterate 2 refine px_go hX ?_
            refine ⟨_, _, (hR1.1 100 _ hr1.1), rfl, ?_⟩
            refine px_go hX ?_
            have hq : cs_cnt σ x = nI (cs_n σ) := by
              unfold cs_cnt
              rw [if_pos c4]
            rw [hq]
            exact ⟨rfl, _, ⟨_, hR1, hr1, hK1⟩, hs1⟩
          · have c4 : ¬ x = (0 : Int32) := c4
            have c5 : x = (1 : Int32) := c5
            iterate 2 refine px_go hX ?_
            have hq : cs_cnt σ x = nI (pn_ct (fun j => decide (cs_bf σ j 2 = 3)) (cs_n σ)) := by
              unfold cs_cnt
              rw [if_neg c4, if_pos c5]
            rw [hq]
            rw [hlt, ← hp]
            exact ⟨rfl, _, ⟨_, hR1, hr1, hK1⟩, hs1⟩
          · have c4 : ¬ x = (0 : Int32) := c4
            have c5 : ¬ x = (1 : Int32) := c5
            have c6 : x = (2 : Int32) := c6
            iterate 2 refine px_go hX ?_
            have hq : cs_cnt σ x = nI (pn_ct (fun j => decide (cs_bf σ j 2 = 4)) (cs_n σ)) := by
              unfold cs_cnt
              rw [if_neg c4, if_neg c5, if_pos c6]
            rw [hq]
            rw [hlt, ← hp2]
            exact ⟨rfl, _, ⟨_, hR1, hr1, hK1⟩, hs1⟩
          · have c4 : ¬ x = (0 : Int32) := c4
            have c5 : ¬ x = (1 : Int32) := c5
            have c6 : ¬ x = (2 : Int32) := c6
            have c7 : x = (3 : Int32) := c7
            iterate 2 refine px_go hX ?_
            refine ⟨_, _, (hR1.1 100 _ hr1.1), rfl, ?_⟩
            refine px_go hX ?_
            have hq : cs_cnt σ x = cs_mw σ := by
              unfold cs_cnt
              rw [if_neg c4, if_neg c5, if_neg c6, if_pos c7]
            rw [hq]
            exact ⟨congrArg (fun z => some (Value.int z)) (hs.1.2.2 : fs 2 = cs_mw σ), _, ⟨_, hR1, hr1, hK1⟩, hs1⟩
          · have c4 : ¬ x = (0 : Int32) := c4
            have c5 : ¬ x = (1 : Int32) := c5
            have c6 : ¬ x = (2 : Int32) := c6
            have c7 : ¬ x = (3 : Int32) := c7
            have c8 : x = (4 : Int32) := c8
            iterate 2 refine px_go hX ?_
            refine ⟨_, _, (hR1.1 100 _ hr1.1), rfl, ?_⟩
            refine px_go hX ?_
            have hq : cs_cnt σ x = cs_lg σ := by
              unfold cs_cnt
              rw [if_neg c4, if_neg c5, if_neg c6, if_neg c7, if_pos c8]
            rw [hq]
            exact ⟨congrArg (fun z => some (Value.int z)) (hs.1.2.1 : fs 1 = cs_lg σ), _, ⟨_, hR1, hr1, hK1⟩, hs1⟩
          · have c4 : ¬ x = (0 : Int32) := c4
            have c5 : ¬ x = (1 : Int32) := c5
            have c6 : ¬ x = (2 : Int32) := c6
            have c7 : ¬ x = (3 : Int32) := c7
            have c8 : ¬ x = (4 : Int32) := c8
            iterate 2 refine px_go hX ?_
            have hq : cs_cnt σ x = -1 := by
              unfold cs_cnt
              rw [if_neg c4, if_neg c5, if_neg c6, if_neg c7, if_neg c8, cs_cob_5 (i32_nle c1) (i32_nle c2q)]
            rw [hq]
            exact ⟨rfl, _, ⟨_, hR1, hr1, hK1⟩, hs1⟩
        | succ kk ih =>
          intro i hi
          have hlt : i < cs_n σ := by omega
          iterate 3 refine px_go hX ?_
          refine ⟨_, _, (hR1.1 100 _ hr1.1), rfl, ?_⟩
          refine px_go hX ?_
          refine ⟨fun (c9 : nI (cs_n σ) ≤ nI i) => absurd c9 (nI_ge hlt (by omega)), fun (c9 : ¬ nI (cs_n σ) ≤ nI i) => ?_⟩
          iterate 3 refine px_go hX ?_
          refine ⟨_, _, (hR1.1 100 _ hr1.1), rfl, ?_⟩
          iterate 2 refine px_go hX ?_
          refine ⟨_, _, hA3, (vp_in_nI (by omega) (by omega)), ?_⟩
          rw [nI_clamp (by omega), show fa 3 i = cs_bf σ i 2 from (hs.2.1 i hlt).2.2.1]
          iterate 2 refine px_go hX ?_
          refine ⟨fun (c10 : ¬ cs_bf σ i 2 = (3 : Int32)) => ?_, fun (c10 : cs_bf σ i 2 = (3 : Int32)) => ?_⟩
          · iterate 6 refine px_go hX ?_
            refine ⟨_, _, (hR1.1 100 _ hr1.1), rfl, ?_⟩
            iterate 2 refine px_go hX ?_
            refine ⟨_, _, hA3, (vp_in_nI (by omega) (by omega)), ?_⟩
            rw [nI_clamp (by omega), show fa 3 i = cs_bf σ i 2 from (hs.2.1 i hlt).2.2.1]
            iterate 2 refine px_go hX ?_
            refine ⟨fun (c11 : ¬ cs_bf σ i 2 = (4 : Int32)) => ?_, fun (c11 : cs_bf σ i 2 = (4 : Int32)) => ?_⟩
            · iterate 5 refine px_go hX ?_
              exact px_lw hw [(0, .ref (ad 100)), (1, .int (x)), (2, .int (nI (pn_ct p (i + 1)))), (3, .int (nI (pn_ct p2 (i + 1)))), (4, .int (nI (i + 1)))] (ih (i + 1) (by omega)) ⟨rfl, rfl, (congrArg (fun z => some (Value.int z)) (by rw [pn_ct_f (by rw [← hp]; exact decide_eq_false c10)]; exact Int32.add_zero _)), (congrArg (fun z => some (Value.int z)) (by rw [pn_ct_f (by rw [← hp2]; exact decide_eq_false c11)]; exact Int32.add_zero _)), (congrArg (fun z => some (Value.int z)) (nI_succ _).symm), trivial⟩
            · iterate 6 refine px_go hX ?_
              exact px_lw hw [(0, .ref (ad 100)), (1, .int (x)), (2, .int (nI (pn_ct p (i + 1)))), (3, .int (nI (pn_ct p2 (i + 1)))), (4, .int (nI (i + 1)))] (ih (i + 1) (by omega)) ⟨rfl, rfl, (congrArg (fun z => some (Value.int z)) (by rw [pn_ct_f (by rw [← hp]; exact decide_eq_false c10)]; exact Int32.add_zero _)), (congrArg (fun z => some (Value.int z)) (by rw [pn_ct_t (by rw [← hp2]; exact decide_eq_true c11)]; exact (nI_succ _).symm)), (congrArg (fun z => some (Value.int z)) (nI_succ _).symm), trivial⟩
          · iterate 7 refine px_go hX ?_
            refine ⟨_, _, (hR1.1 100 _ hr1.1), rfl, ?_⟩
            iterate 2 refine px_go hX ?_
            refine ⟨_, _, hA3, (vp_in_nI (by omega) (by omega)), ?_⟩
            rw [nI_clamp (by omega), show fa 3 i = cs_bf σ i 2 from (hs.2.1 i hlt).2.2.1]
            iterate 2 refine px_go hX ?_
            refine ⟨fun (c12 : ¬ cs_bf σ i 2 = (4 : Int32)) => ?_, fun (c12 : cs_bf σ i 2 = (4 : Int32)) => ?_⟩
            · iterate 5 refine px_go hX ?_
              exact px_lw hw [(0, .ref (ad 100)), (1, .int (x)), (2, .int (nI (pn_ct p (i + 1)))), (3, .int (nI (pn_ct p2 (i + 1)))), (4, .int (nI (i + 1)))] (ih (i + 1) (by omega)) ⟨rfl, rfl, (congrArg (fun z => some (Value.int z)) (by rw [pn_ct_t (by rw [← hp]; exact decide_eq_true c10)]; exact (nI_succ _).symm)), (congrArg (fun z => some (Value.int z)) (by rw [pn_ct_f (by rw [← hp2]; exact decide_eq_false c12)]; exact Int32.add_zero _)), (congrArg (fun z => some (Value.int z)) (nI_succ _).symm), trivial⟩
            · iterate 6 refine px_go hX ?_
              exact px_lw hw [(0, .ref (ad 100)), (1, .int (x)), (2, .int (nI (pn_ct p (i + 1)))), (3, .int (nI (pn_ct p2 (i + 1)))), (4, .int (nI (i + 1)))] (ih (i + 1) (by omega)) ⟨rfl, rfl, (congrArg (fun z => some (Value.int z)) (by rw [pn_ct_t (by rw [← hp]; exact decide_eq_true c10)]; exact (nI_succ _).symm)), (congrArg (fun z => some (Value.int z)) (by rw [pn_ct_t (by rw [← hp2]; exact decide_eq_true c12)]; exact (nI_succ _).symm)), (congrArg (fun z => some (Value.int z)) (nI_succ _).symm), trivial⟩
      exact px_lw hw [(0, .ref (ad 100)), (1, .int (x)), (2, .int (nI (pn_ct p 0))), (3, .int (nI (pn_ct p2 0))), (4, .int (nI 0))] (loop (cs_n σ - 0) 0 (by omega)) ⟨rfl, rfl, rfl, rfl, rfl, trivial⟩
    · iterate 5 refine px_go hX ?_
      refine ⟨_, (hR1.1 100 _ hr1.1), 0, 0, _, Nat.le_of_ble_eq_true rfl, Nat.le_of_ble_eq_true rfl, Nat.le_of_ble_eq_true rfl, rr_isBay hR1 hr1 hs1 _, ?_⟩
      rintro _ C ⟨rfl, ⟨b10, rfl⟩ | ⟨b10, rfl⟩⟩
      · obtain ⟨b, hb, hx⟩ := px_ix2 b10 (by omega)
        have hx : x - 10 = nI b := hx
        obtain ⟨h6, h7, hpl1, -⟩ := hs.2.2.2 b hb
        have h6 : fa 6 b = cs_yf σ b 3 := h6
        have h7 : fa 7 b = cs_yf σ b 0 := h7
        refine px_go hX ?_
        refine ⟨fun (c13 : 1 = 0) => absurd c13 (by decide), fun (c13 : ¬ 1 = 0) => ?_⟩
        iterate 2 refine px_go hX ?_
        refine ⟨_, _, (hR1.1 100 _ hr1.1), rfl, ?_⟩
        iterate 4 refine px_go hX ?_
        refine ⟨_, _, hA6, (by rw [show x - px_ic 10 = nI b from hx]; exact vp_in_nI (by omega) (by omega)), ?_⟩
        rw [show (x - px_ic 10).toNatClampNeg = b from by rw [show x - px_ic 10 = nI b from hx, nI_clamp (by omega)], h6]
        iterate 2 refine px_go hX ?_
        have hcnt : cs_cnt σ x = cs_cob σ x := by
          unfold cs_cnt
          rw [if_neg, if_neg, if_neg, if_neg, if_neg] <;> exact fun w => absurd (w ▸ (i32_nlt c2 : 10 ≤ x)) (by decide)
        rw [hcnt]
        rw [cs_cob_3b hnb (i32_nle c1) (i32_nlt c2) hb hx]
        exact ⟨rfl, _, ⟨_, hR1, hr1, hK1⟩, hs1⟩
      · refine px_go hX ?_
        refine ⟨fun (c14 : 0 = 0) => ?_, fun (c14 : ¬ 0 = 0) => absurd rfl c14⟩
        iterate 2 refine px_go hX ?_
        have hcnt : cs_cnt σ x = cs_cob σ x := by
          unfold cs_cnt
          rw [if_neg, if_neg, if_neg, if_neg, if_neg] <;> exact fun w => absurd (w ▸ (i32_nlt c2 : 10 ≤ x)) (by decide)
        rw [hcnt]
        rw [cs_cob_4 (i32_nle c1) (i32_nlt c2) (px_nix b10)]
        exact ⟨rfl, _, ⟨_, hR1, hr1, hK1⟩, hs1⟩
  · iterate 5 refine px_go hX ?_
    refine ⟨_, (hR1.1 100 _ hr1.1), 0, 0, _, Nat.le_of_ble_eq_true rfl, Nat.le_of_ble_eq_true rfl, Nat.le_of_ble_eq_true rfl, rr_isBay hR1 hr1 hs1 _, ?_⟩
    rintro _ C ⟨rfl, ⟨b20, rfl⟩ | ⟨b20, rfl⟩⟩
    · obtain ⟨b, hb, hx⟩ := px_ix2 b20 (by omega)
      have hx : x - 20 = nI b := hx
      obtain ⟨h6, h7, hpl1, -⟩ := hs.2.2.2 b hb
      have h6 : fa 6 b = cs_yf σ b 3 := h6
      have h7 : fa 7 b = cs_yf σ b 0 := h7
      refine px_go hX ?_
      refine ⟨fun (c15 : 1 = 0) => absurd c15 (by decide), fun (c15 : ¬ 1 = 0) => ?_⟩
      iterate 2 refine px_go hX ?_
      refine ⟨_, _, (hR1.1 100 _ hr1.1), rfl, ?_⟩
      iterate 5 refine px_go hX ?_
      refine ⟨_, (hR1.1 100 _ hr1.1), 0, 0, _, Nat.le_of_ble_eq_true rfl, Nat.le_of_ble_eq_true rfl, Nat.le_of_ble_eq_true rfl, rr_isBay hR1 hr1 hs1 _, ?_⟩
      rintro _ C ⟨rfl, ⟨bz, rfl⟩ | ⟨bz, rfl⟩⟩
      · refine px_go hX ?_
        refine ⟨fun (c16 : 1 = 0) => absurd c16 (by decide), fun (c16 : ¬ 1 = 0) => ?_⟩
        iterate 5 refine px_go hX ?_
        refine ⟨_, _, hA7, (by rw [show x - px_ic 20 = nI b from hx]; exact vp_in_nI (by omega) (by omega)), ?_⟩
        rw [show (x - px_ic 20).toNatClampNeg = b from by rw [show x - px_ic 20 = nI b from hx, nI_clamp (by omega)], h7]
        refine px_go hX ?_
        refine ⟨fun (c17 : cs_yf σ b 0 = 0) => ?_, fun (c17 : ¬ cs_yf σ b 0 = 0) => ?_⟩
        · iterate 2 refine px_go hX ?_
          have hcnt : cs_cnt σ x = cs_cob σ x := by
            unfold cs_cnt
            rw [if_neg, if_neg, if_neg, if_neg, if_neg] <;> exact fun w => absurd (w ▸ (i32_nlt c1 : 20 ≤ x)) (by decide)
          rw [hcnt]
          rw [cs_cob_1b hnb (i32_nlt c1) hb hx, cs_lft, if_pos c17]
          exact ⟨rfl, _, ⟨_, hR1, hr1, hK1⟩, hs1⟩
        · obtain ⟨w8, w9, -⟩ := hpl1 c17
          have w8 : fa 8 b = cs_yf σ b 1 := w8
          have w9 : fa 9 b = cs_yf σ b 2 := w9
          iterate 2 refine px_go hX ?_
          refine ⟨_, _, (hR1.1 100 _ hr1.1), rfl, ?_⟩
          iterate 4 refine px_go hX ?_
          refine ⟨_, _, hA8, (by rw [show x - px_ic 20 = nI b from hx]; exact vp_in_nI (by omega) (by omega)), ?_⟩
          rw [show (x - px_ic 20).toNatClampNeg = b from by rw [show x - px_ic 20 = nI b from hx, nI_clamp (by omega)], w8]
          iterate 2 refine px_go hX ?_
          refine ⟨_, _, (hR1.1 100 _ hr1.1), rfl, ?_⟩
          iterate 4 refine px_go hX ?_
          refine ⟨_, _, hA9, (by rw [show x - px_ic 20 = nI b from hx]; exact vp_in_nI (by omega) (by omega)), ?_⟩
          rw [show (x - px_ic 20).toNatClampNeg = b from by rw [show x - px_ic 20 = nI b from hx, nI_clamp (by omega)], w9]
          iterate 3 refine px_go hX ?_
          have hcnt : cs_cnt σ x = cs_cob σ x := by
            unfold cs_cnt
            rw [if_neg, if_neg, if_neg, if_neg, if_neg] <;> exact fun w => absurd (w ▸ (i32_nlt c1 : 20 ≤ x)) (by decide)
          rw [hcnt]
          rw [cs_cob_1b hnb (i32_nlt c1) hb hx, cs_lft, if_neg c17]
          exact ⟨rfl, _, ⟨_, hR1, hr1, hK1⟩, hs1⟩
      · exact absurd b20 bz
    · refine px_go hX ?_
      refine ⟨fun (c18 : 0 = 0) => ?_, fun (c18 : ¬ 0 = 0) => absurd rfl c18⟩
      iterate 2 refine px_go hX ?_
      have hcnt : cs_cnt σ x = cs_cob σ x := by
        unfold cs_cnt
        rw [if_neg, if_neg, if_neg, if_neg, if_neg] <;> exact fun w => absurd (w ▸ (i32_nlt c1 : 20 ≤ x)) (by decide)
      rw [hcnt]
      rw [cs_cob_2 (i32_nlt c1) (px_nix b20)]
      exact ⟨rfl, _, ⟨_, hR1, hr1, hK1⟩, hs1⟩
end SD
end
