/-! THE CLAIM OUT OF ONE WALK OF THE LAW'S BODY. Your part is whole_start (and what it stands on); all else here is the same for every law, but numbers. -/
def R_law : String := "MoveOrderLaw"
def lw_P (b : Addr) (xs : List Int32) (args : Array Value) (s : State) : Prop := args = #[.ref b] ∧ s.IntsAt b xs ∧ xs.length ≤ 2050 ∧ (Jvm.Cond.and given_1 narrow_1).before args s = true
def lw_Q (_ : Array Value) (s : State) (o : Outcome) (t : State) : Prop := o = .returned (some (.int 1)) ∧ Framed s o t [] 601024 7293000
def lw_Z (below : List Frame) (a : Array Value) (s : State) : State → Prop := fun t => ∃ o, t.status = .running ∧ Ended t below o ∧ lw_Q a s o t
/-- the law's own end, with 1 on the stack, nothing written that was there before, its room as the claim has it -/
theorem lw_ret {p : Program} {l : Launch} {e : Env} {s : State} {m : MethodId} {below : List Frame} {meth : Method} {c : Code} {b : Nat} (hx : p.tables.exec = Jvm.exec) (hb : c.code = code) (hr : meth.sig.returnType = ret) (hlocks : meth.locks = false) {pc : Nat} {H : Heap} {ls : Array Slot} (hdg : decode code pc = .ok (.ireturn, 1)) : W p l e room_1 s m #[Value.ref b] below meth c H [] 601024 7293000 (lw_Z below #[Value.ref b] s) (F0 m pc ls [.int 1]) := by
  intro T hT X
  obtain ⟨fs, hret, hrun, hended, hW, hframe⟩ := X.leave (v := some (.int 1)) (hlocks := hlocks) (fun h => by rw [hr] at h; cases h)
  have hmeth' : T.vm.method? m = some meth := X.method'
  refine ⟨T.setFrames fs, ?_, .returned (some (.int 1)), hrun, hended, rfl, ⟨_, rfl⟩, hW, hframe⟩
  jvm_step X.here [X.here.top, hx, hb, hdg, hmeth', hr, ret, narrow_b1]
  (try refine ⟨rfl, ?_⟩); (try refine ⟨rfl, ?_⟩)
  first | (intro acts; rw [hret _ acts rfl rfl rfl]) | rw [hret _ _ rfl rfl rfl]
  exact Steps.refl _
/-- what holds at the law's entry: the machine, the code, the tables' words (any of lw_tbl by 'hts w (by decide +kernel)'), the script of L ints xs at the cell b, what the Statement gives of the start (any of its parts by flat_of_before) -/
def lw_At (p : Program) (s : State) (m : MethodId) (meth : Method) (c : Code) (b L : Nat) (xs : Nat → Int32) : Prop :=
  p.tables.exec = Jvm.exec ∧ c.code = code ∧ meth.sig.returnType = ret ∧ c.maxLocals = 7 ∧ s.vm.findClass R_law = some m.cls ∧ (∀ w ∈ lw_tbl, w.before #[Value.ref b] s = true) ∧ va_X b L xs s s.heap ∧ b < s.heap.size ∧ meth.locks = false ∧ (Jvm.Cond.and given_1 narrow_1).before #[Value.ref b] s = true ∧ (Cond.code x code maxLocals ret).before #[Value.ref b] s = true ∧ (∀ x ∈ c.exceptionTable.toList, False) ∧ meth.name = "law"

theorem ps_str {own : String} {k : Nat} {cls : String} {args : Array Value} {s : State} (h : (Cond.exactly (.string own k) cls).before args s = true) : ∃ q, (Term.string own k).eval args s none [] s = some (.ref q) := by
  cases hv : (Term.string own k).eval args s none [] s with
  | none => simp [Cond.before, Cond.holds, Cond.value, hv] at h
  | some w =>
    cases w with
    | ref q => exact ⟨q, rfl⟩
    | _ => cases hc : s.vm.findClass cls <;> simp [Cond.before, Cond.holds, Cond.value, hv, hc] at h
theorem ps_arr {ty : FieldType} {args : Array Value} {s : State} (h : (Cond.arrayClass ty).before args s = true) : ∃ cA : ClassId, ArrOfT s cA ty ∧ s.vm.findClass ("[" ++ ty.toString) = some cA := by
  obtain ⟨cA, kA, comp, h1, h2, h3⟩ := Cond.arrayClass_spec h
  exact ⟨cA, fun n z => ⟨fun k h => (by cases h), kA, h2, comp, h3⟩, h1⟩
theorem ps_arr2 {C : String} {args : Array Value} {s : State} (h : (Cond.arrayOver (.object C)).before args s = true) : ∃ cA : ClassId, ArrOfT s cA (.object C) ∧ va_RA s cA (.object C) := by
  obtain ⟨comp, cA, kA, h1, h2, h3, h4, h5⟩ := Cond.arrayOver_spec h
  exact ⟨cA, fun n z => ⟨fun k h => (by cases h), kA, h3, comp, h4⟩, kA, comp, h3, h4, h1, h5⟩
def ps_wx (ws : List Cond) (L : List Cond) : Bool := ws.all fun w => decide (w ∈ L)
theorem ps_wx_in {ws L : List Cond} (h : ps_wx ws L = true) : ∀ w ∈ ws, w ∈ L := fun w hw => of_decide_eq_true (List.all_eq_true.mp h w hw)
set_option maxRecDepth 100000 in
theorem ps_flat {args : Array Value} {s : State} (h : (Jvm.Cond.and given_1 narrow_1).before args s = true) : ∀ w ∈ ([.isRef (.static Bundle.tN "UNASSIGNED_STACK" Bundle.steD), .isRef (.static Bundle.tN "SUPPRESSED_SENTINEL" Bundle.listD), .not (.castable "java/lang/IllegalArgumentException" "java/lang/IllegalStateException"), .not (.castable "java/lang/IllegalArgumentException" "java/lang/IndexOutOfBoundsException"), .not (.castable "java/lang/IllegalStateException" "java/lang/IllegalArgumentException"), .not (.castable "java/lang/IllegalStateException" "java/lang/IndexOutOfBoundsException"), .not (.castable "java/lang/IndexOutOfBoundsException" "java/lang/IllegalArgumentException"), .not (.castable "java/lang/IndexOutOfBoundsException" "java/lang/IllegalStateException"), .exactly (.string "MoveOrder" 59) "java/lang/String", .exactly (.string "MoveOrder" 73) "java/lang/String", .exactly (.string "MoveOrder" 107) "java/lang/String", .exactly (.string "MoveOrder" 135) "java/lang/String", .exactly (.string "MoveOrder" 151) "java/lang/String", .exactly (.string "MoveOrder" 173) "java/lang/String", .exactly (.string "MoveOrder" 175) "java/lang/String", .exactly (.string "MoveOrder" 180) "java/lang/String", .exactly (.string "MoveOrder" 192) "java/lang/String"] : List Cond), w.before args s = true := by
  have hs := flat_of_before _ h
  exact fun w hw => hs w (ps_wx_in (by decide +kernel) w hw)
set_option maxRecDepth 100000 in
set_option maxHeartbeats 4000000 in
theorem ps_start {p : Program} {s : State} {m : MethodId} {meth : Method} {c : Code} {b L : Nat} {xs : Nat → Int32} (C0 : lw_At p s m meth c b L xs) : ∃ (D : va_G) (T : Nat → ClassId), px_K ps_V (some (b, L, xs)) (s.heap.size, s.heap, D, T) s := by
  obtain ⟨hx, hb, hr, hml, hown, hts, hX, hbl, hlocks, hgv, hcd, -, -⟩ := C0
  have hfl := ps_flat hgv
  have hwl : ∀ w ∈ ps_wl, w.before #[Value.ref b] s = true := fun w hw => by
    rcases List.mem_cons.mp hw with rfl | hw
    · exact hcd
    · exact hts w (List.mem_filter.mp hw).1
  obtain ⟨c0, i0, hK0⟩ := u_known (C := "MoveOrder") (T := ps_TMo) (N := 7) (n := 7) hwl oc_w0 (hts _ (List.mem_of_getElem? (i := 67) rfl))
  obtain ⟨c1, i1, hK1⟩ := u_known (C := "MoveOrder$Bay") (T := ps_TBay) (N := 7) (n := 7) hwl oc_w1 (hts _ (List.mem_of_getElem? (i := 84) rfl))
  obtain ⟨c2, i2, hK2⟩ := u_known (C := "MoveOrder$Box") (T := ps_TBox) (N := 5) (n := 5) hwl oc_w2 (hts _ (List.mem_of_getElem? (i := 202) rfl))
  obtain ⟨c3, i3, hK3⟩ := u_known (C := "MoveOrder$Search") (T := ps_TSea) (N := 14) (n := 14) hwl oc_w3 (hts _ (List.mem_of_getElem? (i := 120) rfl))
  obtain ⟨c4, i4, hK4⟩ := u_known (C := "MoveOrderModel") (T := ps_TRef) (N := 25) (n := 25) hwl oc_w4 (hts _ (List.mem_of_getElem? (i := 553) rfl))
  obtain ⟨t0, a0, b0⟩ := ps_arr (ty := .int) (hts _ (List.mem_of_getElem? (i := 118) rfl))
  obtain ⟨t1, a1, b1⟩ := ps_arr (ty := .long) (hts _ (List.mem_of_getElem? (i := 168) rfl))
  obtain ⟨t2, a2, b2⟩ := ps_arr (ty := .boolean) (hts _ (List.mem_of_getElem? (i := 634) rfl))
  obtain ⟨t3, a3, b3⟩ := ps_arr2 (C := "MoveOrder$Bay") (hts _ (List.mem_of_getElem? (i := 83) rfl))
  obtain ⟨t4, a4, b4⟩ := ps_arr2 (C := "MoveOrder$Box") (hts _ (List.mem_of_getElem? (i := 75) rfl))
  refine ⟨(fun k => match k with | 0 => c0 | 1 => c1 | 2 => c2 | 3 => c3 | _ => c4, fun k => match k with | 0 => i0 | 1 => i1 | 2 => i2 | 3 => i3 | _ => i4), fun k => match k with | 0 => t0 | 1 => t1 | 2 => t2 | 3 => t3 | _ => t4, ⟨?_, ?_⟩, ?_, ?_, ⟨(hts _ (List.mem_of_getElem? (i := 118) rfl)), (hts _ (List.mem_of_getElem? (i := 168) rfl)), (hts _ (List.mem_of_getElem? (i := 634) rfl))⟩, ?_, ?_, ?_, ?_, ?_⟩
  · intro k q hq
    match k, hq with
    | 0, hq => cases hq; exact hK0
    | 1, hq => cases hq; exact hK1
    | 2, hq => cases hq; exact hK2
    | 3, hq => cases hq; exact hK3
    | 4, hq => cases hq; exact hK4
    | k + 5, hq => simp [ps_cl] at hq
  · intro k q hq
    match k, hq with
    | 0, hq => cases hq; exact ⟨a0, b0⟩
    | 1, hq => cases hq; exact ⟨a1, b1⟩
    | 2, hq => cases hq; exact ⟨a2, b2⟩
    | 3, hq => cases hq; exact ⟨a3, b3⟩
    | 4, hq => cases hq; exact ⟨a4, b4⟩
    | k + 5, hq => simp [px_tys, ps_tyl] at hq
  · exact fun w hw => va_Nw.of (px_wb_on (List.all_eq_true.mp ps_wl_ok w hw)) (hwl w hw)
  · intro t C ht
    match t, ht with
    | 0, ht => cases ht
    | 1, ht => cases ht
    | 2, ht => cases ht
    | 3, ht => cases ht; exact va_AO.of (hts _ (List.mem_of_getElem? (i := 83) rfl))
    | 4, ht => cases ht; exact va_AO.of (hts _ (List.mem_of_getElem? (i := 75) rfl))
    | t + 5, ht => simp [ps_tyl] at ht
  · intro b9 N9 xs9 h9
    cases h9
    exact ⟨hbl, hX⟩
  · exact List.forall_mem_cons.mpr ⟨(ps_str (hfl _ (List.mem_of_getElem? (i := 8) rfl))).imp (fun q h => vk_R.of (hts _ (List.mem_of_getElem? (i := 293) rfl)) h), List.forall_mem_cons.mpr ⟨(ps_str (hfl _ (List.mem_of_getElem? (i := 9) rfl))).imp (fun q h => vk_R.of (hts _ (List.mem_of_getElem? (i := 341) rfl)) h), List.forall_mem_cons.mpr ⟨(ps_str (hfl _ (List.mem_of_getElem? (i := 10) rfl))).imp (fun q h => vk_R.of (hts _ (List.mem_of_getElem? (i := 384) rfl)) h), List.forall_mem_cons.mpr ⟨(ps_str (hfl _ (List.mem_of_getElem? (i := 11) rfl))).imp (fun q h => vk_R.of (hts _ (List.mem_of_getElem? (i := 474) rfl)) h), List.forall_mem_cons.mpr ⟨(ps_str (hfl _ (List.mem_of_getElem? (i := 12) rfl))).imp (fun q h => vk_R.of (hts _ (List.mem_of_getElem? (i := 488) rfl)) h), List.forall_mem_cons.mpr ⟨(ps_str (hfl _ (List.mem_of_getElem? (i := 13) rfl))).imp (fun q h => vk_R.of (hts _ (List.mem_of_getElem? (i := 515) rfl)) h), List.forall_mem_cons.mpr ⟨(ps_str (hfl _ (List.mem_of_getElem? (i := 14) rfl))).imp (fun q h => vk_R.of (hts _ (List.mem_of_getElem? (i := 516) rfl)) h), List.forall_mem_cons.mpr ⟨(ps_str (hfl _ (List.mem_of_getElem? (i := 15) rfl))).imp (fun q h => vk_R.of (hts _ (List.mem_of_getElem? (i := 535) rfl)) h), List.forall_mem_cons.mpr ⟨(ps_str (hfl _ (List.mem_of_getElem? (i := 16) rfl))).imp (fun q h => vk_R.of (hts _ (List.mem_of_getElem? (i := 551) rfl)) h), pk_nil⟩⟩⟩⟩⟩⟩⟩⟩⟩
  · exact List.forall_mem_cons.mpr ⟨va_Nc.of (hfl _ (List.mem_of_getElem? (i := 2) rfl)), List.forall_mem_cons.mpr ⟨va_Nc.of (hfl _ (List.mem_of_getElem? (i := 3) rfl)), List.forall_mem_cons.mpr ⟨va_Nc.of (hfl _ (List.mem_of_getElem? (i := 4) rfl)), List.forall_mem_cons.mpr ⟨va_Nc.of (hfl _ (List.mem_of_getElem? (i := 5) rfl)), List.forall_mem_cons.mpr ⟨va_Nc.of (hfl _ (List.mem_of_getElem? (i := 6) rfl)), List.forall_mem_cons.mpr ⟨va_Nc.of (hfl _ (List.mem_of_getElem? (i := 7) rfl)), pk_nil⟩⟩⟩⟩⟩⟩
  · exact vx_Zqof (hts _ (List.mem_of_getElem? (i := 279) rfl)) (hts _ (List.mem_of_getElem? (i := 59) rfl)) (hfl _ (List.mem_of_getElem? (i := 0) rfl)) (fun a ha h => absurd ha (Nat.not_lt.mpr h))
  · exact vx_Zqof (hts _ (List.mem_of_getElem? (i := 281) rfl)) (hts _ (List.mem_of_getElem? (i := 59) rfl)) (hfl _ (List.mem_of_getElem? (i := 1) rfl)) (fun a ha h => absurd ha (Nat.not_lt.mpr h))
