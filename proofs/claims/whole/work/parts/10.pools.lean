theorem pk_0 {V : px_V} {P : List px_M} {M0 : px_M} {idx ci : Nat} {kf : Int} (h : ∃ C T N, V.1[ci]? = some (C, T, N) ∧ kf.toNat < N ∧ (T kf.toNat).1 = C ∧ (Cond.fieldLink M0.2.1 idx C (T kf.toNat).2.1 (T kf.toNat).2.2.1 ∈ V.2.2.1 ∨ ∃ hs, Cond.fieldLinkNest M0.2.1 idx C (T kf.toNat).2.1 (T kf.toNat).2.2.1 hs ∈ V.2.2.1)) : px_pok V P M0 (idx, 0, ci, kf) := h
theorem pk_1 {V : px_V} {P : List px_M} {M0 : px_M} {idx j : Nat} {np : Int} (h : ∃ M, P[j]? = some M ∧ px_lnk V.2.2.1 M0.2.1 idx M np.toNat (px_fr M0) (px_lo M0) ∧ px_hh M = [] ∧ M.1.name = "<init>" ∧ M.2.2.2.2.1 = none ∧ Cond.instanceMethod M.1 ∈ V.2.2.1) : px_pok V P M0 (idx, 1, j, np) := h
theorem pk_2 {V : px_V} {P : List px_M} {M0 : px_M} {idx ci : Nat} {N : Int} (h : ∃ C T, V.1[ci]? = some (C, T, N.toNat) ∧ Cond.classLink M0.2.1 idx C ∈ V.2.2.1 ∧ Cond.instantiable C N.toNat ∈ V.2.2.1 ∧ Cond.initialized C ∈ V.2.2.1) : px_pok V P M0 (idx, 2, ci, N) := h
theorem pk_3 {V : px_V} {P : List px_M} {M0 : px_M} {idx t : Nat} {z : Int} (h : ∃ C, V.2.1[t]? = some (FieldType.object C) ∧ Cond.classLink M0.2.1 (idx - 65536) C ∈ V.2.2.1) : px_pok V P M0 (idx, 3, t, z) := h
theorem pk_5 {V : px_V} {P : List px_M} {M0 : px_M} {idx j : Nat} {np : Int} (h : ∃ M, P[j]? = some M ∧ px_lnk V.2.2.1 M0.2.1 idx M np.toNat (px_fr M0) (px_lo M0) ∧ Cond.static M.1 ∈ V.2.2.1 ∧ (px_hh M = [] ∨ Cond.methodLink M0.2.1 idx M.1 ∈ V.2.2.1)) : px_pok V P M0 (idx, 5, j, np) := h
theorem pk_6 {V : px_V} {P : List px_M} {M0 : px_M} {idx z : Nat} {w : Int} (h : Cond.methodLink M0.2.1 idx Lib.objectInit ∈ V.2.2.1 ∧ Cond.instanceMethod Lib.objectInit ∈ V.2.2.1 ∧ Cond.code Lib.objectInit ⟨#[0xb1]⟩ 1 none ∈ V.2.2.1 ∧ 1 ≤ px_fr M0 ∧ 20 ≤ px_lo M0) : px_pok V P M0 (idx, 6, z, w) := h
theorem pk_70 {V : px_V} {P : List px_M} {M0 : px_M} {idx : Nat} {w : Int} (h : Cond.methodLink M0.2.1 idx Lib.Math.max.name ∈ V.2.2.1 ∧ Cond.static Lib.Math.max.name ∈ V.2.2.1 ∧ Cond.initialized "java/lang/Math" ∈ V.2.2.1 ∧ Cond.code Lib.Math.max.name Lib.Math.max.code 2 (some .int) ∈ V.2.2.1 ∧ 1 ≤ px_fr M0 ∧ 21 ≤ px_lo M0) : px_pok V P M0 (idx, 7, 0, w) := h
theorem pk_71 {V : px_V} {P : List px_M} {M0 : px_M} {idx : Nat} {w : Int} (h : Cond.methodLink M0.2.1 idx Lib.Math.min.name ∈ V.2.2.1 ∧ Cond.static Lib.Math.min.name ∈ V.2.2.1 ∧ Cond.initialized "java/lang/Math" ∈ V.2.2.1 ∧ Cond.code Lib.Math.min.name Lib.Math.min.code 2 (some .int) ∈ V.2.2.1 ∧ 1 ≤ px_fr M0 ∧ 21 ≤ px_lo M0) : px_pok V P M0 (idx, 7, 1, w) := h
theorem pk_8 {V : px_V} {P : List px_M} {M0 : px_M} {ik kd : Nat} {ic : Int} (h : px_hh M0 = [] ∧ (∀ w ∈ Cond.classLink M0.2.1 ik (px_ex kd) :: Cond.initialized (px_ex kd) :: vx_atS M0.2.1 ic.toNat (px_ex kd) ["java/lang/RuntimeException", "java/lang/Exception"], w ∈ V.2.2.1) ∧ 6 ≤ px_fr M0 ∧ 82 ≤ px_lo M0 ∧
      ∀ q ∈ px_co M0, q.2.1 = .new ik → ∃ is tx, (M0.2.1, is, tx) ∈ V.2.2.2.1 ∧ decode M0.2.2.1 (q.1 + 3) = .ok (.dup, 1) ∧ decode M0.2.2.1 (q.1 + 4) = .ok (.ldc is, 2) ∧ decode M0.2.2.1 (q.1 + 6) = .ok (.invokespecial ic.toNat, 3) ∧ decode M0.2.2.1 (q.1 + 9) = .ok (.athrow, 1)) : px_pok V P M0 (ik, 8, kd, ic) := h
theorem pk_9 {V : px_V} {P : List px_M} {M0 : px_M} {idx z : Nat} {v : Int} (h : Cond.constantLong M0.2.1 idx (px_jc v) ∈ V.2.2.1) : px_pok V P M0 (idx, 9, z, v) := h
/-- the throws of a method, by its rows that make an exception -/
def pk_isn (ik : Nat) (q : Nat × Instr × Nat) : Bool := match q.2.1 with | .new j => Nat.beq j ik | _ => false
theorem pk_thr {co : List (Nat × Instr × Nat)} {ik : Nat} {Z : Nat × Instr × Nat → Prop} (h : ∀ q ∈ co.filter (pk_isn ik), Z q) : ∀ q ∈ co, q.2.1 = .new ik → Z q := fun q hq e => h q (List.mem_filter.mpr ⟨hq, by unfold pk_isn; rw [e]; exact Nat.beq_refl ik⟩)
def pk_isp (q : Nat × Instr × Nat) : Bool := match q.2.1 with | .putfield _ => true | _ => false
theorem pk_fin {V : px_V} {M : px_M} {co : List (Nat × Instr × Nat)} (h : ∀ q ∈ co.filter pk_isp, px_fin V M q.2.1) : ∀ q ∈ co, px_fin V M q.2.1 := by
  rintro ⟨pc, i, len⟩ hq
  by_cases hp : pk_isp (pc, i, len) = true
  · exact h _ (List.mem_filter.mpr ⟨hq, hp⟩)
  · cases i <;> first | trivial | (exact absurd rfl hp)
theorem pk_fn {V : px_V} {M : px_M} {idx ci0 : Nat} {kf0 : Int} {C0 : String} {T0 : u_T} {N0 : Nat} (hp0 : px_pl (px_po M) idx = some (0, ci0, kf0)) (hc0 : V.1[ci0]? = some (C0, T0, N0)) (h : (T0 kf0.toNat).2.2.2 = false) : px_fin V M (.putfield idx) := by
  intro ci kf C T N hp hc
  cases hp0.symm.trans hp
  cases hc0.symm.trans hc
  exact Or.inl h
theorem pk_ff {V : px_V} {M : px_M} {idx ci0 : Nat} {kf0 : Int} {C0 : String} {T0 : u_T} {N0 : Nat} (hp0 : px_pl (px_po M) idx = some (0, ci0, kf0)) (hc0 : V.1[ci0]? = some (C0, T0, N0)) (h : (T0 kf0.toNat).2.2.2 = true) (hn : M.1.name = "<init>") (hC : C0 = M.2.1) (hm : Cond.fieldLink M.2.1 idx C0 (T0 kf0.toNat).2.1 (T0 kf0.toNat).2.2.1 ∈ V.2.2.1) : px_fin V M (.putfield idx) := by
  intro ci kf C T N hp hc
  cases hp0.symm.trans hp
  cases hc0.symm.trans hc
  exact Or.inr ⟨h, hn, hC, hm⟩
def pk_db (M : px_M) : Bool := (px_co M).all fun q => decide (decode M.2.2.1 q.1 = .ok (q.2.1, q.2.2)) && px_chk M.2.2.2.1 q.1 q.2.1 q.2.2
theorem pk_co {V : px_V} {M : px_M} (h : pk_db M = true) (hf : ∀ q ∈ px_co M, px_fin V M q.2.1) : ∀ q ∈ px_co M, decode M.2.2.1 q.1 = .ok (q.2.1, q.2.2) ∧ px_chk M.2.2.2.1 q.1 q.2.1 q.2.2 = true ∧ px_fin V M q.2.1 := fun q hq => by
  have h1 := List.all_eq_true.mp h q hq
  rw [Bool.and_eq_true] at h1
  exact ⟨of_decide_eq_true h1.1, h1.2, hf q hq⟩
theorem pk_nil {α : Type} {Z : α → Prop} : ∀ q ∈ ([] : List α), Z q := fun _ h => nomatch h
theorem pw_all {L : List Cond} (h : L.all (fun w => decide (w ∈ lw_tbl) && px_wb w) = true) : ∀ w ∈ L, w ∈ ps_wl := fun w hw => by
  have h1 := List.all_eq_true.mp h w hw
  rw [Bool.and_eq_true] at h1
  exact List.mem_cons_of_mem _ (List.mem_filter.mpr ⟨of_decide_eq_true h1.1, h1.2⟩)
def pw_L_Mo_61 : List Cond := Cond.classLink "MoveOrder" 57 (px_ex 1) :: Cond.initialized (px_ex 1) :: vx_atS "MoveOrder" 61 (px_ex 1) ["java/lang/RuntimeException", "java/lang/Exception"]
theorem pw_Mo_61 : ∀ w ∈ pw_L_Mo_61, w ∈ ps_wl := pw_all (by decide +kernel)
def pw_L_Mo_75 : List Cond := Cond.classLink "MoveOrder" 71 (px_ex 2) :: Cond.initialized (px_ex 2) :: vx_atS "MoveOrder" 75 (px_ex 2) ["java/lang/RuntimeException", "java/lang/Exception"]
theorem pw_Mo_75 : ∀ w ∈ pw_L_Mo_75, w ∈ ps_wl := pw_all (by decide +kernel)
def pw_L_Mo_137 : List Cond := Cond.classLink "MoveOrder" 133 (px_ex 3) :: Cond.initialized (px_ex 3) :: vx_atS "MoveOrder" 137 (px_ex 3) ["java/lang/RuntimeException", "java/lang/Exception"]
theorem pw_Mo_137 : ∀ w ∈ pw_L_Mo_137, w ∈ ps_wl := pw_all (by decide +kernel)
