theorem px_lq {B a i : Nat} {locs : List Loc} (h : ∀ q ∈ locs, B ≤ q.base) (ha : B ≤ a) : ∀ q ∈ locs ++ [(⟨a, i⟩ : Loc)], B ≤ q.base := by
  intro q hq
  rcases List.mem_append.mp hq with h1 | h1
  · exact h q h1
  · rw [List.mem_singleton] at h1
    subst h1
    exact ha
section PXR
variable {p : Program} {l : Launch} {e : Env} {R : Room} {s : State} {m : MethodId} {args : Array Value} {below : List Frame} {meth : Method} {c : Code} {H : Heap} {locs : List Loc} {cells slots : Nat} {Q : State → Prop}
variable {cc : ByteArray} {pc : Nat} {ls : Array Slot} {rest : List Value} {cl : List vw_C} {tyl : List FieldType} {G : px_G} {C F : px_P} {a : Nat}
theorem px_mono {Q' : State → Prop} {g : JFrame} (h : ∀ t, Q t → Q' t) (k : W p l e R s m args below meth c H locs cells slots Q g) : W p l e R s m args below meth c H locs cells slots Q' g := fun T hT X => by
  obtain ⟨t, a, b⟩ := k T hT X
  exact ⟨t, a, h t b⟩
theorem px_iast (hexec : p.tables.exec = Jvm.exec) (hb : c.code = cc) (hK : va_K G.2.2.1 cl (px_tys tyl G.2.2.2) s) (hH : px_H cl G C F H) (hlo : ∀ q ∈ locs, G.1 ≤ q.base) (ht : tyl[0]? = some .int) {n : Nat} {f : Nat → Int32} (ha : C a = some (px_i n f)) {i x : Int32} (hin : vp_in i n) (hdg : decode cc pc = .ok (.iastore, 1))
    (kk : ∀ (H1 : Heap) (locs1 : List Loc), px_H cl G (px_up C a (px_i n (upd f i.toNatClampNeg x))) F H1 → (∀ q ∈ locs1, G.1 ≤ q.base) → W p l e R s m args below meth c H1 locs1 cells slots Q (F0 m (pc + 1) ls rest)) : W p l e R s m args below meth c H locs cells slots Q (F0 m pc ls (.int x :: .int i :: .ref a :: rest)) := by
  have hc : H[a]? = some (arrV (G.2.2.2 0) n (fun j => .int (f j))) := (hH.2.2.1 a _ ha).2
  refine W.iast hexec hb hc ((hK.2 0 _ (px_tys_at ht)).1 n (fun j => .int (f j))) (fun q => by cases q) (by rw [arrV_size]; exact hin) rfl rfl hdg fun H1 e1 z oq => ?_
  refine kk H1 _ (hH.put ha z oq ?_) (px_lq hlo (hH.2.2.1 a _ ha).1)
  show H1[a]? = some (arrV (G.2.2.2 0) n (fun j => .int (upd f i.toNatClampNeg x j)))
  rw [e1, arrV_store]
  congr 2
  funext q
  by_cases hq : q = i.toNatClampNeg
  · subst hq
    simp [updV, upd]
  · simp [updV, upd, hq]
theorem px_zast (hexec : p.tables.exec = Jvm.exec) (hb : c.code = cc) (hK : va_K G.2.2.1 cl (px_tys tyl G.2.2.2) s) (hH : px_H cl G C F H) (hlo : ∀ q ∈ locs, G.1 ≤ q.base) (ht : tyl[2]? = some .boolean) {n : Nat} {f : Nat → Int32} (ha : C a = some (px_z n f)) {i x : Int32} (hin : vp_in i n) (hdg : decode cc pc = .ok (.bastore, 1))
    (kk : ∀ (H1 : Heap) (locs1 : List Loc), px_H cl G (px_up C a (px_z n (upd f i.toNatClampNeg (vp_nar .boolean x)))) F H1 → (∀ q ∈ locs1, G.1 ≤ q.base) → W p l e R s m args below meth c H1 locs1 cells slots Q (F0 m (pc + 1) ls rest)) : W p l e R s m args below meth c H locs cells slots Q (F0 m pc ls (.int x :: .int i :: .ref a :: rest)) := by
  have hc : H[a]? = some (arrV (G.2.2.2 2) n (fun j => .int (f j))) := (hH.2.2.1 a _ ha).2
  refine W.zast hexec hb hc ((hK.2 2 _ (px_tys_at ht)).1 n (fun j => .int (f j))) (fun q => by cases q) (by rw [arrV_size]; exact hin) rfl rfl hdg fun H1 e1 z oq => ?_
  refine kk H1 _ (hH.put ha z oq ?_) (px_lq hlo (hH.2.2.1 a _ ha).1)
  show H1[a]? = some (arrV (G.2.2.2 2) n (fun j => .int (upd f i.toNatClampNeg (vp_nar .boolean x) j)))
  rw [e1, arrV_store]
  congr 2
  funext q
  by_cases hq : q = i.toNatClampNeg
  · subst hq
    simp [updV, upd, vp_nar]
    try rfl
  · simp [updV, upd, hq]
theorem px_last (hexec : p.tables.exec = Jvm.exec) (hb : c.code = cc) (hK : va_K G.2.2.1 cl (px_tys tyl G.2.2.2) s) (hH : px_H cl G C F H) (hlo : ∀ q ∈ locs, G.1 ≤ q.base) (ht : tyl[1]? = some .long) {n : Nat} {f : Nat → Int64} (ha : C a = some (px_j n f)) {i : Int32} {x : Int64} (hin : vp_in i n) (hdg : decode cc pc = .ok (.lastore, 1))
    (kk : ∀ (H1 : Heap) (locs1 : List Loc), px_H cl G (px_up C a (px_j n (vp_updL f i.toNatClampNeg x))) F H1 → (∀ q ∈ locs1, G.1 ≤ q.base) → W p l e R s m args below meth c H1 locs1 cells slots Q (F0 m (pc + 1) ls rest)) : W p l e R s m args below meth c H locs cells slots Q (F0 m pc ls (.long x :: .int i :: .ref a :: rest)) := by
  have hc : H[a]? = some (arrV (G.2.2.2 1) n (fun j => .long (f j))) := (hH.2.2.1 a _ ha).2
  refine W.last hexec hb hc ((hK.2 1 _ (px_tys_at ht)).1 n (fun j => .long (f j))) (fun q => by cases q) (by rw [arrV_size]; exact hin) rfl rfl hdg fun H1 e1 z oq => ?_
  refine kk H1 _ (hH.put ha z oq ?_) (px_lq hlo (hH.2.2.1 a _ ha).1)
  show H1[a]? = some (arrV (G.2.2.2 1) n (fun j => .long (vp_updL f i.toNatClampNeg x j)))
  rw [e1, arrV_store]
  congr 2
  funext q
  by_cases hq : q = i.toNatClampNeg
  · subst hq
    simp [updV, vp_updL]
  · simp [updV, vp_updL, hq]
theorem px_aast (hexec : p.tables.exec = Jvm.exec) (hb : c.code = cc) (hK : va_K G.2.2.1 cl (px_tys tyl G.2.2.2) s) (hH : px_H cl G C F H) (hlo : ∀ q ∈ locs, G.1 ≤ q.base) {t n ci v : Nat} {r : vw_C} {vs : List Value} {f : Nat → Option Nat} (ha : C a = some (px_r t n f)) (ht : tyl[t]? = some (.object r.1)) (hv : C v = some (px_o ci vs)) (hc : cl[ci]? = some r) {i : Int32} (hin : vp_in i n) (hdg : decode cc pc = .ok (.aastore, 1))
    (kk : ∀ (H1 : Heap) (locs1 : List Loc), px_H cl G (px_up C a (px_r t n (va_up f i.toNatClampNeg (some v)))) F H1 → (∀ q ∈ locs1, G.1 ≤ q.base) → W p l e R s m args below meth c H1 locs1 cells slots Q (F0 m (pc + 1) ls rest)) : W p l e R s m args below meth c H locs cells slots Q (F0 m pc ls (.ref v :: .int i :: .ref a :: rest)) := by
  have hlt : i.toNatClampNeg < n := Nat.not_le.mp fun q => hin (Or.inr q)
  have h0 : ¬ i < 0 := fun q => hin (Or.inl q)
  obtain ⟨r', hr', cellV, g1, g2, g3, -⟩ := (hH.2.2.1 v _ hv).2
  have hcls := (hK.1 ci r hc).2
  obtain ⟨kA, comp, k1, k2, k3, -⟩ := (hK.2 t _ (px_tys_at ht)).2
  have hcomp : comp = G.2.2.1.1 ci := Option.some.inj (k3.symm.trans hcls.1)
  subst hcomp
  obtain ⟨kC, hkC, -⟩ := hcls.2
  have hca : H[a]? = some (arrV (G.2.2.2 t) n (fun j => va_rf (f j))) := (hH.2.2.1 a _ ha).2
  refine W.aast hexec hb hca (fun q h => by cases h) (fun h => by cases h) k1 k2 rfl hkC ⟨h0, by rw [arrV_size]; exact hlt⟩ g1 (fun q h => by rw [g3] at h; cases h) (by rw [g2]; exact hkC) (by rw [g2]; exact va_assign hcls) rfl rfl hdg fun H1 e1 z oq => ?_
  refine kk H1 _ (hH.put ha z oq ?_) (px_lq hlo (hH.2.2.1 a _ ha).1)
  show H1[a]? = some (arrV (G.2.2.2 t) n (fun j => va_rf (va_up f i.toNatClampNeg (some v) j)))
  rw [e1, arrV_store]
  congr 2
  funext q
  by_cases hq : q = i.toNatClampNeg
  · subst hq
    simp [updV, va_up, va_rf]
  · simp [updV, va_up, hq]
theorem px_put (hexec : p.tables.exec = Jvm.exec) (hb : c.code = cc) {own C0 : String} {T : u_T} {N ci index : Nat} {Ts : List Cond} (hts : ∀ w ∈ Ts, w.before args s = true) (hin : ∀ w ∈ u_ws C0 T N, w ∈ Ts) (ty0 : Nat → FieldType) (hty : ∀ k, k < N → parseFieldDescriptor (T k).2.2.1 = some (ty0 k)) (hnm : ∀ a, a < N → ∀ b, b < N → a ≠ b → (T a).2.1 ≠ (T b).2.1) (hown : s.vm.findClass own = some m.cls)
    (hK : va_K G.2.2.1 cl (px_tys tyl G.2.2.2) s) (hH : px_H cl G C F H) (hlo : ∀ q ∈ locs, G.1 ≤ q.base) {fs : List Value} (he : C a = some (px_o ci fs)) (hc : cl[ci]? = some (C0, T, N)) (k : Nat) (hk : k < N)
    (hlink : (Cond.fieldLink own index C0 (T k).2.1 (T k).2.2.1).before args s = true ∨ ∃ host, (Cond.fieldLinkNest own index C0 (T k).2.1 (T k).2.2.1 host).before args s = true) (hsame : (T k).1 = C0)
    (hfin : (T k).2.2.2 = false ∨ ((T k).2.2.2 = true ∧ meth.name = "<init>" ∧ C0 = own ∧ (Cond.fieldLink own index C0 (T k).2.1 (T k).2.2.1).before args s = true)) {v : Value} (hn : narrow (ty0 k) v = v) (hfit : fits (ty0 k) v = true) (hl : k < fs.length) (hdg : decode cc pc = .ok (.putfield index, 3))
    (kk : ∀ (H1 : Heap) (locs1 : List Loc), px_H cl G (px_up C a (px_o ci (fs.set k v))) F H1 → (∀ q ∈ locs1, G.1 ≤ q.base) → W p l e R s m args below meth c H1 locs1 cells slots Q (F0 m (pc + 3) ls rest)) : W p l e R s m args below meth c H locs cells slots Q (F0 m pc ls (v :: .ref a :: rest)) := by
  have hap := va_apart (own := own) hts hin ty0 hty hnm hK hc
  obtain ⟨r, h1, cell, q1, q2, q3, q4⟩ := (hH.2.2.1 a _ he).2
  have hr : r = (C0, T, N) := Option.some.inj (h1.symm.trans hc)
  subst hr
  obtain ⟨hS, hfc, kC, hkC, hkind⟩ := hK.1 ci _ hc
  obtain ⟨cf, kf, fi, f, hi, hsl⟩ := hS k hk
  have hi2 : s.fieldFound? C0 (T k).2.1 (T k).2.2.1 = some (cf, kf, fi, f) := by rw [hsame] at hi; exact hi
  have hlay := hts _ (hin _ (u_in_lay hk))
  have hst := (u_facts hfc hkC (u_lays hts hin hk) hi).1
  have hd := hty k hk
  have fin : ∀ H' : Heap, H'[a]? = some (cell.setSlot f.slot v) → H'.size = H.size → (∀ q : Nat, q ≠ a → H'[q]? = H[q]?) → W p l e R s m args below meth c H' (locs ++ [⟨a, f.slot⟩]) cells slots Q (F0 m (pc + 3) ls rest) := by
    intro H' e1 e2 e3
    rw [hsl] at e1 ⊢
    exact kk H' _ (hH.put he e2 e3 ⟨_, hc, t_OB.to (V := updV (vp_V fs) k v) ⟨_, e1, q2, q3, t_set q4 hap hk v⟩ (fun j _ => vp_updV_set hl v j)⟩) (px_lq hlo (hH.2.2.1 a _ he).1)
  rcases hfin with hfin | ⟨hfin, hin2, hdecl, hl2⟩
  · unfold u_lay at hlay
    rw [if_neg (by rw [hfin]; decide)] at hlay
    have h6 := u_store hfc hkC hkind hlay hi hd hn hfit
    rcases hlink with hlink | ⟨host, hlink⟩
    · exact W.putK hexec hb (f := f) ⟨hown, hlink, ⟨_, _, _, hi2⟩, hst⟩ (by rw [q2]; exact h6) q1 q3 (by rw [hsl]; exact k2_hasslot (q4 k hk)) rfl rfl hdg fin
    · exact va_WputK hexec hb (f := f) hown hlink hi2 hst (by rw [q2]; exact h6) q1 q3 (by rw [hsl]; exact k2_hasslot (q4 k hk)) rfl rfl hdg fin
  · unfold u_lay at hlay
    rw [if_pos hfin] at hlay
    have hcf : m.cls = cf := by
      obtain ⟨_, _, c', _, _, _, -, -, hf', -, -, -, hown2, -⟩ := Cond.laysFinal_spec hlay
      have e1 : c' = cf := by have := hi.symm.trans hf'; simp at this; exact this.1.symm
      rw [hsame, hdecl] at hown2
      rw [← e1]; exact Option.some.inj (hown.symm.trans hown2)
    have h6 := u_fits hfc hkC hkind (Or.inr hlay) hi hd hn hfit
    exact W.putFinK hexec hb hown hl2 hi2 hst hcf hin2 (by rw [q2]; exact h6) q1 q3 (by rw [hsl]; exact k2_hasslot (q4 k hk)) rfl rfl hdg fin
theorem px_get (hexec : p.tables.exec = Jvm.exec) (hb : c.code = cc) {own C0 : String} {T : u_T} {N ci index : Nat} {Ts : List Cond} (hts : ∀ w ∈ Ts, w.before args s = true) (hin : ∀ w ∈ u_ws C0 T N, w ∈ Ts) (hown : s.vm.findClass own = some m.cls)
    (hK : va_K G.2.2.1 cl (px_tys tyl G.2.2.2) s) (hH : px_H cl G C F H) {fs : List Value} (he : C a = some (px_o ci fs)) (hc : cl[ci]? = some (C0, T, N)) (k : Nat) (hk : k < N)
    (hlink : (Cond.fieldLink own index C0 (T k).2.1 (T k).2.2.1).before args s = true ∨ ∃ host, (Cond.fieldLinkNest own index C0 (T k).2.1 (T k).2.2.1 host).before args s = true) (hsame : (T k).1 = C0) {v : Value} (hv : fs[k]? = some v) (hdg : decode cc pc = .ok (.getfield index, 3))
    (kk : W p l e R s m args below meth c H locs cells slots Q (F0 m (pc + 3) ls (v :: rest))) : W p l e R s m args below meth c H locs cells slots Q (F0 m pc ls (.ref a :: rest)) := by
  have hP : va_P G.2.2.1 cl [(a, .inr (ci, fs))] H := hH.one he
  rcases hlink with hlink | ⟨host, hlink⟩
  · exact va_get hexec hb hts hin hown hK hP 0 rfl hc k hk hlink (fun x h => by rw [hsame] at h; exact h) hv hdg kk
  · exact va_getN hexec hb hts hin hown hK hP 0 rfl hc k hk hlink (fun x h => by rw [hsame] at h; exact h) hv hdg kk
end PXR
def px_chk (nL pc : Nat) (i : Instr) (len : Nat) : Bool := match i with
  | .tableswitch d lo hi offs => decide (0 ≤ (pc : Int) + d) && decide (0 ≤ lo) && decide (hi + 1 = lo + offs.size) && decide (hi < 1000) && offs.toList.all (fun o => decide (0 ≤ (pc : Int) + o))
  | .ifCond _ off => Nat.beq len 3 && decide (0 ≤ (pc : Int) + off)
  | .if_icmp _ off => Nat.beq len 3 && decide (0 ≤ (pc : Int) + off)
  | .ifnull off => Nat.beq len 3 && decide (0 ≤ (pc : Int) + off)
  | .ifnonnull off => Nat.beq len 3 && decide (0 ≤ (pc : Int) + off)
  | .goto off => Nat.beq len 3 && decide (0 ≤ (pc : Int) + off)
  | .iconst v => Nat.beq len 1 && decide (Int32.ofInt v = px_ic v)
  | .bipush v => Nat.beq len 2 && decide ((Int8.ofInt v).toInt32 = px_ic v)
  | .sipush v => Nat.beq len 3 && decide ((Int16.ofInt v).toInt32 = px_ic v)
  | .iinc a v => Nat.beq len 3 && decide (a < nL ∧ Int32.ofInt v = px_ic v)
  | .istore a => Nat.beq len 2 && decide (a < nL)
  | .astore a => Nat.beq len 2 && decide (a < nL)
  | .istore_n a => Nat.beq len 1 && decide (a.val < nL)
  | .astore_n a => Nat.beq len 1 && decide (a.val < nL)
  | .lstore a => Nat.beq len 2 && decide (a + 1 < nL)
  | .lstore_n a => Nat.beq len 1 && decide (a.val + 1 < nL)
  | .iload _ => Nat.beq len 2
  | .aload _ => Nat.beq len 2
  | .lload _ => Nat.beq len 2
  | .ldc _ => Nat.beq len 2
  | .newarray _ => Nat.beq len 2
  | .ldc2_w _ => Nat.beq len 3
  | .getfield _ => Nat.beq len 3
  | .putfield _ => Nat.beq len 3
  | .new _ => Nat.beq len 3
  | .anewarray _ => Nat.beq len 3
  | .invokespecial _ => Nat.beq len 3
  | .invokevirtual _ => Nat.beq len 3
  | .invokestatic _ => Nat.beq len 3
  | _ => Nat.beq len 1
theorem px_b1 {x n : Nat} (h : Nat.beq x n = true) : x = n := Nat.eq_of_beq_eq_true h
theorem px_b2 {x n : Nat} {q : Prop} [Decidable q] (h : (Nat.beq x n && decide q) = true) : x = n ∧ q := by
  rw [Bool.and_eq_true] at h
  exact ⟨px_b1 h.1, of_decide_eq_true h.2⟩
/-- the word of a method's code -/
def px_cw (M : px_M) : Cond := match px_hh M with
  | [] => Cond.code M.1 M.2.2.1 M.2.2.2.1 M.2.2.2.2.1
  | q :: r => Cond.codeWith M.1 M.2.2.1 M.2.2.2.1 M.2.2.2.2.1 (q :: r)
/-- the class of a thrown thing, by its kind -/
def px_ex (kd : Nat) : String := match kd with
  | 1 => "java/lang/IllegalArgumentException"
  | 2 => "java/lang/IllegalStateException"
  | _ => "java/lang/IndexOutOfBoundsException"
/-- a method of the list, as the caller's pool names it -/
def px_lnk (wl : List Cond) (own : String) (idx : Nat) (M : px_M) (np fr lo : Nat) : Prop :=
  (Cond.methodLink own idx M.1 ∈ wl ∨ ∃ hs, Cond.methodLinkNest own idx M.1 hs ∈ wl) ∧ Cond.initialized M.1.cls ∈ wl ∧ (M.1.cls ≠ "java/lang/invoke/MethodHandle" ∧ M.1.cls ≠ "java/lang/invoke/VarHandle" ∧ (parseMethodDescriptor M.1.desc).map (fun d => d.parameters.length) = some np) ∧ px_fr M + 1 ≤ fr ∧ 8 + (M.2.2.2.1 + 11) + px_lo M ≤ lo
def px_pok (V : px_V) (P : List px_M) (M0 : px_M) (e : Nat × Nat × Nat × Int) : Prop := match e with
  | (idx, 0, ci, kf) => ∃ C T N, V.1[ci]? = some (C, T, N) ∧ kf.toNat < N ∧ (T kf.toNat).1 = C ∧ (Cond.fieldLink M0.2.1 idx C (T kf.toNat).2.1 (T kf.toNat).2.2.1 ∈ V.2.2.1 ∨ ∃ hs, Cond.fieldLinkNest M0.2.1 idx C (T kf.toNat).2.1 (T kf.toNat).2.2.1 hs ∈ V.2.2.1)
  | (idx, 1, j, np) => ∃ M, P[j]? = some M ∧ px_lnk V.2.2.1 M0.2.1 idx M np.toNat (px_fr M0) (px_lo M0) ∧ px_hh M = [] ∧ M.1.name = "<init>" ∧ M.2.2.2.2.1 = none ∧ Cond.instanceMethod M.1 ∈ V.2.2.1
  | (idx, 2, ci, N) => ∃ C T, V.1[ci]? = some (C, T, N.toNat) ∧ Cond.classLink M0.2.1 idx C ∈ V.2.2.1 ∧ Cond.instantiable C N.toNat ∈ V.2.2.1 ∧ Cond.initialized C ∈ V.2.2.1
  | (idx, 3, t, _) => ∃ C, V.2.1[t]? = some (FieldType.object C) ∧ Cond.classLink M0.2.1 (idx - 65536) C ∈ V.2.2.1
  | (idx, 4, _, v) => Cond.constant M0.2.1 idx (px_ic v) ∈ V.2.2.1
  | (idx, 5, j, np) => ∃ M, P[j]? = some M ∧ px_lnk V.2.2.1 M0.2.1 idx M np.toNat (px_fr M0) (px_lo M0) ∧ Cond.static M.1 ∈ V.2.2.1 ∧ (px_hh M = [] ∨ Cond.methodLink M0.2.1 idx M.1 ∈ V.2.2.1)
  | (idx, 6, _, _) => Cond.methodLink M0.2.1 idx Lib.objectInit ∈ V.2.2.1 ∧ Cond.instanceMethod Lib.objectInit ∈ V.2.2.1 ∧ Cond.code Lib.objectInit ⟨#[0xb1]⟩ 1 none ∈ V.2.2.1 ∧ 1 ≤ px_fr M0 ∧ 20 ≤ px_lo M0
  | (idx, 7, 0, _) => Cond.methodLink M0.2.1 idx Lib.Math.max.name ∈ V.2.2.1 ∧ Cond.static Lib.Math.max.name ∈ V.2.2.1 ∧ Cond.initialized "java/lang/Math" ∈ V.2.2.1 ∧ Cond.code Lib.Math.max.name Lib.Math.max.code 2 (some .int) ∈ V.2.2.1 ∧ 1 ≤ px_fr M0 ∧ 21 ≤ px_lo M0
  | (idx, 7, 1, _) => Cond.methodLink M0.2.1 idx Lib.Math.min.name ∈ V.2.2.1 ∧ Cond.static Lib.Math.min.name ∈ V.2.2.1 ∧ Cond.initialized "java/lang/Math" ∈ V.2.2.1 ∧ Cond.code Lib.Math.min.name Lib.Math.min.code 2 (some .int) ∈ V.2.2.1 ∧ 1 ≤ px_fr M0 ∧ 21 ≤ px_lo M0
  | (ik, 8, kd, ic) => px_hh M0 = [] ∧ (∀ w ∈ Cond.classLink M0.2.1 ik (px_ex kd) :: Cond.initialized (px_ex kd) :: vx_atS M0.2.1 ic.toNat (px_ex kd) ["java/lang/RuntimeException", "java/lang/Exception"], w ∈ V.2.2.1) ∧ 6 ≤ px_fr M0 ∧ 82 ≤ px_lo M0 ∧
      ∀ q ∈ px_co M0, q.2.1 = .new ik → ∃ is tx, (M0.2.1, is, tx) ∈ V.2.2.2.1 ∧ decode M0.2.2.1 (q.1 + 3) = .ok (.dup, 1) ∧ decode M0.2.2.1 (q.1 + 4) = .ok (.ldc is, 2) ∧ decode M0.2.2.1 (q.1 + 6) = .ok (.invokespecial ic.toNat, 3) ∧ decode M0.2.2.1 (q.1 + 9) = .ok (.athrow, 1)
  | (idx, 9, _, v) => Cond.constantLong M0.2.1 idx (px_jc v) ∈ V.2.2.1
  | (ix, kd + 30, _, _) => Cond.classLink M0.2.1 ix (px_ex kd) ∈ V.2.2.1
  | (idx, ci + 20, j, np) => ∃ M T N, P[j]? = some M ∧ px_lnk V.2.2.1 M0.2.1 idx M np.toNat (px_fr M0) (px_lo M0) ∧ px_hh M = [] ∧ Cond.methodLink M0.2.1 idx M.1 ∈ V.2.2.1 ∧ Cond.instanceMethod M.1 ∈ V.2.2.1 ∧ Cond.selects M.1.cls M.1 M.1 ∈ V.2.2.1 ∧ V.1[ci]? = some (M.1.cls, T, N)
  | (idx, ci + 10, j, np) => ∃ M T N, P[j]? = some M ∧ px_lnk V.2.2.1 M0.2.1 idx M np.toNat (px_fr M0) (px_lo M0) ∧ px_hh M = [] ∧ Cond.instanceMethod M.1 ∈ V.2.2.1 ∧ Cond.selects M.1.cls M.1 M.1 ∈ V.2.2.1 ∧ V.1[ci]? = some (M.1.cls, T, N)
  | _ => False
/-- what a put of a final field asks -/
def px_fin (V : px_V) (M : px_M) (i : Instr) : Prop := match i with
  | .putfield idx => ∀ ci kf C T N, px_pl (px_po M) idx = some (0, ci, kf) → V.1[ci]? = some (C, T, N) → (T kf.toNat).2.2.2 = false ∨ ((T kf.toNat).2.2.2 = true ∧ M.1.name = "<init>" ∧ C = M.2.1 ∧ Cond.fieldLink M.2.1 idx C (T kf.toNat).2.1 (T kf.toNat).2.2.1 ∈ V.2.2.1)
  | _ => True
/-- a handler's row: its class is named by the pool, and what is thrown at other rows' classes passes it -/
def px_hok (V : px_V) (M : px_M) (z : Nat × Nat × Nat × Nat) : Prop := z.2.2.2 ≠ 0 ∧ ∃ kd, px_pl (px_po M) z.2.2.2 = some (kd + 30, 0, 0) ∧ (kd = 1 ∨ kd = 2 ∨ kd = 3)
def px_okM (V : px_V) (P : List px_M) (M : px_M) : Prop :=
  (∀ q ∈ px_co M, decode M.2.2.1 q.1 = .ok (q.2.1, q.2.2) ∧ px_chk M.2.2.2.1 q.1 q.2.1 q.2.2 = true ∧ px_fin V M q.2.1) ∧ (∀ e ∈ px_po M, px_pok V P M e) ∧ (∀ z ∈ px_hh M, px_hok V M z) ∧ M.1.cls = M.2.1 ∧ plainName M.1.cls = true ∧ px_cw M ∈ V.2.2.1
def px_okC (V : px_V) (Y : px_L) : Prop :=
  (∀ ci C T N, V.1[ci]? = some (C, T, N) → (∀ w ∈ u_ws C T N, w ∈ V.2.2.1) ∧ (∀ k, k < N → parseFieldDescriptor (T k).2.2.1 = some (Y.1 ci k)) ∧ (∀ a, a < N → ∀ b, b < N → a ≠ b → (T a).2.1 ≠ (T b).2.1) ∧ (∀ j, j < N → defaultValue (Y.1 ci j) = vp_V (Y.2.1 ci) j)) ∧
  V.2.1[0]? = some .int ∧ V.2.1[1]? = some .long ∧ V.2.1[2]? = some .boolean ∧ (∀ t, 3 ≤ t ∧ t < Y.2.2.2 → ∃ r, V.1[Y.2.2.1 t]? = some r ∧ V.2.1[t]? = some (FieldType.object r.1)) ∧ V.2.2.1.all px_wb = true ∧
  (∀ k1 k2, (k1 = 1 ∨ k1 = 2 ∨ k1 = 3) → (k2 = 1 ∨ k2 = 2 ∨ k2 = 3) → (k1 = k2 → Cond.castable (px_ex k1) (px_ex k2) ∈ V.2.2.1) ∧ (k1 ≠ k2 → (px_ex k1, px_ex k2) ∈ V.2.2.2.2))
def px_Pc (V : px_V) (sc : Option (Nat × Nat × (Nat → Int32))) (G : px_G) (F : px_P) (av : List Value) (C : px_P) : Array Value → State → Prop := fun v U => v = av.toArray ∧ px_H V.1 G C F U.heap ∧ px_K V sc G U
def px_Q (cl : List vw_C) (G : px_G) (F : px_P) (Po : Option Value → px_P → Prop) : Array Value → State → Outcome → State → Prop := fun _ _ o t => ∃ v C', o = .returned v ∧ Po v C' ∧ px_H cl G C' F t.heap
def px_X (cl : List vw_C) (G : px_G) (F : px_P) (Pt : Nat → px_P → Prop) : String → State → State → Prop := fun E _ t => ∃ kd C', E = px_ex kd ∧ Pt kd C' ∧ px_H cl G C' F t.heap
theorem px_blind {V : px_V} {sc : Option (Nat × Nat × (Nat → Int32))} {G : px_G} {F : px_P} {av : List Value} {C : px_P} (hwl : V.2.2.1.all px_wb = true) : FrameBlind (px_Pc V sc G F av C) := fun a U g mk q =>
  ⟨q.1, q.2.1, px_K.moved (U := U.calling g mk a) hwl (State.WarmedH.refl U) q.2.2⟩
/-- one that never throws -/
theorem px_met {l : Launch} {y : MethodName} {ws : List Cond} {rm : Room} {Pc : Array Value → State → Prop} {Qc : Array Value → State → Outcome → State → Prop} {cl : List vw_C} {G : px_G} {F : px_P} {mc ms : Nat} {free : Addr → Prop} (h : vx_Met l y ws rm Pc Qc (px_X cl G F (fun _ _ => False)) mc ms free) : Met l y ws rm Pc Qc mc ms free := by
  intro p e ha hc hk s m args below hf hap hP hK
  obtain ⟨n, o, h1, h2, h3, hq⟩ := h p e ha hc hk s m args below hf hap hP hK
  rcases hq with hq | ⟨q, -, E, ce, L, ⟨kd, C', -, hx, -⟩, -⟩
  · exact ⟨n, o, h1, h2, h3, hq⟩
  · exact hx.elim
theorem px_tg_ok {pc : Nat} {off : Int} (h : 0 ≤ (pc : Int) + off) : (pc : Int) + off = (px_tg pc off : Nat) := (Int.toNat_of_nonneg h).symm
theorem px_sw_ok {pc : Nat} {x : Int32} {Z : Nat → Prop} {d : Int} : ∀ (offs : List Int) (lo : Nat), lo + offs.length ≤ 5000 → px_sw pc x Z d lo offs → (∀ j o, offs[j]? = some o → x = nI (lo + j) → Z (px_tg pc o)) ∧ ((∀ j, j < offs.length → ¬ x = nI (lo + j)) → Z (px_tg pc d))
  | [], lo, _, h => ⟨fun j o hj => by simp at hj, fun _ => h⟩
  | o :: r, lo, hb, h => by
    have h2 : (x = nI lo → Z (px_tg pc o)) ∧ (¬ x = nI lo → px_sw pc x Z d (lo + 1) r) := h
    have hb2 : lo + r.length + 1 ≤ 5000 := by simpa [Nat.add_assoc] using hb
    refine ⟨fun j o' hj hx => ?_, fun hn => ?_⟩
    · by_cases h0 : x = nI lo
      · cases j with
        | zero =>
          cases hj
          exact h2.1 h0
        | succ j =>
          exfalso
          have hj2 : r[j]? = some o' := hj
          have hjl : j < r.length := (List.getElem?_eq_some_iff.mp hj2).1
          have := (nI_eq (by omega) (by omega)).mp (h0.symm.trans hx)
          omega
      · cases j with
        | zero => exact absurd hx h0
        | succ j => exact (px_sw_ok r (lo + 1) (by omega) (h2.2 h0)).1 j o' hj (by rw [hx]; congr 1; omega)
    · have h0 : ¬ x = nI lo := hn 0 (by simp)
      exact (px_sw_ok r (lo + 1) (by omega) (h2.2 h0)).2 (fun j hj hx => hn (j + 1) (by simp; omega) (by rw [hx]; congr 1; omega))
theorem px_wb_on {w : Cond} (h : px_wb w = true) : w.onTables = true := by
  unfold px_wb at h
  rw [Bool.or_eq_true, Bool.and_eq_true] at h
  rcases h with h | h
  · exact h.1
  · cases w <;> first | rfl | (cases h)
theorem px_use {w : Cond} {args : Array Value} {s : State} (h : px_wb w = true) (hw : va_Nw w s) : w.before args s = true := va_Nw.use (px_wb_on h) hw
theorem px_useA {ty : FieldType} {args : Array Value} {s : State} (h : (Cond.arrayClass ty).before #[] s = true) : (Cond.arrayClass ty).before args s = true := h
section PXS
variable {p : Program} {l : Launch} {e : Env} {R : Room} {s : State} {m : MethodId} {args : Array Value} {below : List Frame} {meth : Method} {c : Code} {H : Heap} {locs : List Loc} {cells slots : Nat} {Q : State → Prop}
variable {cc : ByteArray} {pc : Nat} {ls : Array Slot} {rest : List Value} {V : px_V} {sc : Option (Nat × Nat × (Nat → Int32))} {Y : px_L} {G : px_G} {C F : px_P} {a : Nat}
theorem px_tsw (hx : p.tables.exec = Jvm.exec) (hb : c.code = cc) {d lo hi : Int} {offs : Array Int} {len nL : Nat} {x : Int32} (hd : decode cc pc = .ok (.tableswitch d lo hi offs, len)) (hc : px_chk nL pc (.tableswitch d lo hi offs) len = true) {Z : Nat → Prop}
    (hZ : ∀ t, Z t → W p l e R s m args below meth c H locs cells slots Q (F0 m t ls rest)) (hT : px_sw pc x Z d lo.toNat offs.toList) : W p l e R s m args below meth c H locs cells slots Q (F0 m pc ls (.int x :: rest)) := by
  simp only [px_chk, Bool.and_eq_true, decide_eq_true_eq, List.all_eq_true] at hc
  obtain ⟨⟨⟨⟨c1, c2⟩, c3⟩, c4⟩, c5⟩ := hc
  obtain ⟨s1, s2⟩ := px_sw_ok offs.toList lo.toNat (by rw [Array.length_toList]; omega) hT
  by_cases hr : x.toInt < lo ∨ hi < x.toInt
  · refine lv_tableOut hx hb hd hr (px_tg_ok c1) (hZ _ (s2 fun j hj hx => ?_))
    rw [Array.length_toList] at hj
    rw [hx, nI_toInt (by omega)] at hr
    omega
  · have h1 : ¬ x.toInt < lo := fun h => hr (Or.inl h)
    have h2 : ¬ hi < x.toInt := fun h => hr (Or.inr h)
    have hlt : (x.toInt - lo).toNat < offs.size := by omega
    obtain ⟨o, ho⟩ : ∃ o, offs[(x.toInt - lo).toNat]? = some o := ⟨_, Array.getElem?_eq_getElem hlt⟩
    have ho2 : offs.toList[(x.toInt - lo).toNat]? = some o := by rw [Array.getElem?_toList]; exact ho
    refine lv_tableIn hx hb hd h1 h2 ho (px_tg_ok (c5 o (List.mem_of_getElem? ho2))) (hZ _ (s1 _ o ho2 ?_))
    refine Int32.toInt_inj.mp ?_
    rw [nI_toInt (by omega)]
    omega
theorem px_alen (hx : p.tables.exec = Jvm.exec) (hb : c.code = cc) (hK : va_K G.2.2.1 V.1 (px_tys V.2.1 G.2.2.2) s) (hC : px_okC V Y) (hH : px_H V.1 G C F H) {n : Nat} (he : px_len C Y.2.2.2 a = some n) (hdg : decode cc pc = .ok (.arraylength, 1))
    (kk : W p l e R s m args below meth c H locs cells slots Q (F0 m (pc + 1) ls (.int (nI n) :: rest))) : W p l e R s m args below meth c H locs cells slots Q (F0 m pc ls (.ref a :: rest)) := by
  unfold px_len at he
  split at he
  · rename_i n' f hc
    cases he
    exact va_alen hx hb hK (hH.one hc) 0 0 rfl (px_tys_at hC.2.1) rfl hdg kk
  · rename_i n' f hc
    cases he
    exact va_alen hx hb hK (hH.one hc) 0 1 rfl (px_tys_at hC.2.2.1) rfl hdg kk
  · rename_i t n' f hc
    cases hq : (Nat.ble 3 t && Nat.blt t Y.2.2.2) with
    | false =>
      rw [hq] at he
      cases he
    | true =>
      rw [hq] at he
      cases he
      rw [Bool.and_eq_true] at hq
      have q1 : 3 ≤ t := Nat.le_of_ble_eq_true hq.1
      have q2 : t < Y.2.2.2 := by simpa [Nat.blt_eq] using hq.2
      obtain ⟨r0, g1, g2⟩ := hC.2.2.2.2.1 t ⟨q1, q2⟩
      exact va_alen hx hb hK (hH.one hc) 0 t rfl (px_tys_at g2) rfl hdg kk
  · cases he
theorem px_new (hx : p.tables.exec = Jvm.exec) (hb : c.code = cc) {own C0 : String} {T : u_T} {N ci index : Nat} {Ts : List Cond} {df : List Value} (hts : ∀ w ∈ Ts, w.before args s = true) (hin : ∀ w ∈ u_ws C0 T N, w ∈ Ts) (ty : Nat → FieldType) (hty : ∀ k, k < N → parseFieldDescriptor (T k).2.2.1 = some (ty k)) (hown : s.vm.findClass own = some m.cls) (hcl : (Cond.classLink own index C0).before args s = true) (hinst : (Cond.instantiable C0 N).before args s = true) (hini : (Cond.initialized C0).before args s = true)
    (hK : va_K G.2.2.1 V.1 (px_tys V.2.1 G.2.2.2) s) (hH : px_H V.1 G C F H) (hc : V.1[ci]? = some (C0, T, N)) (hfs : ∀ j, j < N → defaultValue (ty j) = vp_V df j) (hcells : cells + 1 ≤ R.cells) (hslots : slots + N ≤ R.slots) (hdg : decode cc pc = .ok (.new index, 3))
    (kk : ∀ (q : Nat) (H1 : Heap), C q = none → G.1 ≤ q → px_H V.1 G (px_up C q (px_o ci df)) F H1 → W p l e R s m args below meth c H1 locs (cells + 1) (slots + N) Q (F0 m (pc + 3) ls (.ref q :: rest))) : W p l e R s m args below meth c H locs cells slots Q (F0 m pc ls rest) := by
  have hKn := hK.1 ci _ hc
  refine W.newcK hx hb hown hcl hinst hini rfl hdg hcells hslots hKn.2.1 rfl fun H1 kC hkC e1 z1 o1 => ?_
  exact kk H.size H1 hH.free hH.1 (hH.new z1 o1 ⟨_, hc, (u_born ty hts hin hKn hkC e1 hty).to hfs⟩)
theorem px_newi (hx : p.tables.exec = Jvm.exec) (hb : c.code = cc) (harr : (Cond.arrayClass .int).before args s = true) (hK : va_K G.2.2.1 V.1 (px_tys V.2.1 G.2.2.2) s) (hC : px_okC V Y) (hH : px_H V.1 G C F H) {n : Int32} (hn : ¬ n < 0) (hle : n.toNatClampNeg ≤ 65536) (hcells : cells + 1 ≤ R.cells) (hslots : slots + n.toNatClampNeg ≤ R.slots) (hdg : decode cc pc = .ok (.newarray .int, 2))
    (kk : ∀ (q : Nat) (H1 : Heap), C q = none → G.1 ≤ q → px_H V.1 G (px_up C q (px_i n.toNatClampNeg (fun _ => 0))) F H1 → W p l e R s m args below meth c H1 locs (cells + 1) (slots + n.toNatClampNeg) Q (F0 m (pc + 2) ls (.ref q :: rest))) : W p l e R s m args below meth c H locs cells slots Q (F0 m pc ls (.int n :: rest)) := by
  refine va_newaK (atype := .int) hx hb harr rfl hdg rfl hn rfl (by show n.toNatClampNeg * 4 ≤ 536870912; omega) hcells hslots rfl fun H1 cA e1 z1 o1 hAr hNm => ?_
  have hc : cA = G.2.2.2 0 := Option.some.inj (hNm.symm.trans (hK.2 0 _ (px_tys_at hC.2.1)).2)
  subst hc
  exact kk H.size H1 hH.free hH.1 (hH.new z1 o1 e1)
theorem px_newj (hx : p.tables.exec = Jvm.exec) (hb : c.code = cc) (harr : (Cond.arrayClass .long).before args s = true) (hK : va_K G.2.2.1 V.1 (px_tys V.2.1 G.2.2.2) s) (hC : px_okC V Y) (hH : px_H V.1 G C F H) {n : Int32} (hn : ¬ n < 0) (hle : n.toNatClampNeg ≤ 65536) (hcells : cells + 1 ≤ R.cells) (hslots : slots + n.toNatClampNeg ≤ R.slots) (hdg : decode cc pc = .ok (.newarray .long, 2))
    (kk : ∀ (q : Nat) (H1 : Heap), C q = none → G.1 ≤ q → px_H V.1 G (px_up C q (px_j n.toNatClampNeg (fun _ => 0))) F H1 → W p l e R s m args below meth c H1 locs (cells + 1) (slots + n.toNatClampNeg) Q (F0 m (pc + 2) ls (.ref q :: rest))) : W p l e R s m args below meth c H locs cells slots Q (F0 m pc ls (.int n :: rest)) := by
  refine va_newaK (atype := .long) hx hb harr rfl hdg rfl hn rfl (by show n.toNatClampNeg * 8 ≤ 536870912; omega) hcells hslots rfl fun H1 cA e1 z1 o1 hAr hNm => ?_
  have hc : cA = G.2.2.2 1 := Option.some.inj (hNm.symm.trans (hK.2 1 _ (px_tys_at hC.2.2.1)).2)
  subst hc
  exact kk H.size H1 hH.free hH.1 (hH.new z1 o1 e1)
theorem px_newz (hx : p.tables.exec = Jvm.exec) (hb : c.code = cc) (harr : (Cond.arrayClass .boolean).before args s = true) (hK : va_K G.2.2.1 V.1 (px_tys V.2.1 G.2.2.2) s) (hC : px_okC V Y) (hH : px_H V.1 G C F H) {n : Int32} (hn : ¬ n < 0) (hle : n.toNatClampNeg ≤ 65536) (hcells : cells + 1 ≤ R.cells) (hslots : slots + n.toNatClampNeg ≤ R.slots) (hdg : decode cc pc = .ok (.newarray .boolean, 2))
    (kk : ∀ (q : Nat) (H1 : Heap), C q = none → G.1 ≤ q → px_H V.1 G (px_up C q (px_z n.toNatClampNeg (fun _ => 0))) F H1 → W p l e R s m args below meth c H1 locs (cells + 1) (slots + n.toNatClampNeg) Q (F0 m (pc + 2) ls (.ref q :: rest))) : W p l e R s m args below meth c H locs cells slots Q (F0 m pc ls (.int n :: rest)) := by
  refine va_newaK (atype := .boolean) hx hb harr rfl hdg rfl hn rfl (by show n.toNatClampNeg * 1 ≤ 536870912; omega) hcells hslots rfl fun H1 cA e1 z1 o1 hAr hNm => ?_
  have hc : cA = G.2.2.2 2 := Option.some.inj (hNm.symm.trans (hK.2 2 _ (px_tys_at hC.2.2.2.1)).2)
  subst hc
  exact kk H.size H1 hH.free hH.1 (hH.new z1 o1 e1)
theorem px_newr (hx : p.tables.exec = Jvm.exec) (hb : c.code = cc) {own C0 : String} {index t : Nat} (hown : s.vm.findClass own = some m.cls) (hclink : (Cond.classLink own index C0).before args s = true) (hover : va_AO C0 s) (hK : va_K G.2.2.1 V.1 (px_tys V.2.1 G.2.2.2) s) (ht : V.2.1[t]? = some (FieldType.object C0)) (hH : px_H V.1 G C F H) {n : Int32} (hn : ¬ n < 0) (hle : n.toNatClampNeg ≤ 65536) (hcells : cells + 1 ≤ R.cells) (hslots : slots + n.toNatClampNeg ≤ R.slots) (hdg : decode cc pc = .ok (.anewarray index, 3))
    (kk : ∀ (q : Nat) (H1 : Heap), C q = none → G.1 ≤ q → px_H V.1 G (px_up C q (px_r t n.toNatClampNeg (fun _ => none))) F H1 → W p l e R s m args below meth c H1 locs (cells + 1) (slots + n.toNatClampNeg) Q (F0 m (pc + 3) ls (.ref q :: rest))) : W p l e R s m args below meth c H locs cells slots Q (F0 m pc ls (.int n :: rest)) := by
  refine W.anew hx hb hown hclink (va_AO.use hover) rfl hdg rfl hn (by omega) hcells hslots fun cA kA comp f1 f2 f3 f4 => ?_
  obtain ⟨kA', comp', k1, k2, k3, k4⟩ := (hK.2 t _ (px_tys_at ht)).2
  have hc : cA = G.2.2.2 t := Option.some.inj (f1.symm.trans k4)
  subst hc
  refine kk H.size _ hH.free hH.1 (hH.new (by rw [Array.size_push]) (fun q hq => by rw [Array.getElem?_push, if_neg (Nat.ne_of_lt hq)]) ?_)
  show _ = some (arrV (G.2.2.2 t) n.toNatClampNeg (fun _ => .null))
  rw [Array.getElem?_push_size, ← arrV_new]
theorem px_call {mc ms : Nat} {st0 : List Value} {Po : Option Value → px_P → Prop} {av : Array Value} (hr : va_Run p l e R s m args below meth c H locs cells slots mc ms (F0 m pc ls st0) rest (px_Q V.1 G F Po av) (fun q => G.1 ≤ q)) (hlo : ∀ q ∈ locs, G.1 ≤ q.base)
    (kk : ∀ (v : Option Value) (C1 : px_P) (H1 : Heap) (locs1 : List Loc), Po v C1 → px_H V.1 G C1 F H1 → (∀ q ∈ locs1, G.1 ≤ q.base) → W p l e R s m args below meth c H1 locs1 (cells + mc) (slots + ms) Q (F0 m (pc + 3) ls (v.toList ++ rest))) : W p l e R s m args below meth c H locs cells slots Q (F0 m pc ls st0) := by
  intro T hT X
  obtain ⟨v, st₀, t, T', L, h0, X', hL, e1, e2, hq, st⟩ := hr T hT X
  obtain ⟨v', C', hv, hp, hh⟩ := hq
  · cases hv
    obtain ⟨t2, a1, b1⟩ := kk v C' T'.heap (locs ++ L) hp (by rw [e1]; exact hh) (fun q hq => by
      rcases List.mem_append.mp hq with h | h
      · exact hlo q h
      · exact hL q h) T' rfl X'
    exact ⟨t2, st t2 a1, b1⟩
variable {nL fr0 lo0 : Nat} {own : String} {idx np : Nat} {M1 : px_M} {rm : Room} {mc1 ms1 : Nat} {Po1 : Option Value → px_P → Prop} {b : Nat} {st : List Value}
theorem px_callV {ci : Nat} {fs : List Value} {T1 : u_T} {N1 : Nat} (hx : p.tables.exec = Jvm.exec) (hb : c.code = cc) (hml : c.maxLocals = nL) (hown : s.vm.findClass own = some m.cls) (hts : ∀ w ∈ V.2.2.1, w.before args s = true) (hK : px_K V sc G s) (hwl : V.2.2.1.all px_wb = true) (hH : px_H V.1 G C F H) (hlo : ∀ q ∈ locs, G.1 ≤ q.base) (hsz : ls.size = nL)
    (g2 : px_lnk V.2.2.1 own idx M1 np fr0 lo0) (gc : Cond.code M1.1 M1.2.2.1 M1.2.2.2.1 M1.2.2.2.2.1 ∈ V.2.2.1) (g3 : Cond.instanceMethod M1.1 ∈ V.2.2.1) (g4 : Cond.selects M1.1.cls M1.1 M1.1 ∈ V.2.2.1) (g5 : V.1[ci]? = some (M1.1.cls, T1, N1)) (he : C b = some (px_o ci fs)) (f2 : rm.cells = mc1) (f3 : rm.slots = ms1) (f4 : rm.frames + 1 ≤ R.frames) (f5 : 8 + (M1.2.2.2.1 + 11) + rm.locals ≤ R.locals)
    (hMet : Met l M1.1 [Cond.code M1.1 M1.2.2.1 M1.2.2.2.1 M1.2.2.2.2.1] rm (px_Pc V sc G F (.ref b :: (st.take np).reverse) C) (px_Q V.1 G F Po1) mc1 ms1 (fun q => G.1 ≤ q))
    (hst : st.drop np = .ref b :: rest) (h8 : px_cat rest ≤ 8) (hd : decode cc pc = .ok (.invokevirtual idx, 3)) (hc1 : cells + mc1 ≤ R.cells) (hs1 : slots + ms1 ≤ R.slots)
    (kk : ∀ (v : Option Value) (C1 : px_P) (H1 : Heap) (locs1 : List Loc), Po1 v C1 → px_H V.1 G C1 F H1 → (∀ q ∈ locs1, G.1 ≤ q.base) → W p l e R s m args below meth c H1 locs1 (cells + mc1) (slots + ms1) Q (F0 m (pc + 3) ls (v.toList ++ rest))) : W p l e R s m args below meth c H locs cells slots Q (F0 m pc ls st) := by
  have hlt : np < st.length := by
    have := congrArg List.length hst
    simp at this
    omega
  have hlen : (st.take np).reverse.length = np := by simp; omega
  have hstk : st = (st.take np).reverse.reverse ++ .ref b :: rest := by rw [List.reverse_reverse, ← hst, List.take_append_drop]
  have hws : ∀ w ∈ [Cond.code M1.1 M1.2.2.1 M1.2.2.2.1 M1.2.2.2.2.1], ∀ (a' : Array Value) (U : State), s.WarmedH U.vm → w.before a' U = true := by
    intro w hw a' U hW
    rw [List.mem_singleton] at hw
    subst hw
    exact word_at hW (Or.inl rfl) (hts _ gc)
  have hpar : ∀ sig, parseMethodDescriptor M1.1.desc = some sig → np = sig.parameters.length := fun sig h => by
    have h2 := g2.2.2.1.2.2
    rw [h] at h2
    exact (Option.some.inj h2).symm
  have hrecv : ∃ cellB : Cell, H[b]? = some cellB ∧ cellB.vm.isStatics = false ∧ s.vm.findClass M1.1.cls = some cellB.cls := va_recv (q := (M1.1.cls, T1, N1)) hK.1 (hH.one he) g5 (q0 := 0) rfl
  refine px_call (av := (Value.ref b :: (st.take np).reverse).toArray) ?_ hlo kk
  rcases g2.1 with hm | ⟨host, hm⟩
  · exact va_runV (As := (st.take np).reverse) (rest := rest) ⟨hx, hb, hml, hown, hts⟩ hMet ⟨⟨f2, f3, f4, f5, hws, List.mem_cons_self, hts _ gc, hts _ g2.2.1, ⟨g2.2.2.1.1, g2.2.2.1.2.1⟩, hpar, hts _ hm⟩, hts _ g3, hts _ g4⟩ ⟨px_blind hwl, hrecv, fun U hU hW => ⟨rfl, by rw [hU]; exact hH, px_K.moved hwl hW hK⟩⟩ rfl hlen hsz hstk (lv_room h8) hd ⟨hc1, hs1⟩
  · exact va_runVN (As := (st.take np).reverse) (rest := rest) ⟨hx, hb, hml, hown, hts⟩ hMet ⟨⟨⟨f2, f3, f4, f5, hws, List.mem_cons_self⟩, hts _ gc, hts _ g2.2.1, ⟨g2.2.2.1.1, g2.2.2.1.2.1⟩, hpar, hts _ hm⟩, hts _ g3, hts _ g4⟩ ⟨px_blind hwl, hrecv, fun U hU hW => ⟨rfl, by rw [hU]; exact hH, px_K.moved hwl hW hK⟩⟩ rfl hlen hsz hstk (lv_room h8) hd ⟨hc1, hs1⟩
theorem px_callI (hx : p.tables.exec = Jvm.exec) (hb : c.code = cc) (hml : c.maxLocals = nL) (hown : s.vm.findClass own = some m.cls) (hts : ∀ w ∈ V.2.2.1, w.before args s = true) (hK : px_K V sc G s) (hwl : V.2.2.1.all px_wb = true) (hH : px_H V.1 G C F H) (hlo : ∀ q ∈ locs, G.1 ≤ q.base) (hsz : ls.size = nL)
    (g2 : px_lnk V.2.2.1 own idx M1 np fr0 lo0) (gc : Cond.code M1.1 M1.2.2.1 M1.2.2.2.1 M1.2.2.2.2.1 ∈ V.2.2.1) (g3 : M1.1.name = "<init>") (g4 : M1.2.2.2.2.1 = none) (g5 : Cond.instanceMethod M1.1 ∈ V.2.2.1) (f2 : rm.cells = mc1) (f3 : rm.slots = ms1) (f4 : rm.frames + 1 ≤ R.frames) (f5 : 8 + (M1.2.2.2.1 + 11) + rm.locals ≤ R.locals)
    (hMet : Met l M1.1 [Cond.code M1.1 M1.2.2.1 M1.2.2.2.1 M1.2.2.2.2.1] rm (px_Pc V sc G F (.ref b :: (st.take np).reverse) C) (px_Q V.1 G F Po1) mc1 ms1 (fun q => G.1 ≤ q))
    (hst : st.drop np = .ref b :: rest) (h8 : px_cat rest ≤ 8) (hd : decode cc pc = .ok (.invokespecial idx, 3)) (hc1 : cells + mc1 ≤ R.cells) (hs1 : slots + ms1 ≤ R.slots)
    (kk : ∀ (v : Option Value) (C1 : px_P) (H1 : Heap) (locs1 : List Loc), Po1 v C1 → px_H V.1 G C1 F H1 → (∀ q ∈ locs1, G.1 ≤ q.base) → W p l e R s m args below meth c H1 locs1 (cells + mc1) (slots + ms1) Q (F0 m (pc + 3) ls (v.toList ++ rest))) : W p l e R s m args below meth c H locs cells slots Q (F0 m pc ls st) := by
  have hlt : np < st.length := by
    have := congrArg List.length hst
    simp at this
    omega
  have hlen : (st.take np).reverse.length = np := by simp; omega
  have hstk : st = (st.take np).reverse.reverse ++ .ref b :: rest := by rw [List.reverse_reverse, ← hst, List.take_append_drop]
  have hws : ∀ w ∈ [Cond.code M1.1 M1.2.2.1 M1.2.2.2.1 none], ∀ (a' : Array Value) (U : State), s.WarmedH U.vm → w.before a' U = true := by
    intro w hw a' U hW
    rw [List.mem_singleton] at hw
    subst hw
    rw [g4] at gc
    exact word_at hW (Or.inl rfl) (hts _ gc)
  rw [g4] at gc hMet
  have hpar : ∀ sig, parseMethodDescriptor M1.1.desc = some sig → np = sig.parameters.length := fun sig h => by
    have h2 := g2.2.2.1.2.2
    rw [h] at h2
    exact (Option.some.inj h2).symm
  refine px_call (av := (Value.ref b :: (st.take np).reverse).toArray) ?_ hlo kk
  rcases g2.1 with hm | ⟨host, hm⟩
  · exact va_runI (As := (st.take np).reverse) (rest := rest) ⟨hx, hb, hml, hown, hts⟩ hMet ⟨⟨f2, f3, f4, f5, hws, List.mem_cons_self, hts _ gc, hts _ g2.2.1, ⟨g2.2.2.1.1, g2.2.2.1.2.1⟩, hpar, hts _ hm⟩, g3, hts _ g5⟩ ⟨px_blind hwl, fun U hU hW => ⟨rfl, by rw [hU]; exact hH, px_K.moved hwl hW hK⟩⟩ rfl hlen hsz hstk (lv_room h8) hd ⟨hc1, hs1⟩
  · exact va_runIN (As := (st.take np).reverse) (rest := rest) ⟨hx, hb, hml, hown, hts⟩ hMet ⟨⟨⟨f2, f3, f4, f5, hws, List.mem_cons_self⟩, hts _ gc, hts _ g2.2.1, ⟨g2.2.2.1.1, g2.2.2.1.2.1⟩, hpar, hts _ hm⟩, g3, hts _ g5⟩ ⟨px_blind hwl, fun U hU hW => ⟨rfl, by rw [hU]; exact hH, px_K.moved hwl hW hK⟩⟩ rfl hlen hsz hstk (lv_room h8) hd ⟨hc1, hs1⟩
theorem px_callS (hx : p.tables.exec = Jvm.exec) (hb : c.code = cc) (hml : c.maxLocals = nL) (hown : s.vm.findClass own = some m.cls) (hts : ∀ w ∈ V.2.2.1, w.before args s = true) (hK : px_K V sc G s) (hwl : V.2.2.1.all px_wb = true) (hH : px_H V.1 G C F H) (hlo : ∀ q ∈ locs, G.1 ≤ q.base) (hsz : ls.size = nL)
    (g2 : px_lnk V.2.2.1 own idx M1 np fr0 lo0) (gc : Cond.code M1.1 M1.2.2.1 M1.2.2.2.1 M1.2.2.2.2.1 ∈ V.2.2.1) (g3 : Cond.static M1.1 ∈ V.2.2.1) (f2 : rm.cells = mc1) (f3 : rm.slots = ms1) (f4 : rm.frames + 1 ≤ R.frames) (f5 : 8 + (M1.2.2.2.1 + 11) + rm.locals ≤ R.locals)
    (hMet : Met l M1.1 [Cond.code M1.1 M1.2.2.1 M1.2.2.2.1 M1.2.2.2.2.1] rm (px_Pc V sc G F (st.take np).reverse C) (px_Q V.1 G F Po1) mc1 ms1 (fun q => G.1 ≤ q))
    (hnp : np ≤ st.length) (h8 : px_cat (st.drop np) ≤ 8) (hd : decode cc pc = .ok (.invokestatic idx, 3)) (hc1 : cells + mc1 ≤ R.cells) (hs1 : slots + ms1 ≤ R.slots)
    (kk : ∀ (v : Option Value) (C1 : px_P) (H1 : Heap) (locs1 : List Loc), Po1 v C1 → px_H V.1 G C1 F H1 → (∀ q ∈ locs1, G.1 ≤ q.base) → W p l e R s m args below meth c H1 locs1 (cells + mc1) (slots + ms1) Q (F0 m (pc + 3) ls (v.toList ++ st.drop np))) : W p l e R s m args below meth c H locs cells slots Q (F0 m pc ls st) := by
  have hlen : (st.take np).reverse.length = np := by simp; omega
  have hstk : st = (st.take np).reverse.reverse ++ st.drop np := by rw [List.reverse_reverse, List.take_append_drop]
  have hws : ∀ w ∈ [Cond.code M1.1 M1.2.2.1 M1.2.2.2.1 M1.2.2.2.2.1], ∀ (a' : Array Value) (U : State), s.WarmedH U.vm → w.before a' U = true := by
    intro w hw a' U hW
    rw [List.mem_singleton] at hw
    subst hw
    exact word_at hW (Or.inl rfl) (hts _ gc)
  have hpar : ∀ sig, parseMethodDescriptor M1.1.desc = some sig → np = sig.parameters.length := fun sig h => by
    have h2 := g2.2.2.1.2.2
    rw [h] at h2
    exact (Option.some.inj h2).symm
  refine px_call (av := (st.take np).reverse.toArray) ?_ hlo kk
  rcases g2.1 with hm | ⟨host, hm⟩
  · exact va_runS (As := (st.take np).reverse) (rest := st.drop np) ⟨hx, hb, hml, hown, hts⟩ hMet ⟨⟨f2, f3, f4, f5, hws, List.mem_cons_self, hts _ gc, hts _ g2.2.1, ⟨g2.2.2.1.1, g2.2.2.1.2.1⟩, hpar, hts _ hm⟩, hts _ g3⟩ ⟨px_blind hwl, fun U hU hW => ⟨rfl, by rw [hU]; exact hH, px_K.moved hwl hW hK⟩⟩ rfl hlen hsz hstk (lv_room h8) hd ⟨hc1, hs1⟩
  · exact va_runSN (As := (st.take np).reverse) (rest := st.drop np) ⟨hx, hb, hml, hown, hts⟩ hMet ⟨⟨⟨f2, f3, f4, f5, hws, List.mem_cons_self⟩, hts _ gc, hts _ g2.2.1, ⟨g2.2.2.1.1, g2.2.2.1.2.1⟩, hpar, hts _ hm⟩, hts _ g3, trivial⟩ ⟨px_blind hwl, fun U hU hW => ⟨rfl, by rw [hU]; exact hH, px_K.moved hwl hW hK⟩⟩ rfl hlen hsz hstk (lv_room h8) hd ⟨hc1, hs1⟩
end PXS
