theorem px_cw0 {M : px_M} (h : px_hh M = []) : px_cw M = Cond.code M.1 M.2.2.1 M.2.2.2.1 M.2.2.2.2.1 := by
  unfold px_cw
  rw [h]
section PXT
variable {p : Program} {l : Launch} {e : Env} {R : Room} {s : State} {m : MethodId} {args : Array Value} {below : List Frame} {meth : Method} {c : Code} {H : Heap} {locs : List Loc} {cells slots : Nat} {Q : State → Prop}
variable {cc : ByteArray} {pc : Nat} {ls : Array Slot} {rest : List Value} {V : px_V} {sc : Option (Nat × Nat × (Nat → Int32))} {Y : px_L} {G : px_G} {C F : px_P} {a : Nat}
variable {nL fr0 lo0 : Nat} {own : String} {idx np : Nat} {M1 : px_M} {rm : Room} {mc1 ms1 : Nat} {Po1 : Option Value → px_P → Prop} {Pt1 : Nat → px_P → Prop} {b : Nat} {st : List Value}
/-- a static call of a method with handlers -/
theorem px_callSH {q0 : Nat × Nat × Nat × Nat} {r0 : List (Nat × Nat × Nat × Nat)} (hx : p.tables.exec = Jvm.exec) (hb : c.code = cc) (hml : c.maxLocals = nL) (hown : s.vm.findClass own = some m.cls) (hts : ∀ w ∈ V.2.2.1, w.before args s = true) (hK : px_K V sc G s) (hwl : V.2.2.1.all px_wb = true) (hH : px_H V.1 G C F H) (hlo : ∀ q ∈ locs, G.1 ≤ q.base) (hsz : ls.size = nL)
    (g2 : px_lnk V.2.2.1 own idx M1 np fr0 lo0) (gm : Cond.methodLink own idx M1.1 ∈ V.2.2.1) (gc : Cond.codeWith M1.1 M1.2.2.1 M1.2.2.2.1 M1.2.2.2.2.1 (q0 :: r0) ∈ V.2.2.1) (g3 : Cond.static M1.1 ∈ V.2.2.1) (f2 : rm.cells = mc1) (f3 : rm.slots = ms1) (f4 : rm.frames + 1 ≤ R.frames) (f5 : 8 + (M1.2.2.2.1 + 11) + rm.locals ≤ R.locals)
    (hMet : Met l M1.1 [Cond.codeWith M1.1 M1.2.2.1 M1.2.2.2.1 M1.2.2.2.2.1 (q0 :: r0)] rm (px_Pc V sc G F (st.take np).reverse C) (px_Q V.1 G F Po1) mc1 ms1 (fun q => G.1 ≤ q))
    (hnp : np ≤ st.length) (h8 : px_cat (st.drop np) ≤ 8) (hd : decode cc pc = .ok (.invokestatic idx, 3)) (hc1 : cells + mc1 ≤ R.cells) (hs1 : slots + ms1 ≤ R.slots)
    (kk : ∀ (v : Option Value) (C1 : px_P) (H1 : Heap) (locs1 : List Loc), Po1 v C1 → px_H V.1 G C1 F H1 → (∀ q ∈ locs1, G.1 ≤ q.base) → W p l e R s m args below meth c H1 locs1 (cells + mc1) (slots + ms1) Q (F0 m (pc + 3) ls (v.toList ++ st.drop np))) : W p l e R s m args below meth c H locs cells slots Q (F0 m pc ls st) := by
  have hlen : (st.take np).reverse.length = np := by simp; omega
  have hstk : st = (st.take np).reverse.reverse ++ st.drop np := by rw [List.reverse_reverse, List.take_append_drop]
  have hws : ∀ w ∈ [Cond.codeWith M1.1 M1.2.2.1 M1.2.2.2.1 M1.2.2.2.2.1 (q0 :: r0)], ∀ (a' : Array Value) (U : State), s.WarmedH U.vm → w.before a' U = true := by
    intro w hw a' U hW
    rw [List.mem_singleton] at hw
    subst hw
    exact word_at hW (Or.inl rfl) (hts _ gc)
  have hpar : ∀ sig, parseMethodDescriptor M1.1.desc = some sig → np = sig.parameters.length := fun sig h => by
    have h2 := g2.2.2.1.2.2
    rw [h] at h2
    exact (Option.some.inj h2).symm
  refine px_call (av := (st.take np).reverse.toArray) ?_ hlo kk
  exact vx_runSW (As := (st.take np).reverse) (rest := st.drop np) ⟨hx, hb, hml, hown, hts⟩ hMet ⟨⟨f2, f3, f4, f5, hws, List.mem_cons_self⟩, hts _ gc, hts _ g2.2.1, ⟨g2.2.2.1.1, g2.2.2.1.2.1⟩, hpar, hts _ gm, hts _ g3⟩ ⟨px_blind hwl, fun U hU hW => ⟨rfl, by rw [hU]; exact hH, px_K.moved hwl hW hK⟩⟩ rfl hlen hsz hstk (lv_room h8) hd ⟨hc1, hs1⟩
/-- behind a call that may throw -/
theorem px_callT {mc ms : Nat} {st0 : List Value} {Po : Option Value → px_P → Prop} {Pt : Nat → px_P → Prop} {av : Array Value} (hr : vx_Run p l e R s m args below meth c H locs cells slots mc ms (F0 m pc ls st0) rest (px_Q V.1 G F Po av) (px_X V.1 G F Pt) (fun q => G.1 ≤ q)) (hlo : ∀ q ∈ locs, G.1 ≤ q.base)
    (kk : ∀ (v : Option Value) (C1 : px_P) (H1 : Heap) (locs1 : List Loc), Po v C1 → px_H V.1 G C1 F H1 → (∀ q ∈ locs1, G.1 ≤ q.base) → W p l e R s m args below meth c H1 locs1 (cells + mc) (slots + ms) Q (F0 m (pc + 3) ls (v.toList ++ rest)))
    (kx : ∀ (kd : Nat) (C1 : px_P) (H1 : Heap) (locs1 : List Loc) (q : Nat) (ce : Cell), Pt kd C1 → px_H V.1 G C1 F H1 → (∀ q ∈ locs1, G.1 ≤ q.base) → H1[q]? = some ce → ce.vm = .none → s.vm.findClass (px_ex kd) = some ce.cls → vx_W p l e R s m args below meth c H1 locs1 (cells + mc) (slots + ms) Q (F0 m pc ls rest) q) : W p l e R s m args below meth c H locs cells slots Q (F0 m pc ls st0) := by
  intro T hT X
  have hap : ∀ L : List Loc, (∀ q ∈ L, G.1 ≤ q.base) → ∀ q ∈ locs ++ L, G.1 ≤ q.base := fun L hL q hq => by
    rcases List.mem_append.mp hq with h | h
    · exact hlo q h
    · exact hL q h
  rcases hr T hT X with ⟨v, st₀, t, T', L, h0, X', hL, e1, e2, hq, st⟩ | ⟨q, st₀, t, T', L, E, ce, h0, X', hL, e1, e2, hq, hce, hcv, hcl, st⟩
  · obtain ⟨v', C', hv, hp, hh⟩ := hq
    cases hv
    obtain ⟨t2, a1, b1⟩ := kk v C' T'.heap (locs ++ L) hp (by rw [e1]; exact hh) (hap L hL) T' rfl X'
    exact ⟨t2, st t2 a1, b1⟩
  · obtain ⟨kd, C', rfl, hp, hh⟩ := hq
    obtain ⟨t2, a1, b1⟩ := kx kd C' T'.heap (locs ++ L) q ce hp (by rw [e1]; exact hh) (hap L hL) (by rw [e1]; exact hce) hcv hcl T' rfl X'
    exact ⟨t2, st.trans a1, b1⟩
theorem px_callVT {ci : Nat} {fs : List Value} {T1 : u_T} {N1 : Nat} (hx : p.tables.exec = Jvm.exec) (hb : c.code = cc) (hml : c.maxLocals = nL) (hown : s.vm.findClass own = some m.cls) (hts : ∀ w ∈ V.2.2.1, w.before args s = true) (hK : px_K V sc G s) (hwl : V.2.2.1.all px_wb = true) (hH : px_H V.1 G C F H) (hlo : ∀ q ∈ locs, G.1 ≤ q.base) (hsz : ls.size = nL)
    (g2 : px_lnk V.2.2.1 own idx M1 np fr0 lo0) (gm : Cond.methodLink own idx M1.1 ∈ V.2.2.1) (gc : Cond.code M1.1 M1.2.2.1 M1.2.2.2.1 M1.2.2.2.2.1 ∈ V.2.2.1) (g3 : Cond.instanceMethod M1.1 ∈ V.2.2.1) (g4 : Cond.selects M1.1.cls M1.1 M1.1 ∈ V.2.2.1) (g5 : V.1[ci]? = some (M1.1.cls, T1, N1)) (he : C b = some (px_o ci fs)) (f2 : rm.cells = mc1) (f3 : rm.slots = ms1) (f4 : rm.frames + 1 ≤ R.frames) (f5 : 8 + (M1.2.2.2.1 + 11) + rm.locals ≤ R.locals)
    (hMet : vx_Met l M1.1 [Cond.code M1.1 M1.2.2.1 M1.2.2.2.1 M1.2.2.2.2.1] rm (px_Pc V sc G F (.ref b :: (st.take np).reverse) C) (px_Q V.1 G F Po1) (px_X V.1 G F Pt1) mc1 ms1 (fun q => G.1 ≤ q))
    (hst : st.drop np = .ref b :: rest) (h8 : px_cat rest ≤ 8) (hd : decode cc pc = .ok (.invokevirtual idx, 3)) (hc1 : cells + mc1 ≤ R.cells) (hs1 : slots + ms1 ≤ R.slots)
    (kk : ∀ (v : Option Value) (C1 : px_P) (H1 : Heap) (locs1 : List Loc), Po1 v C1 → px_H V.1 G C1 F H1 → (∀ q ∈ locs1, G.1 ≤ q.base) → W p l e R s m args below meth c H1 locs1 (cells + mc1) (slots + ms1) Q (F0 m (pc + 3) ls (v.toList ++ rest)))
    (kx : ∀ (kd : Nat) (C1 : px_P) (H1 : Heap) (locs1 : List Loc) (q : Nat) (ce : Cell), Pt1 kd C1 → px_H V.1 G C1 F H1 → (∀ q ∈ locs1, G.1 ≤ q.base) → H1[q]? = some ce → ce.vm = .none → s.vm.findClass (px_ex kd) = some ce.cls → vx_W p l e R s m args below meth c H1 locs1 (cells + mc1) (slots + ms1) Q (F0 m pc ls rest) q) : W p l e R s m args below meth c H locs cells slots Q (F0 m pc ls st) := by
  have hlt : np < st.length := by
    have := congrArg List.length hst
    simp at this
    omega
  have hlen : (st.take np).reverse.length = np := by simp; omega
  have hstk : st = (st.take np).reverse.reverse ++ .ref b :: rest := by rw [List.reverse_reverse, ← hst, List.take_append_drop]
  have hws : ∀ w ∈ [Cond.code M1.1 M1.2.2.1 M1.2.2.2.1 M1.2.2.2.2.1], ∀ (a' : Array Value) (U : State), s.WarmedH U.vm → w.before a' U = true := by
    intro w hw a' U hW
    rw [List.mem_singleton] at hw
    subst hw
    exact word_at hW (Or.inl rfl) (hts _ gc)
  have hpar : ∀ sig, parseMethodDescriptor M1.1.desc = some sig → np = sig.parameters.length := fun sig h => by
    have h2 := g2.2.2.1.2.2
    rw [h] at h2
    exact (Option.some.inj h2).symm
  have hrecv : ∃ cellB : Cell, H[b]? = some cellB ∧ cellB.vm.isStatics = false ∧ s.vm.findClass M1.1.cls = some cellB.cls := va_recv (q := (M1.1.cls, T1, N1)) hK.1 (hH.one he) g5 (q0 := 0) rfl
  refine px_callT (av := (Value.ref b :: (st.take np).reverse).toArray) ?_ hlo kk kx
  exact vx_runV (As := (st.take np).reverse) (rest := rest) ⟨hx, hb, hml, hown, hts⟩ hMet ⟨⟨f2, f3, f4, f5, hws, List.mem_cons_self, hts _ gc, hts _ g2.2.1, ⟨g2.2.2.1.1, g2.2.2.1.2.1⟩, hpar, hts _ gm⟩, hts _ g3, hts _ g4⟩ ⟨px_blind hwl, hrecv, fun U hU hW => ⟨rfl, by rw [hU]; exact hH, px_K.moved hwl hW hK⟩⟩ rfl hlen hsz hstk (lv_room h8) hd ⟨hc1, hs1⟩
/-- what is thrown finds its handler -/
theorem px_caught {M : px_M} {P : List px_M} {kd q : Nat} {ce : Cell} {Z : Nat → Prop} (hC : px_okC V Y) (hM : px_okM V P M) (hown : s.vm.findClass M.2.1 = some m.cls) (hts : ∀ w ∈ V.2.2.1, w.before args s = true) (hK : px_K V sc G s) (hcell : H[q]? = some ce) (hv : ce.vm = .none) (hcl : s.vm.findClass (px_ex kd) = some ce.cls)
    (hZ : ∀ h, Z h → W p l e R s m args below meth c H locs cells slots Q (F0 m h ls [.ref q])) :
    ∀ (suf pre : List (Nat × Nat × Nat × Nat)), c.exceptionTable.toList = tableOf (pre ++ suf) → px_hh M = pre ++ suf → (∀ z ∈ pre, (Nat.ble z.1 pc && Nat.blt pc z.2.1 && px_isk (px_po M) z.2.2.2 kd) = false) → px_hd (px_po M) pc kd Z suf → vx_W p l e R s m args below meth c H locs cells slots Q (F0 m pc ls rest) q := by
  intro suf
  induction suf with
  | nil => intro pre _ _ _ h; exact h.elim
  | cons x r ih =>
    intro pre ht hh hp h
    obtain ⟨a1, b1, h1, ix⟩ := x
    have h2 : cond (Nat.ble a1 pc && Nat.blt pc b1 && px_isk (px_po M) ix kd) (Z h1) (px_hd (px_po M) pc kd Z r) := h
    have hrow : px_hok V M (a1, b1, h1, ix) := hM.2.2.1 _ (by rw [hh]; exact List.mem_append_right _ List.mem_cons_self)
    cases hb : (Nat.ble a1 pc && Nat.blt pc b1 && px_isk (px_po M) ix kd) with
    | false =>
      rw [hb] at h2
      refine ih (pre ++ [(a1, b1, h1, ix)]) (by rw [ht]; simp) (by rw [hh]; simp) (fun z hz => ?_) h2
      rcases List.mem_append.mp hz with hz | hz
      · exact hp z hz
      · rw [List.mem_singleton] at hz
        subst hz
        exact hb
    | true =>
      rw [hb] at h2
      rw [Bool.and_eq_true, Bool.and_eq_true] at hb
      obtain ⟨hix, kd2, hpl, hkd2⟩ := hrow
      have hk2 : kd2 = kd := by
        have h9 := hb.2
        unfold px_isk at h9
        rw [hpl] at h9
        exact Nat.eq_of_beq_eq_true h9
      subst hk2
      have hlnk : Cond.classLink M.2.1 ix (px_ex kd2) ∈ V.2.2.1 := by
        have := hM.2.1 _ (px_pl_mem hpl)
        rcases hkd2 with rfl | rfl | rfl <;> exact this
      refine vx_catch (own := M.2.1) (name := px_ex kd2) (E := px_ex kd2) hown (tableOf pre) ⟨a1, b1, h1, ix⟩ (tableOf r) (by rw [ht]; simp [tableOf]) ?_ ?_ hix (hts _ hlnk) (hts _ ((hC.2.2.2.2.2.2 kd2 kd2 hkd2 hkd2).1 rfl)) hcell hv hcl (hZ h1 h2)
      · intro z hz
        obtain ⟨w, hw, rfl⟩ := List.mem_map.mp hz
        obtain ⟨hw0, kd3, hpl3, hkd3⟩ := hM.2.2.1 w (by rw [hh]; exact List.mem_append_left _ hw)
        have hpw := hp w hw
        by_cases hne : kd3 = kd2
        · subst hne
          left
          have hisk : px_isk (px_po M) w.2.2.2 kd3 = true := by
            unfold px_isk
            rw [hpl3]
            exact Nat.beq_refl _
          rw [hisk, Bool.and_true] at hpw
          show (decide (w.1 ≤ pc) && decide (pc < w.2.1)) = false
          rw [Bool.and_eq_false_iff] at hpw ⊢
          rcases hpw with h9 | h9
          · left
            exact decide_eq_false (fun q => by rw [Nat.ble_eq_true_of_le q] at h9; cases h9)
          · right
            exact decide_eq_false (fun q => by have : Nat.blt pc w.2.1 = true := Nat.ble_eq_true_of_le q; rw [this] at h9; cases h9)
        · right
          refine ⟨hw0, px_ex kd3, hts _ ?_, hK.2.2.2.2.2.2.1 _ ((hC.2.2.2.2.2.2 kd2 kd3 hkd2 hkd3).2 (fun q => hne q.symm))⟩
          have := hM.2.1 _ (px_pl_mem hpl3)
          rcases hkd3 with rfl | rfl | rfl <;> exact this
      · show (decide (a1 ≤ pc) && decide (pc < b1)) = true
        rw [Bool.and_eq_true]
        exact ⟨decide_eq_true (Nat.le_of_ble_eq_true hb.1.1), decide_eq_true (Nat.le_of_ble_eq_true hb.1.2)⟩
end PXT
