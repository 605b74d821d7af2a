theorem px_H.grow {cl : List vw_C} {G : px_G} {C F : px_P} {H H' : Heap} (h : px_H cl G C F H) (hz : H.size ≤ H'.size) (ho : ∀ q : Nat, q < H.size → H'[q]? = H[q]?) : px_H cl G C F H' := by
  obtain ⟨h1, h2, h3, h4⟩ := h
  exact ⟨Nat.le_trans h1 hz, fun q hq => (ho q (Nat.lt_of_lt_of_le hq h1)).trans (h2 q hq), fun a e ha => ⟨(h3 a e ha).1, (h3 a e ha).2.kept (ho a (h3 a e ha).2.lt)⟩, fun a e ha => ⟨(h4 a e ha).1, (h4 a e ha).2.1, (h4 a e ha).2.2.kept (ho a (h4 a e ha).2.2.lt)⟩⟩
theorem px_ex_fit (kd : Nat) : Bundle.fit (px_ex kd) = true := by
  unfold px_ex
  split <;> decide +kernel
set_option maxHeartbeats 4000000 in
theorem px_throw {p : Program} {l : Launch} {e : Env} {R : Room} {s : State} {m : MethodId} {args : Array Value} {below : List Frame} {meth : Method} {c : Code} {V : px_V} {Y : px_L} {P : List px_M} {G : px_G} {F : px_P} {mc ms : Nat} {sc : Option (Nat × Nat × (Nat → Int32))} {M : px_M} {Po : Option Value → px_P → Prop} {Pt : Nat → px_P → Prop}
    (hl0 : l.stackTraces = false) (hx : p.tables.exec = Jvm.exec) (hb : c.code = M.2.2.1) (hml : c.maxLocals = M.2.2.2.1) (htab : c.exceptionTable.toList = tableOf (px_hh M)) (hown : s.vm.findClass M.2.1 = some m.cls) (hlocks : meth.locks = false) (hK : px_K V sc G s) (hsG : ∀ q : Nat, q < G.1 → s.heap[q]? = G.2.1[q]?) (hC : px_okC V Y) (hM : px_okM V P M)
    (hRf : px_fr M ≤ R.frames) (hRl : px_lo M ≤ R.locals) (hRc : mc ≤ R.cells) (hRs : ms ≤ R.slots) {pc idx kd : Nat} {N : Int} {L : List (Nat × Value)} {C : px_P} {k n : Nat} {H : Heap} {locs : List Loc} {ls : Array Slot}
    (hmem : (pc, Instr.new idx, 3) ∈ px_co M) (hp : px_pl (px_po M) idx = some (8, kd, N)) (h1 : k + 1 ≤ mc) (h2 : n + 6 ≤ ms) (hT : Pt kd C) (hH : px_H V.1 G C F H) (hl : lv_has ls M.2.2.2.1 L) (hlo : ∀ q ∈ locs, G.1 ≤ q.base) :
    W p l e R s m args below meth c H locs k n (vx_MQ below (px_Q V.1 G F Po) (px_X V.1 G F Pt) args s mc ms (fun q => G.1 ≤ q)) (F0 m pc ls []) := by
  intro T hT1 X
  have hts : ∀ w ∈ V.2.2.1, w.before args s = true := fun w hw => px_use (List.all_eq_true.mp hC.2.2.2.2.2.1 w hw) (hK.2.1 w hw)
  obtain ⟨g0, g1, g2, g3, g4⟩ := hM.2.1 _ (px_pl_mem hp)
  obtain ⟨is, tx, q1, d3, d4, d6, d9⟩ := g4 _ hmem rfl
  obtain ⟨sa, hsa⟩ := hK.2.2.2.2.2.1 _ q1
  have hsz : s.heap.size ≤ H.size := by rw [← hT1]; exact X.same.2.1
  have hS : va_S (fun q => G.1 ≤ q) s.heap H locs := ⟨hsz, fun q _ h => by
    have hq : q < G.1 := Nat.lt_of_not_le h
    rw [hH.2.1 q hq, hsG q hq], hlo⟩
  have hkept : ∀ a : Nat, a < G.2.1.size → ¬ G.1 ≤ a → s.heap[a]? = G.2.1[a]? := fun a _ h => hsG a (Nat.lt_of_not_le h)
  exact vx_throwS hx hb hl0 (own := M.2.1) (cls := px_ex kd) (text := tx) (names := ["java/lang/RuntimeException", "java/lang/Exception"]) (ik := idx) (is := is) (ic := N.toNat) (sa := sa) (A := fun q => G.1 ≤ q) hown (px_ex_fit kd) (by decide +kernel)
    (hts _ (g1 _ List.mem_cons_self)) (hts _ (g1 _ (List.mem_cons_of_mem _ List.mem_cons_self))) hsa (fun w hw => hts _ (g1 _ (List.mem_cons_of_mem _ (List.mem_cons_of_mem _ hw))))
    (fun w hw => by
      unfold vx_ot
      rw [px_wb_on (List.all_eq_true.mp hC.2.2.2.2.2.1 w (g1 w hw))]
      rfl)
    (hK.2.2.2.2.2.2.2.1.kept hkept) (hK.2.2.2.2.2.2.2.2.kept hkept) hS (by rw [hml]; exact hl.1)
    (hM.1 _ hmem).1 d3 d4 d6 d9 (fun x hx => by rw [htab, g0] at hx; cases hx)
    (by show 2 + 3 < R.frames; omega) (by show 0 + (13 * (2 + 1) + 43) ≤ R.locals; omega) (by omega) (by omega) hlocks
    (fun t _ hz ho => ⟨kd, C, rfl, hT, hH.grow hz ho⟩) hlo h1 h2 T hT1 X
set_option maxHeartbeats 4000000 in
/-- what the pure picture says of a method, the machine does -/
theorem px_sound {l : Launch} (hl0 : l.stackTraces = false) {V : px_V} {Y : px_L} {P : List px_M} {sc : Option (Nat × Nat × (Nat → Int32))} {G : px_G} (hC : px_okC V Y) (hP : ∀ (j : Nat) (M : px_M), P[j]? = some M → px_okM V P M) :
    ∀ (d j : Nat) (av : List Value) (C : px_P) (mc ms : Nat) (Po : Option Value → px_P → Prop) (Pt : Nat → px_P → Prop) (F : px_P), px_W Y P G.1 sc d j av C mc ms Po Pt → ∃ M, P[j]? = some M ∧ vx_Met l M.1 [px_cw M] (px_rm M mc ms) (px_Pc V sc G F av C) (px_Q V.1 G F Po) (px_X V.1 G F Pt) mc ms (fun q => G.1 ≤ q) := by
  intro d
  induction d with
  | zero => intro j av C mc ms Po Pt F h; exact h.elim
  | succ d ih =>
    intro j av C mc ms Po Pt F h
    obtain ⟨M, hj, hav, hW⟩ := h
    have hM := hP j M hj
    have body : ∀ p e s m args below meth c s₁, BodyLoose p l M.1 (headSpec [px_cw M] (px_rm M mc ms)) M.2.2.1 M.2.2.2.1 M.2.2.2.2.1 e s m args below meth c s₁ → c.maxLocals = M.2.2.2.1 → c.exceptionTable.toList = tableOf (px_hh M) → px_Pc V sc G F av C args s →
        W p l e (px_rm M mc ms) s m args below meth c s.heap [] 0 0 (vx_MQ below (px_Q V.1 G F Po) (px_X V.1 G F Pt) args s mc ms (fun q => G.1 ≤ q)) (entryFrame m args M.2.2.2.1) := by
      intro p e s m args below meth c s₁ B hml htab hv
      obtain ⟨rfl, hH, hK⟩ := hv
      have hx := B.exec
      have hb := B.bytes
      have hr := B.returns
      have hown : s.vm.findClass M.2.1 = some m.cls := by rw [← hM.2.2.2.1]; exact findClass_of_methodNamed B.named
      have hlocks := B.notSynchronized
      have hnm : meth.name = M.1.name := (name_of_methodNamed B.named B.method).1
      have hl := lv_entry av (n := M.2.2.2.1) hav
      rw [lg_entry_eq]
      generalize (lg_sl av ++ List.replicate (M.2.2.2.1 - (lg_sl av).length) Slot.unset).toArray = ls at hl ⊢
      have key := hW (fun sx => ∀ (H : Heap) (locs : List Loc) (ls : Array Slot), px_H V.1 G sx.2.2.2.1 F H → lv_has ls M.2.2.2.1 sx.2.1 → (∀ q ∈ locs, G.1 ≤ q.base) → sx.2.2.2.2.1 ≤ mc → sx.2.2.2.2.2 ≤ ms → W p l e (px_rm M mc ms) s m av.toArray below meth c H locs sx.2.2.2.2.1 sx.2.2.2.2.2 (vx_MQ below (px_Q V.1 G F Po) (px_X V.1 G F Pt) av.toArray s mc ms (fun q => G.1 ≤ q)) (F0 m sx.1 ls sx.2.2.1)) (fun pc L L' st C9 k n hs h9 H locs ls hH hl hlo hk hn => h9 H locs ls hH (px_sub_has hl hs) hlo hk hn) ?_
      · exact key s.heap [] ls hH hl (fun q h => by cases h) (Nat.zero_le _) (Nat.zero_le _)
      · refine px_step hx hb hml htab hown hnm hK hC hM (fun j M' h => (hP j M' h).2.2.2.2.2) (Nat.le_refl _) (Nat.le_refl _) (Nat.le_refl _) (Nat.le_refl _) ?_ ?_ ?_ ?_ ?_ ?_ ?_ (fun sx h => h)
        · intro j' av' C' mc' ms' Po' Pt' h
          exact ih j' av' C' mc' ms' Po' Pt' F h
        · intro b N xs hsm H hHq
          have hsc : sc = some (b, N, xs) := by
            cases hfl : px_fl M with
            | true => rw [hfl] at hsm; exact hsm
            | false => rw [hfl] at hsm; cases hsm
          obtain ⟨hb1, scr, s1, s2⟩ := hK.2.2.2.2.1 b N xs hsc
          exact ⟨scr, (hHq b hb1).trans s1, s2⟩
        · intro pc idx kd N L C1 k n H locs ls hmem hp h1 h2 hT hH1 hl1 hlo
          exact px_throw hl0 hx hb hml htab hown hlocks hK hH.2.1 hC hM (Nat.le_refl _) (Nat.le_refl _) (Nat.le_refl _) (Nat.le_refl _) hmem hp h1 h2 hT hH1 hl1 hlo
        · intro pc C1 k n H locs ls v hd hT hH1 hlo h1 h2
          refine W.widen h1 h2 (vx_ret ?_)
          unfold px_rt at hT
          split at hT
          · rename_i hret
            exact W.iret hx hb (hr.trans hret) (fun t ht hW => ⟨_, C1, rfl, hT, by rw [ht]; exact hH1⟩) hlo hd
          · rename_i hret
            refine W.zret (ty := .boolean) hx hb (hr.trans hret) ?_ (fun t ht hW => ⟨_, C1, rfl, hT.2, by rw [ht]; exact hH1⟩) hlo hd
            rcases hT.1 with rfl | rfl <;> rfl
          · exact hT.elim
        · intro pc C1 k n H locs ls v hd hT hH1 hlo h1 h2
          refine W.widen h1 h2 (vx_ret ?_)
          unfold px_rl at hT
          split at hT
          · rename_i hret
            exact W.lret hx hb (hr.trans hret) (fun t ht hW => ⟨_, C1, rfl, hT, by rw [ht]; exact hH1⟩) hlo hd
          · exact hT.elim
        · intro pc C1 k n H locs ls v hd hv hT hH1 hlo h1 h2
          refine W.widen h1 h2 (vx_ret ?_)
          unfold px_ra at hT
          split at hT
          · rename_i nm hret
            exact W.aret hx hb (hr.trans hret) (Or.inl ⟨nm, rfl⟩) hv (fun t ht hW => ⟨_, C1, rfl, hT, by rw [ht]; exact hH1⟩) hlo hd
          · rename_i nm hret
            exact W.aret hx hb (hr.trans hret) (Or.inr ⟨nm, rfl⟩) hv (fun t ht hW => ⟨_, C1, rfl, hT, by rw [ht]; exact hH1⟩) hlo hd
          · exact hT.elim
        · intro pc C1 k n H locs ls hd hT hH1 hlo h1 h2
          refine W.widen h1 h2 (vx_ret ?_)
          unfold px_rv at hT
          split at hT
          · rename_i hret
            exact W.vret hx hb (hr.trans hret) (fun t ht hW => ⟨_, C1, rfl, hT, by rw [ht]; exact hH1⟩) hlo hd
          · exact hT.elim
    refine ⟨M, hj, ?_⟩
    cases hq : px_hh M with
    | nil =>
      refine vx_ofW (cc := M.2.2.1) (maxL := M.2.2.2.1) (ret := M.2.2.2.2.1) (ws' := []) hM.2.2.2.2.1 (by rw [px_cw0 hq]) ?_
      intro p e s m args below meth c s₁ B hml ht hv
      exact body p e s m args below meth c s₁ B hml (by rw [hq]; exact List.eq_nil_iff_forall_not_mem.mpr ht) hv
    | cons q0 r0 =>
      have hcw : px_cw M = Cond.codeWith M.1 M.2.2.1 M.2.2.2.1 M.2.2.2.2.1 (q0 :: r0) := by unfold px_cw; rw [hq]
      refine vx_ofWH (cc := M.2.2.1) (maxL := M.2.2.2.1) (ret := M.2.2.2.2.1) (hh := q0 :: r0) (ws' := []) hM.2.2.2.2.1 (by rw [hcw]) ?_
      intro p e s m args below meth c s₁ B hml hv
      exact body p e s m args below meth c s₁ B hml (by rw [hq]; exact vx_table (x := M.1) B (by rw [← hcw]; exact atoms_spec (ws := [px_cw M]) B.pre _ List.mem_cons_self)) hv
