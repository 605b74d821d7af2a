theorem px_pok20 {V : px_V} {P : List px_M} {M0 : px_M} {idx ci j : Nat} {np : Int} (h : px_pok V P M0 (idx, ci + 20, j, np)) (hc : ci < 10) : ∃ M T N, P[j]? = some M ∧ px_lnk V.2.2.1 M0.2.1 idx M np.toNat (px_fr M0) (px_lo M0) ∧ px_hh M = [] ∧ Cond.methodLink M0.2.1 idx M.1 ∈ V.2.2.1 ∧ Cond.instanceMethod M.1 ∈ V.2.2.1 ∧ Cond.selects M.1.cls M.1 M.1 ∈ V.2.2.1 ∧ V.1[ci]? = some (M.1.cls, T, N) := by
  rcases (by omega : ci = 0 ∨ ci = 1 ∨ ci = 2 ∨ ci = 3 ∨ ci = 4 ∨ ci = 5 ∨ ci = 6 ∨ ci = 7 ∨ ci = 8 ∨ ci = 9) with rfl | rfl | rfl | rfl | rfl | rfl | rfl | rfl | rfl | rfl <;> exact h
theorem px_pok10 {V : px_V} {P : List px_M} {M0 : px_M} {idx ci j : Nat} {np : Int} (h : px_pok V P M0 (idx, ci + 10, j, np)) (hc : ci < 10) : ∃ M T N, P[j]? = some M ∧ px_lnk V.2.2.1 M0.2.1 idx M np.toNat (px_fr M0) (px_lo M0) ∧ px_hh M = [] ∧ Cond.instanceMethod M.1 ∈ V.2.2.1 ∧ Cond.selects M.1.cls M.1 M.1 ∈ V.2.2.1 ∧ V.1[ci]? = some (M.1.cls, T, N) := by
  rcases (by omega : ci = 0 ∨ ci = 1 ∨ ci = 2 ∨ ci = 3 ∨ ci = 4 ∨ ci = 5 ∨ ci = 6 ∨ ci = 7 ∨ ci = 8 ∨ ci = 9) with rfl | rfl | rfl | rfl | rfl | rfl | rfl | rfl | rfl | rfl <;> exact h
def px_rm (M : px_M) (mc ms : Nat) : Room := { frames := px_fr M, cells := mc, slots := ms, locals := px_lo M }
set_option maxHeartbeats 4000000 in
/-- every instruction -/
theorem px_step {p : Program} {l : Launch} {e : Env} {R : Room} {s : State} {m : MethodId} {args : Array Value} {below : List Frame} {meth : Method} {c : Code} {V : px_V} {Y : px_L} {P : List px_M} {G : px_G} {F : px_P} {cal : px_Cal} {mc ms : Nat} {sc sm : Option (Nat × Nat × (Nat → Int32))} {M : px_M} {Po : Option Value → px_P → Prop} {Pt : Nat → px_P → Prop} {Qw : State → Prop} {X : px_S → Prop}
    (hx : p.tables.exec = Jvm.exec) (hb : c.code = M.2.2.1) (hml : c.maxLocals = M.2.2.2.1) (htab : c.exceptionTable.toList = tableOf (px_hh M)) (hown : s.vm.findClass M.2.1 = some m.cls) (hnm : meth.name = M.1.name) (hK : px_K V sc G s) (hC : px_okC V Y) (hM : px_okM V P M) (hPc : ∀ (j : Nat) (M' : px_M), P[j]? = some M' → px_cw M' ∈ V.2.2.1)
    (hRf : px_fr M ≤ R.frames) (hRl : px_lo M ≤ R.locals) (hRc : mc ≤ R.cells) (hRs : ms ≤ R.slots)
    (hcal : ∀ j av C mc' ms' Po' Pt', cal j av C mc' ms' Po' Pt' → ∃ M', P[j]? = some M' ∧ vx_Met l M'.1 [px_cw M'] (px_rm M' mc' ms') (px_Pc V sc G F av C) (px_Q V.1 G F Po') (px_X V.1 G F Pt') mc' ms' (fun q => G.1 ≤ q))
    (hsc : ∀ b N xs, sm = some (b, N, xs) → ∀ H : Heap, (∀ q : Nat, q < G.1 → H[q]? = G.2.1[q]?) → va_X b N xs s H)
    (hth : ∀ (pc idx kd : Nat) (N : Int) (L : List (Nat × Value)) (C : px_P) (k n : Nat) (H : Heap) (locs : List Loc) (ls : Array Slot), (pc, Instr.new idx, 3) ∈ px_co M → px_pl (px_po M) idx = some (8, kd, N) → k + 1 ≤ mc → n + 6 ≤ ms → Pt kd C → px_H V.1 G C F H → lv_has ls M.2.2.2.1 L → (∀ q ∈ locs, G.1 ≤ q.base) → W p l e R s m args below meth c H locs k n Qw (F0 m pc ls []))
    (hri : ∀ (pc : Nat) (C : px_P) (k n : Nat) (H : Heap) (locs : List Loc) (ls : Array Slot) (v : Int32), decode M.2.2.1 pc = .ok (.ireturn, 1) → px_rt M.2.2.2.2.1 v (Po (some (.int v)) C) → px_H V.1 G C F H → (∀ q ∈ locs, G.1 ≤ q.base) → k ≤ mc → n ≤ ms → W p l e R s m args below meth c H locs k n Qw (F0 m pc ls [.int v]))
    (hrl : ∀ (pc : Nat) (C : px_P) (k n : Nat) (H : Heap) (locs : List Loc) (ls : Array Slot) (v : Int64), decode M.2.2.1 pc = .ok (.lreturn, 1) → px_rl M.2.2.2.2.1 (Po (some (.long v)) C) → px_H V.1 G C F H → (∀ q ∈ locs, G.1 ≤ q.base) → k ≤ mc → n ≤ ms → W p l e R s m args below meth c H locs k n Qw (F0 m pc ls [.long v]))
    (hra : ∀ (pc : Nat) (C : px_P) (k n : Nat) (H : Heap) (locs : List Loc) (ls : Array Slot) (v : Value), decode M.2.2.1 pc = .ok (.areturn, 1) → (v = .null ∨ ∃ a, v = .ref a) → px_ra M.2.2.2.2.1 (Po (some v) C) → px_H V.1 G C F H → (∀ q ∈ locs, G.1 ≤ q.base) → k ≤ mc → n ≤ ms → W p l e R s m args below meth c H locs k n Qw (F0 m pc ls [v]))
    (hrv : ∀ (pc : Nat) (C : px_P) (k n : Nat) (H : Heap) (locs : List Loc) (ls : Array Slot), decode M.2.2.1 pc = .ok (.return_, 1) → px_rv M.2.2.2.2.1 (Po none C) → px_H V.1 G C F H → (∀ q ∈ locs, G.1 ≤ q.base) → k ≤ mc → n ≤ ms → W p l e R s m args below meth c H locs k n Qw (F0 m pc ls []))
    (hX : ∀ sx : px_S, X sx → ∀ (H : Heap) (locs : List Loc) (ls : Array Slot), px_H V.1 G sx.2.2.2.1 F H → lv_has ls M.2.2.2.1 sx.2.1 → (∀ q ∈ locs, G.1 ≤ q.base) → sx.2.2.2.2.1 ≤ mc → sx.2.2.2.2.2 ≤ ms → W p l e R s m args below meth c H locs sx.2.2.2.2.1 sx.2.2.2.2.2 Qw (F0 m sx.1 ls sx.2.2.1)) :
    ∀ sx : px_S, px_T cal Y G.1 mc ms sm M Po Pt X sx → ∀ (H : Heap) (locs : List Loc) (ls : Array Slot), px_H V.1 G sx.2.2.2.1 F H → lv_has ls M.2.2.2.1 sx.2.1 → (∀ q ∈ locs, G.1 ≤ q.base) → sx.2.2.2.2.1 ≤ mc → sx.2.2.2.2.2 ≤ ms → W p l e R s m args below meth c H locs sx.2.2.2.2.1 sx.2.2.2.2.2 Qw (F0 m sx.1 ls sx.2.2.1) := by
  rintro ⟨pc, L, st, C, k, n⟩ hT H locs ls hH hl hlo hk hn
  dsimp only at hH hl hk hn ⊢
  have hts : ∀ w ∈ V.2.2.1, w.before args s = true := fun w hw => px_use (List.all_eq_true.mp hC.2.2.2.2.2.1 w hw) (hK.2.1 w hw)
  unfold px_T at hT
  dsimp only at hT
  cases hf : px_ft (px_co M) pc with
  | none =>
    rw [hf] at hT
    exact hT.elim
  | some i =>
    rw [hf] at hT
    dsimp only at hT
    obtain ⟨len, hmem⟩ := px_ft_mem hf
    obtain ⟨hd, hc, hfin⟩ := hM.1 _ hmem
    dsimp only at hd hc hfin
    cases i with
    | aconst_null =>
      have e1 := px_b1 hc; subst e1
      exact lv_null hx hb hd (hX _ hT H locs ls hH hl hlo hk hn)
    | iconst v =>
      obtain ⟨e1, e2⟩ := px_b2 hc; subst e1
      exact lv_iconst hx hb hd e2 (hX _ hT H locs ls hH hl hlo hk hn)
    | bipush v =>
      obtain ⟨e1, e2⟩ := px_b2 hc; subst e1
      exact lv_bipush hx hb hd e2 (hX _ hT H locs ls hH hl hlo hk hn)
    | sipush v =>
      obtain ⟨e1, e2⟩ := px_b2 hc; subst e1
      exact lv_sipush hx hb hd e2 (hX _ hT H locs ls hH hl hlo hk hn)
    | lconst v =>
      have e1 := px_b1 hc; subst e1
      exact lv_lconst hx hb hd rfl (hX _ hT H locs ls hH hl hlo hk hn)
    | ldc2_w idx =>
      have hT : px_pj (px_pl (px_po M) idx) fun v => X (pc + 3, L, .long (px_jc v) :: st, C, k, n) := hT
      have e1 := px_b1 hc; subst e1
      obtain ⟨z, v, hp, hT⟩ := px_pj_v hT
      exact lv_ldc2 hx hb hown (hts _ (hM.2.1 _ (px_pl_mem hp))) hd (hX _ hT H locs ls hH hl hlo hk hn)
    | ldc idx =>
      have hT : px_pc (px_pl (px_po M) idx) fun v => X (pc + 2, L, .int (px_ic v) :: st, C, k, n) := hT
      have e1 := px_b1 hc; subst e1
      obtain ⟨z, v, hp, hT⟩ := px_pc_v hT
      exact lv_ldc hx hb hown (hts _ (hM.2.1 _ (px_pl_mem hp))) hd (hX _ hT H locs ls hH hl hlo hk hn)
    | iload a =>
      have hT : px_ai (px_lk L a) fun x => X (pc + 2, L, .int x :: st, C, k, n) := hT
      have e1 := px_b1 hc; subst e1
      obtain ⟨x, hv, hT⟩ := px_ai_v hT
      exact lv_iload hx hb hd (px_lk_at hl hv) (hX _ hT H locs ls hH hl hlo hk hn)
    | iload_n a =>
      have hT : px_ai (px_lk L a.val) fun x => X (pc + 1, L, .int x :: st, C, k, n) := hT
      have e1 := px_b1 hc; subst e1
      obtain ⟨x, hv, hT⟩ := px_ai_v hT
      exact lv_iload_n hx hb hd rfl (px_lk_at hl hv) (hX _ hT H locs ls hH hl hlo hk hn)
    | lload a =>
      have hT : px_aj (px_lk L a) fun x => X (pc + 2, L, .long x :: st, C, k, n) := hT
      have e1 := px_b1 hc; subst e1
      obtain ⟨x, hv, hT⟩ := px_aj_v hT
      exact lv_lload hx hb hd (px_lk_at hl hv) (hX _ hT H locs ls hH hl hlo hk hn)
    | lload_n a =>
      have hT : px_aj (px_lk L a.val) fun x => X (pc + 1, L, .long x :: st, C, k, n) := hT
      have e1 := px_b1 hc; subst e1
      obtain ⟨x, hv, hT⟩ := px_aj_v hT
      exact lv_lload_n hx hb hd rfl (px_lk_at hl hv) (hX _ hT H locs ls hH hl hlo hk hn)
    | aload a =>
      have hT : px_aa (px_lk L a) fun x => X (pc + 2, L, x :: st, C, k, n) := hT
      have e1 := px_b1 hc; subst e1
      rcases px_aa_v hT with ⟨x, hv, hT⟩ | ⟨hv, hT⟩
      · exact lv_aload hx hb hd (px_lk_at hl hv) (hX _ hT H locs ls hH hl hlo hk hn)
      · exact lv_aloadN hx hb hd (px_lk_at hl hv) (hX _ hT H locs ls hH hl hlo hk hn)
    | aload_n a =>
      have hT : px_aa (px_lk L a.val) fun x => X (pc + 1, L, x :: st, C, k, n) := hT
      have e1 := px_b1 hc; subst e1
      rcases px_aa_v hT with ⟨x, hv, hT⟩ | ⟨hv, hT⟩
      · exact lv_aload_n hx hb hd rfl (px_lk_at hl hv) (hX _ hT H locs ls hH hl hlo hk hn)
      · exact lv_aload_nN hx hb hd rfl (px_lk_at hl hv) (hX _ hT H locs ls hH hl hlo hk hn)
    | istore a =>
      have hT : px_si st fun x r => X (pc + 2, px_s1 L a (.int x), r, C, k, n) := hT
      obtain ⟨e1, e2⟩ := px_b2 hc; subst e1
      obtain ⟨x, r, rfl, hT⟩ := px_si_v hT
      exact lv_istore hx hb hd hl e2 rfl (fun ls hl => hX _ hT H locs ls hH hl hlo hk hn)
    | istore_n a =>
      have hT : px_si st fun x r => X (pc + 1, px_s1 L a.val (.int x), r, C, k, n) := hT
      obtain ⟨e1, e2⟩ := px_b2 hc; subst e1
      obtain ⟨x, r, rfl, hT⟩ := px_si_v hT
      exact lv_istore_n hx hb hd rfl hl e2 rfl (fun ls hl => hX _ hT H locs ls hH hl hlo hk hn)
    | lstore a =>
      have hT : px_sj st fun x r => X (pc + 2, px_s2 L a (.long x), r, C, k, n) := hT
      obtain ⟨e1, e2⟩ := px_b2 hc; subst e1
      obtain ⟨x, r, rfl, hT⟩ := px_sj_v hT
      exact lv_lstore hx hb hd hl e2 rfl (fun ls hl => hX _ hT H locs ls hH hl hlo hk hn)
    | lstore_n a =>
      have hT : px_sj st fun x r => X (pc + 1, px_s2 L a.val (.long x), r, C, k, n) := hT
      obtain ⟨e1, e2⟩ := px_b2 hc; subst e1
      obtain ⟨x, r, rfl, hT⟩ := px_sj_v hT
      exact lv_lstore_n hx hb hd rfl hl e2 rfl (fun ls hl => hX _ hT H locs ls hH hl hlo hk hn)
    | astore a =>
      have hT : px_sa st fun x r => X (pc + 2, px_s1 L a x, r, C, k, n) := hT
      obtain ⟨e1, e2⟩ := px_b2 hc; subst e1
      rcases px_sa_v hT with ⟨x, r, rfl, hT⟩ | ⟨r, rfl, hT⟩
      · exact lv_astore hx hb hd hl e2 rfl (fun ls hl => hX _ hT H locs ls hH hl hlo hk hn)
      · exact lv_astoreN hx hb hd hl e2 rfl (fun ls hl => hX _ hT H locs ls hH hl hlo hk hn)
    | astore_n a =>
      have hT : px_sa st fun x r => X (pc + 1, px_s1 L a.val x, r, C, k, n) := hT
      obtain ⟨e1, e2⟩ := px_b2 hc; subst e1
      rcases px_sa_v hT with ⟨x, r, rfl, hT⟩ | ⟨r, rfl, hT⟩
      · exact lv_astore_n hx hb hd rfl hl e2 rfl (fun ls hl => hX _ hT H locs ls hH hl hlo hk hn)
      · exact lv_astore_nN hx hb hd rfl hl e2 rfl (fun ls hl => hX _ hT H locs ls hH hl hlo hk hn)
    | iinc a v =>
      have hT : px_ai (px_lk L a) fun x => X (pc + 3, px_s1 L a (.int (x + px_ic v)), st, C, k, n) := hT
      obtain ⟨e1, e2⟩ := px_b2 hc; subst e1
      obtain ⟨x, hv, hT⟩ := px_ai_v hT
      obtain ⟨k0, hk0⟩ := List.getElem?_of_mem (px_lk_mem hv)
      exact lv_iinc hx hb hd hl hk0 (by rw [e2.2]) e2.1 rfl (fun ls hl => hX _ hT H locs ls hH hl hlo hk hn)
    | iadd =>
      have hT : px_sii st fun x y r => X (pc + 1, L, .int (x + y) :: r, C, k, n) := hT
      have e1 := px_b1 hc; subst e1
      obtain ⟨x, y, r, rfl, hT⟩ := px_sii_v hT
      exact lv_iadd hx hb hd (hX _ hT H locs ls hH hl hlo hk hn)
    | isub =>
      have hT : px_sii st fun x y r => X (pc + 1, L, .int (x - y) :: r, C, k, n) := hT
      have e1 := px_b1 hc; subst e1
      obtain ⟨x, y, r, rfl, hT⟩ := px_sii_v hT
      exact lv_isub hx hb hd (hX _ hT H locs ls hH hl hlo hk hn)
    | imul =>
      have hT : px_sii st fun x y r => X (pc + 1, L, .int (x * y) :: r, C, k, n) := hT
      have e1 := px_b1 hc; subst e1
      obtain ⟨x, y, r, rfl, hT⟩ := px_sii_v hT
      exact lv_imul hx hb hd (hX _ hT H locs ls hH hl hlo hk hn)
    | iand =>
      have hT : px_sii st fun x y r => X (pc + 1, L, .int (x &&& y) :: r, C, k, n) := hT
      have e1 := px_b1 hc; subst e1
      obtain ⟨x, y, r, rfl, hT⟩ := px_sii_v hT
      exact lv_iand hx hb hd (hX _ hT H locs ls hH hl hlo hk hn)
    | ior =>
      have hT : px_sii st fun x y r => X (pc + 1, L, .int (x ||| y) :: r, C, k, n) := hT
      have e1 := px_b1 hc; subst e1
      obtain ⟨x, y, r, rfl, hT⟩ := px_sii_v hT
      exact lv_ior hx hb hd (hX _ hT H locs ls hH hl hlo hk hn)
    | ixor =>
      have hT : px_sii st fun x y r => X (pc + 1, L, .int (x ^^^ y) :: r, C, k, n) := hT
      have e1 := px_b1 hc; subst e1
      obtain ⟨x, y, r, rfl, hT⟩ := px_sii_v hT
      exact lv_ixor hx hb hd (hX _ hT H locs ls hH hl hlo hk hn)
    | ishl =>
      have hT : px_sii st fun x y r => X (pc + 1, L, .int (x <<< (y &&& 31)) :: r, C, k, n) := hT
      have e1 := px_b1 hc; subst e1
      obtain ⟨x, y, r, rfl, hT⟩ := px_sii_v hT
      exact lv_ishl hx hb hd (hX _ hT H locs ls hH hl hlo hk hn)
    | ishr =>
      have hT : px_sii st fun x y r => X (pc + 1, L, .int (x >>> (y &&& 31)) :: r, C, k, n) := hT
      have e1 := px_b1 hc; subst e1
      obtain ⟨x, y, r, rfl, hT⟩ := px_sii_v hT
      exact lv_ishr hx hb hd (hX _ hT H locs ls hH hl hlo hk hn)
    | iushr =>
      have hT : px_sii st fun x y r => X (pc + 1, L, .int ((x.toUInt32 >>> (y.toUInt32 &&& Int32.toUInt32 31)).toInt32) :: r, C, k, n) := hT
      have e1 := px_b1 hc; subst e1
      obtain ⟨x, y, r, rfl, hT⟩ := px_sii_v hT
      exact lv_iushr hx hb hd rfl (hX _ hT H locs ls hH hl hlo hk hn)
    | idiv =>
      have hT : px_sii st fun x y r => ¬ y = 0 ∧ X (pc + 1, L, .int (x / y) :: r, C, k, n) := hT
      have e1 := px_b1 hc; subst e1
      obtain ⟨x, y, r, rfl, h0, hT⟩ := px_sii_v hT
      exact lv_idiv hx hb hd h0 (hX _ hT H locs ls hH hl hlo hk hn)
    | irem =>
      have hT : px_sii st fun x y r => ¬ y = 0 ∧ X (pc + 1, L, .int (x - x / y * y) :: r, C, k, n) := hT
      have e1 := px_b1 hc; subst e1
      obtain ⟨x, y, r, rfl, h0, hT⟩ := px_sii_v hT
      exact lv_irem hx hb hd h0 (hX _ hT H locs ls hH hl hlo hk hn)
    | ineg =>
      have hT : px_si st fun x r => X (pc + 1, L, .int (-x) :: r, C, k, n) := hT
      have e1 := px_b1 hc; subst e1
      obtain ⟨x, r, rfl, hT⟩ := px_si_v hT
      exact lv_ineg hx hb hd (hX _ hT H locs ls hH hl hlo hk hn)
    | ladd =>
      have hT : px_sjj st fun x y r => X (pc + 1, L, .long (x + y) :: r, C, k, n) := hT
      have e1 := px_b1 hc; subst e1
      obtain ⟨x, y, r, rfl, hT⟩ := px_sjj_v hT
      exact lv_ladd hx hb hd (hX _ hT H locs ls hH hl hlo hk hn)
    | lsub =>
      have hT : px_sjj st fun x y r => X (pc + 1, L, .long (x - y) :: r, C, k, n) := hT
      have e1 := px_b1 hc; subst e1
      obtain ⟨x, y, r, rfl, hT⟩ := px_sjj_v hT
      exact lv_lsub hx hb hd (hX _ hT H locs ls hH hl hlo hk hn)
    | lmul =>
      have hT : px_sjj st fun x y r => X (pc + 1, L, .long (x * y) :: r, C, k, n) := hT
      have e1 := px_b1 hc; subst e1
      obtain ⟨x, y, r, rfl, hT⟩ := px_sjj_v hT
      exact lv_lmul hx hb hd (hX _ hT H locs ls hH hl hlo hk hn)
    | land =>
      have hT : px_sjj st fun x y r => X (pc + 1, L, .long (x &&& y) :: r, C, k, n) := hT
      have e1 := px_b1 hc; subst e1
      obtain ⟨x, y, r, rfl, hT⟩ := px_sjj_v hT
      exact lv_land hx hb hd (hX _ hT H locs ls hH hl hlo hk hn)
    | lor =>
      have hT : px_sjj st fun x y r => X (pc + 1, L, .long (x ||| y) :: r, C, k, n) := hT
      have e1 := px_b1 hc; subst e1
      obtain ⟨x, y, r, rfl, hT⟩ := px_sjj_v hT
      exact lv_lor hx hb hd (hX _ hT H locs ls hH hl hlo hk hn)
    | lxor =>
      have hT : px_sjj st fun x y r => X (pc + 1, L, .long (x ^^^ y) :: r, C, k, n) := hT
      have e1 := px_b1 hc; subst e1
      obtain ⟨x, y, r, rfl, hT⟩ := px_sjj_v hT
      exact lv_lxor hx hb hd (hX _ hT H locs ls hH hl hlo hk hn)
    | lshl =>
      have hT : px_sij st fun x y r => X (pc + 1, L, .long (x <<< (y.toInt64 &&& 63)) :: r, C, k, n) := hT
      have e1 := px_b1 hc; subst e1
      obtain ⟨x, y, r, rfl, hT⟩ := px_sij_v hT
      exact lv_lshl hx hb hd rfl (hX _ hT H locs ls hH hl hlo hk hn)
    | lshr =>
      have hT : px_sij st fun x y r => X (pc + 1, L, .long (x >>> (y.toInt64 &&& 63)) :: r, C, k, n) := hT
      have e1 := px_b1 hc; subst e1
      obtain ⟨x, y, r, rfl, hT⟩ := px_sij_v hT
      exact lv_lshr hx hb hd rfl (hX _ hT H locs ls hH hl hlo hk hn)
    | lushr =>
      have hT : px_sij st fun x y r => X (pc + 1, L, .long ((x.toUInt64 >>> (y.toInt64.toUInt64 &&& Int64.toUInt64 63)).toInt64) :: r, C, k, n) := hT
      have e1 := px_b1 hc; subst e1
      obtain ⟨x, y, r, rfl, hT⟩ := px_sij_v hT
      exact lv_lushr hx hb hd rfl (hX _ hT H locs ls hH hl hlo hk hn)
    | i2l =>
      have hT : px_si st fun x r => X (pc + 1, L, .long x.toInt64 :: r, C, k, n) := hT
      have e1 := px_b1 hc; subst e1
      obtain ⟨x, r, rfl, hT⟩ := px_si_v hT
      exact lv_i2l hx hb hd rfl (hX _ hT H locs ls hH hl hlo hk hn)
    | l2i =>
      have hT : px_sj st fun x r => X (pc + 1, L, .int x.toInt32 :: r, C, k, n) := hT
      have e1 := px_b1 hc; subst e1
      obtain ⟨x, r, rfl, hT⟩ := px_sj_v hT
      exact lv_l2i hx hb hd rfl (hX _ hT H locs ls hH hl hlo hk hn)
    | lcmp =>
      have hT : px_sjj st fun x y r => X (pc + 1, L, .int (lg_cmp x y) :: r, C, k, n) := hT
      have e1 := px_b1 hc; subst e1
      obtain ⟨x, y, r, rfl, hT⟩ := px_sjj_v hT
      exact W.lcmp hx hb hd (hX _ hT H locs ls hH hl hlo hk hn)
    | dup =>
      have hT : px_sv st fun x r => X (pc + 1, L, x :: x :: r, C, k, n) := hT
      have e1 := px_b1 hc; subst e1
      rcases px_sv_v hT with ⟨x, r, rfl, hT⟩ | ⟨x, r, rfl, hT⟩
      · exact lv_dup hx hb hd rfl (hX _ hT H locs ls hH hl hlo hk hn)
      · exact lv_dup hx hb hd rfl (hX _ hT H locs ls hH hl hlo hk hn)
    | dup2 =>
      have hT : px_siv st fun y x r => X (pc + 1, L, .int y :: x :: .int y :: x :: r, C, k, n) := hT
      have e1 := px_b1 hc; subst e1
      rcases px_siv_v hT with ⟨y, x, r, rfl, hT⟩ | ⟨y, x, r, rfl, hT⟩
      · exact lv_dup2_11 hx hb hd rfl rfl (hX _ hT H locs ls hH hl hlo hk hn)
      · exact lv_dup2_11 hx hb hd rfl rfl (hX _ hT H locs ls hH hl hlo hk hn)
    | dup_x1 =>
      have hT : px_siv st fun y x r => X (pc + 1, L, .int y :: x :: .int y :: r, C, k, n) := hT
      have e1 := px_b1 hc; subst e1
      rcases px_siv_v hT with ⟨y, x, r, rfl, hT⟩ | ⟨y, x, r, rfl, hT⟩
      · exact lv_dup_x1 hx hb hd rfl rfl (hX _ hT H locs ls hH hl hlo hk hn)
      · exact lv_dup_x1 hx hb hd rfl rfl (hX _ hT H locs ls hH hl hlo hk hn)
    | pop =>
      have hT : px_sv st fun _ r => X (pc + 1, L, r, C, k, n) := hT
      have e1 := px_b1 hc; subst e1
      rcases px_sv_v hT with ⟨x, r, rfl, hT⟩ | ⟨x, r, rfl, hT⟩
      · exact lv_pop hx hb hd rfl (hX _ hT H locs ls hH hl hlo hk hn)
      · exact lv_pop hx hb hd rfl (hX _ hT H locs ls hH hl hlo hk hn)
    | ifCond cd off =>
      have hT : px_si st fun x r => px_c0 cd x (X (px_tg pc off, L, r, C, k, n)) (X (pc + 3, L, r, C, k, n)) := hT
      obtain ⟨e1, e2⟩ := px_b2 hc; subst e1
      obtain ⟨x, r, rfl, hT⟩ := px_si_v hT
      cases cd with
      | eq => exact lv_if_eq hx hb hd (px_tg_ok e2) (fun h => hX _ (hT.1 h) H locs ls hH hl hlo hk hn) (fun h => hX _ (hT.2 h) H locs ls hH hl hlo hk hn)
      | ne => exact lv_if_ne hx hb hd (px_tg_ok e2) (fun h => hX _ (hT.1 h) H locs ls hH hl hlo hk hn) (fun h => hX _ (hT.2 h) H locs ls hH hl hlo hk hn)
      | lt => exact lv_if_lt hx hb hd (px_tg_ok e2) (fun h => hX _ (hT.1 h) H locs ls hH hl hlo hk hn) (fun h => hX _ (hT.2 h) H locs ls hH hl hlo hk hn)
      | ge => exact lv_if_ge hx hb hd (px_tg_ok e2) (fun h => hX _ (hT.1 h) H locs ls hH hl hlo hk hn) (fun h => hX _ (hT.2 h) H locs ls hH hl hlo hk hn)
      | gt => exact lv_if_gt hx hb hd (px_tg_ok e2) (fun h => hX _ (hT.1 h) H locs ls hH hl hlo hk hn) (fun h => hX _ (hT.2 h) H locs ls hH hl hlo hk hn)
      | le => exact lv_if_le hx hb hd (px_tg_ok e2) (fun h => hX _ (hT.1 h) H locs ls hH hl hlo hk hn) (fun h => hX _ (hT.2 h) H locs ls hH hl hlo hk hn)
    | if_icmp cd off =>
      have hT : px_sii st fun x y r => px_c2 cd x y (X (px_tg pc off, L, r, C, k, n)) (X (pc + 3, L, r, C, k, n)) := hT
      obtain ⟨e1, e2⟩ := px_b2 hc; subst e1
      obtain ⟨x, y, r, rfl, hT⟩ := px_sii_v hT
      cases cd with
      | eq => exact lv_icmp_eq hx hb hd (px_tg_ok e2) (fun h => hX _ (hT.1 h) H locs ls hH hl hlo hk hn) (fun h => hX _ (hT.2 h) H locs ls hH hl hlo hk hn)
      | ne => exact lv_icmp_ne hx hb hd (px_tg_ok e2) (fun h => hX _ (hT.1 h) H locs ls hH hl hlo hk hn) (fun h => hX _ (hT.2 h) H locs ls hH hl hlo hk hn)
      | lt => exact lv_icmp_lt hx hb hd (px_tg_ok e2) (fun h => hX _ (hT.1 h) H locs ls hH hl hlo hk hn) (fun h => hX _ (hT.2 h) H locs ls hH hl hlo hk hn)
      | ge => exact lv_icmp_ge hx hb hd (px_tg_ok e2) (fun h => hX _ (hT.1 h) H locs ls hH hl hlo hk hn) (fun h => hX _ (hT.2 h) H locs ls hH hl hlo hk hn)
      | gt => exact lv_icmp_gt hx hb hd (px_tg_ok e2) (fun h => hX _ (hT.1 h) H locs ls hH hl hlo hk hn) (fun h => hX _ (hT.2 h) H locs ls hH hl hlo hk hn)
      | le => exact lv_icmp_le hx hb hd (px_tg_ok e2) (fun h => hX _ (hT.1 h) H locs ls hH hl hlo hk hn) (fun h => hX _ (hT.2 h) H locs ls hH hl hlo hk hn)
    | ifnull off =>
      have hT : px_sn st (fun r => X (px_tg pc off, L, r, C, k, n)) (fun r => X (pc + 3, L, r, C, k, n)) := hT
      obtain ⟨e1, e2⟩ := px_b2 hc; subst e1
      rcases px_sn_v hT with ⟨r, rfl, hT⟩ | ⟨a, r, rfl, hT⟩
      · exact lv_ifnullN hx hb hd (px_tg_ok e2) (hX _ hT H locs ls hH hl hlo hk hn)
      · exact lv_ifnull hx hb hd (hX _ hT H locs ls hH hl hlo hk hn)
    | ifnonnull off =>
      have hT : px_sn st (fun r => X (pc + 3, L, r, C, k, n)) (fun r => X (px_tg pc off, L, r, C, k, n)) := hT
      obtain ⟨e1, e2⟩ := px_b2 hc; subst e1
      rcases px_sn_v hT with ⟨r, rfl, hT⟩ | ⟨a, r, rfl, hT⟩
      · exact lv_ifnonnullN hx hb hd (hX _ hT H locs ls hH hl hlo hk hn)
      · exact lv_ifnonnull hx hb hd (px_tg_ok e2) (hX _ hT H locs ls hH hl hlo hk hn)
    | goto off =>
      obtain ⟨e1, e2⟩ := px_b2 hc; subst e1
      exact lv_goto hx hb hd (px_tg_ok e2) (hX _ hT H locs ls hH hl hlo hk hn)
    | tableswitch dd lo hi offs =>
      have hT : px_si st fun x r => px_sw pc x (fun t => X (t, L, r, C, k, n)) dd lo.toNat offs.toList := hT
      obtain ⟨x, r, rfl, hT⟩ := px_si_v hT
      exact px_tsw hx hb hd hc (fun t ht => hX _ ht H locs ls hH hl hlo hk hn) hT
    | getfield idx =>
      have hT : px_pf (px_pl (px_po M) idx) fun ci kf => px_sr st fun a r => ∃ fs v, C a = some (px_o ci fs) ∧ fs[kf]? = some v ∧ X (pc + 3, L, v :: r, C, k, n) := hT
      have e1 := px_b1 hc; subst e1
      obtain ⟨ci, kf, hp, hT⟩ := px_pf_v hT
      obtain ⟨a, r, rfl, fs, v, he, hv, hT⟩ := px_sr_v hT
      obtain ⟨C0, T0, N, h1, h2, h3, h4⟩ := hM.2.1 _ (px_pl_mem hp)
      exact px_get hx hb hts (hC.1 ci C0 T0 N h1).1 hown hK.1 hH he h1 kf.toNat h2 (h4.imp (fun h => hts _ h) (fun ⟨z, h⟩ => ⟨z, hts _ h⟩)) h3 hv hd (hX _ hT H locs ls hH hl hlo hk hn)
    | putfield idx =>
      have hT : px_pf (px_pl (px_po M) idx) fun ci kf => px_svr st fun v a r => ∃ fs, C a = some (px_o ci fs) ∧ kf < fs.length ∧ narrow (Y.1 ci kf) v = v ∧ fits (Y.1 ci kf) v = true ∧ X (pc + 3, L, r, px_up C a (px_o ci (fs.set kf v)), k, n) := hT
      have e1 := px_b1 hc; subst e1
      obtain ⟨ci, kf, hp, hT⟩ := px_pf_v hT
      obtain ⟨v, a, r, rfl, fs, he, hlt, hnr, hft, hT⟩ := px_svr_v hT
      obtain ⟨C0, T0, N, h1, h2, h3, h4⟩ := hM.2.1 _ (px_pl_mem hp)
      obtain ⟨g1, g2, g3, -⟩ := hC.1 ci C0 T0 N h1
      refine px_put hx hb hts g1 (Y.1 ci) g2 g3 hown hK.1 hH hlo he h1 kf.toNat h2 (h4.imp (fun h => hts _ h) (fun ⟨z, h⟩ => ⟨z, hts _ h⟩)) h3 ?_ hnr hft hlt hd (fun H1 locs1 hH1 hlo1 => hX _ hT H1 locs1 ls hH1 hl hlo1 hk hn)
      rcases hfin ci kf C0 T0 N hp h1 with q | ⟨q1, q2, q3, q4⟩
      · exact Or.inl q
      · exact Or.inr ⟨q1, by rw [hnm]; exact q2, q3, hts _ q4⟩
    | iaload =>
      have hT : px_sir st fun x a r => px_sc sm (∃ m f, C a = some (px_i m f) ∧ vp_in x m ∧ X (pc + 1, L, .int (f x.toNatClampNeg) :: r, C, k, n)) (fun b M xs => a = b ∧ vp_in x M ∧ X (pc + 1, L, .int (xs x.toNatClampNeg) :: r, C, k, n)) := hT
      have e1 := px_b1 hc; subst e1
      obtain ⟨x, a, r, rfl, hT⟩ := px_sir_v hT
      cases sm with
      | none =>
        obtain ⟨m0, f, he, hin, hT⟩ := hT
        exact va_iald hx hb hK.1 (hH.one he) 0 0 rfl (px_tys_at hC.2.1) hin hd (hX _ hT H locs ls hH hl hlo hk hn)
      | some q =>
        obtain ⟨b, M0, xs⟩ := q
        obtain ⟨e9, hin, hT9⟩ := hT
        subst e9
        obtain ⟨scr, s1, s2, s3, s4, s5⟩ := hsc _ _ _ rfl H hH.2.1
        exact W.iald hx hb s1 s2 s3 (by rw [s4]; exact hin) (s5 _ (Nat.not_le.mp fun q => hin (Or.inr q))) rfl rfl hd (hX _ hT9 H locs ls hH hl hlo hk hn)
    | iastore =>
      have hT : px_siir st fun v x a r => ∃ m f, C a = some (px_i m f) ∧ vp_in x m ∧ X (pc + 1, L, r, px_up C a (px_i m (upd f x.toNatClampNeg v)), k, n) := hT
      have e1 := px_b1 hc; subst e1
      obtain ⟨v, x, a, r, rfl, m0, f, he, hin, hT⟩ := px_siir_v hT
      exact px_iast hx hb hK.1 hH hlo hC.2.1 he hin hd (fun H1 locs1 hH1 hlo1 => hX _ hT H1 locs1 ls hH1 hl hlo1 hk hn)
    | baload =>
      have hT : px_sir st fun x a r => ∃ m f, C a = some (px_z m f) ∧ vp_in x m ∧ X (pc + 1, L, .int (f x.toNatClampNeg) :: r, C, k, n) := hT
      have e1 := px_b1 hc; subst e1
      obtain ⟨x, a, r, rfl, m0, f, he, hin, hT⟩ := px_sir_v hT
      exact va_zald hx hb hK.1 (hH.one he) 0 2 rfl (px_tys_at hC.2.2.2.1) hin hd (hX _ hT H locs ls hH hl hlo hk hn)
    | bastore =>
      have hT : px_siir st fun v x a r => ∃ m f, C a = some (px_z m f) ∧ vp_in x m ∧ X (pc + 1, L, r, px_up C a (px_z m (upd f x.toNatClampNeg (vp_nar .boolean v))), k, n) := hT
      have e1 := px_b1 hc; subst e1
      obtain ⟨v, x, a, r, rfl, m0, f, he, hin, hT⟩ := px_siir_v hT
      exact px_zast hx hb hK.1 hH hlo hC.2.2.2.1 he hin hd (fun H1 locs1 hH1 hlo1 => hX _ hT H1 locs1 ls hH1 hl hlo1 hk hn)
    | laload =>
      have hT : px_sir st fun x a r => ∃ m f, C a = some (px_j m f) ∧ vp_in x m ∧ X (pc + 1, L, .long (f x.toNatClampNeg) :: r, C, k, n) := hT
      have e1 := px_b1 hc; subst e1
      obtain ⟨x, a, r, rfl, m0, f, he, hin, hT⟩ := px_sir_v hT
      exact va_lald hx hb hK.1 (hH.one he) 0 1 rfl (px_tys_at hC.2.2.1) hin hd (hX _ hT H locs ls hH hl hlo hk hn)
    | lastore =>
      have hT : px_sjir st fun v x a r => ∃ m f, C a = some (px_j m f) ∧ vp_in x m ∧ X (pc + 1, L, r, px_up C a (px_j m (vp_updL f x.toNatClampNeg v)), k, n) := hT
      have e1 := px_b1 hc; subst e1
      obtain ⟨v, x, a, r, rfl, m0, f, he, hin, hT⟩ := px_sjir_v hT
      exact px_last hx hb hK.1 hH hlo hC.2.2.1 he hin hd (fun H1 locs1 hH1 hlo1 => hX _ hT H1 locs1 ls hH1 hl hlo1 hk hn)
    | aaload =>
      have hT : px_sir st fun x a r => ∃ t m f, C a = some (px_r t m f) ∧ (3 ≤ t ∧ t < Y.2.2.2) ∧ vp_in x m ∧ X (pc + 1, L, va_rf (f x.toNatClampNeg) :: r, C, k, n) := hT
      have e1 := px_b1 hc; subst e1
      obtain ⟨x, a, r, rfl, t, m0, f, he, ht, hin, hT⟩ := px_sir_v hT
      obtain ⟨r0, g1, g2⟩ := hC.2.2.2.2.1 t ht
      exact va_aldq hx hb hK.1 (hH.one he) 0 t rfl (px_tys_at g2) hin hd (hX _ hT H locs ls hH hl hlo hk hn)
    | aastore =>
      have hT : px_srir st fun v x a r => ∃ t m f vs, C a = some (px_r t m f) ∧ (3 ≤ t ∧ t < Y.2.2.2) ∧ vp_in x m ∧ C v = some (px_o (Y.2.2.1 t) vs) ∧ X (pc + 1, L, r, px_up C a (px_r t m (va_up f x.toNatClampNeg (some v))), k, n) := hT
      have e1 := px_b1 hc; subst e1
      obtain ⟨v, x, a, r, rfl, t, m0, f, vs, he, ht, hin, hv, hT⟩ := px_srir_v hT
      obtain ⟨r0, g1, g2⟩ := hC.2.2.2.2.1 t ht
      exact px_aast hx hb hK.1 hH hlo he g2 hv g1 hin hd (fun H1 locs1 hH1 hlo1 => hX _ hT H1 locs1 ls hH1 hl hlo1 hk hn)
    | arraylength =>
      have hT : px_sr st fun a r => px_sc sm (∃ m, px_len C Y.2.2.2 a = some m ∧ X (pc + 1, L, .int (nI m) :: r, C, k, n)) (fun b M _ => a = b ∧ X (pc + 1, L, .int (nI M) :: r, C, k, n)) := hT
      have e1 := px_b1 hc; subst e1
      obtain ⟨a, r, rfl, hT⟩ := px_sr_v hT
      cases sm with
      | none =>
        obtain ⟨m0, he, hT⟩ := hT
        exact px_alen hx hb hK.1 hC hH he hd (hX _ hT H locs ls hH hl hlo hk hn)
      | some q =>
        obtain ⟨b, M0, xs⟩ := q
        obtain ⟨e9, hT9⟩ := hT
        subst e9
        obtain ⟨scr, s1, s2, s3, s4, s5⟩ := hsc _ _ _ rfl H hH.2.1
        exact W.alen (n := nI M0) hx hb s1 s2 (by rw [s4]; rfl) rfl rfl hd (hX _ hT9 H locs ls hH hl hlo hk hn)
    | new idx =>
      have hT : px_pn (px_pl (px_po M) idx) (fun ci N => k + 1 ≤ mc ∧ n + N ≤ ms ∧ ∀ q, C q = none → G.1 ≤ q → X (pc + 3, L, .ref q :: st, px_up C q (px_o ci (Y.2.1 ci)), k + 1, n + N)) (fun kd _ => k + 1 ≤ mc ∧ n + 6 ≤ ms ∧ st = [] ∧ Pt kd C) := hT
      have e1 := px_b1 hc; subst e1
      rcases px_pn_v hT with ⟨ci, N, hp, h1, h2, hT⟩ | ⟨kd, N, hp, h1, h2, e9, hT9⟩
      · obtain ⟨C0, T0, g1, g2, g3, g4⟩ := hM.2.1 _ (px_pl_mem hp)
        obtain ⟨q1, q2, q3, q4⟩ := hC.1 ci C0 T0 _ g1
        exact px_new hx hb hts q1 (Y.1 ci) q2 hown (hts _ g2) (hts _ g3) (hts _ g4) hK.1 hH g1 q4 (by omega) (by omega) hd (fun q H1 hf hB hH1 => hX _ (hT q hf hB) H1 locs ls hH1 hl hlo h1 h2)
      · subst e9
        have e8 := hmem
        exact hth pc idx kd N L C k n H locs ls e8 hp h1 h2 hT9 hH hl hlo
    | newarray ty =>
      have hT : px_si st fun x r => ¬ x < 0 ∧ x.toNatClampNeg ≤ 65536 ∧ k + 1 ≤ mc ∧ n + x.toNatClampNeg ≤ ms ∧ px_at ty (∀ q, C q = none → G.1 ≤ q → X (pc + 2, L, .ref q :: r, px_up C q (px_i x.toNatClampNeg (fun _ => 0)), k + 1, n + x.toNatClampNeg)) (∀ q, C q = none → G.1 ≤ q → X (pc + 2, L, .ref q :: r, px_up C q (px_j x.toNatClampNeg (fun _ => 0)), k + 1, n + x.toNatClampNeg)) (∀ q, C q = none → G.1 ≤ q → X (pc + 2, L, .ref q :: r, px_up C q (px_z x.toNatClampNeg (fun _ => 0)), k + 1, n + x.toNatClampNeg)) := hT
      have e1 := px_b1 hc; subst e1
      obtain ⟨x, r, rfl, h0, hle, h1, h2, hT⟩ := px_si_v hT
      cases ty with
      | int => exact px_newi hx hb (px_useA hK.2.2.2.1.1) hK.1 hC hH h0 hle (by omega) (by omega) hd (fun q H1 hf hB hH1 => hX _ (hT q hf hB) H1 locs ls hH1 hl hlo h1 h2)
      | long => exact px_newj hx hb (px_useA hK.2.2.2.1.2.1) hK.1 hC hH h0 hle (by omega) (by omega) hd (fun q H1 hf hB hH1 => hX _ (hT q hf hB) H1 locs ls hH1 hl hlo h1 h2)
      | boolean => exact px_newz hx hb (px_useA hK.2.2.2.1.2.2) hK.1 hC hH h0 hle (by omega) (by omega) hd (fun q H1 hf hB hH1 => hX _ (hT q hf hB) H1 locs ls hH1 hl hlo h1 h2)
      | _ => exact hT.elim
    | anewarray idx =>
      have hT : px_pa (px_pl (px_po M) (idx + 65536)) fun t => px_si st fun x r => ¬ x < 0 ∧ x.toNatClampNeg ≤ 65536 ∧ k + 1 ≤ mc ∧ n + x.toNatClampNeg ≤ ms ∧ ∀ q, C q = none → G.1 ≤ q → X (pc + 3, L, .ref q :: r, px_up C q (px_r t x.toNatClampNeg (fun _ => none)), k + 1, n + x.toNatClampNeg) := hT
      have e1 := px_b1 hc; subst e1
      obtain ⟨t, z, hp, hT⟩ := px_pa_v hT
      obtain ⟨x, r, rfl, h0, hle, h1, h2, hT⟩ := px_si_v hT
      obtain ⟨C0, g1, g2⟩ := hM.2.1 _ (px_pl_mem hp)
      rw [Nat.add_sub_cancel] at g2
      exact px_newr hx hb hown (hts _ g2) (hK.2.2.1 t C0 g1) hK.1 g1 hH h0 hle (by omega) (by omega) hd (fun q H1 hf hB hH1 => hX _ (hT q hf hB) H1 locs ls hH1 hl hlo h1 h2)
    | invokespecial idx =>
      have hT : px_ps (px_pl (px_po M) idx) (px_sr st fun _ r => px_cat r ≤ 8 ∧ X (pc + 3, L, r, C, k, n)) (fun j np => px_sr (st.drop np) fun b r => px_cl cal mc ms k n j (.ref b :: (st.take np).reverse) r C fun st' C' k' n' => X (pc + 3, L, st', C', k', n')) := hT
      have e1 := px_b1 hc; subst e1
      rcases px_ps_v hT with ⟨z, w, hp, hT⟩ | ⟨j, np, hp, hT⟩
      · obtain ⟨a, r, rfl, h8, hT⟩ := px_sr_v hT
        obtain ⟨g1, g2, g3, g4, g5⟩ := hM.2.1 _ (px_pl_mem hp)
        exact W.objInit hx hb hown (hts _ g1) (hts _ g2) (hts _ g3) rfl (by rw [hml]; exact hl.1) rfl hd (by omega) (by show 2 * 0 + px_cat r + 12 ≤ R.locals; omega) (hX _ hT H locs ls hH hl hlo hk hn)
      · obtain ⟨b, r, hst, mc1, ms1, Po1, h1, h2, h8, hcl, hT⟩ := px_sr_v hT
        obtain ⟨M1, g1, g2, gh, g3, g4, g5⟩ := hM.2.1 _ (px_pl_mem hp)
        obtain ⟨M2, f1, hMet⟩ := hcal _ _ _ _ _ _ _ hcl
        obtain rfl : M1 = M2 := Option.some.inj (g1.symm.trans f1)
        have gc := hPc _ _ f1
        rw [px_cw0 gh] at gc hMet
        have gl := g2.2.2.2
        exact px_callI hx hb hml hown hts hK hC.2.2.2.2.2.1 hH hlo hl.1 g2 gc g3 g4 g5 rfl rfl (by show px_fr M1 + 1 ≤ R.frames; omega) (by show 8 + (M1.2.2.2.1 + 11) + px_lo M1 ≤ R.locals; omega) (px_met hMet) hst h8 hd (by show k + mc1 ≤ R.cells; omega) (by show n + ms1 ≤ R.slots; omega) (fun v C1 H1 locs1 hp1 hH1 hlo1 => hX _ (hT v C1 hp1) H1 locs1 ls hH1 hl hlo1 h1 h2)
    | invokevirtual idx =>
      have hT : px_pv (px_pl (px_po M) idx) (fun ci j np => px_sr (st.drop np) fun b r => ∃ fs, C b = some (px_o ci fs) ∧ px_cl cal mc ms k n j (.ref b :: (st.take np).reverse) r C fun st' C' k' n' => X (pc + 3, L, st', C', k', n')) (fun ci j np => px_sr (st.drop np) fun b r => ∃ fs, C b = some (px_o ci fs) ∧ px_ct cal mc ms k n j (.ref b :: (st.take np).reverse) r C (px_po M) (px_hh M) pc (fun st' C' k' n' => X (pc + 3, L, st', C', k', n')) (fun h st' C' k' n' => X (h, L, st', C', k', n'))) := hT
      have e1 := px_b1 hc; subst e1
      rcases px_pv_v hT with ⟨ci, j, np, hp, hci, hT⟩ | ⟨ci, j, np, hp, hci, hT⟩
      · obtain ⟨b, r, hst, fs, he, mc1, ms1, Po1, Pt1, h1, h2, h8, hcl, hT, hTx⟩ := px_sr_v hT
        obtain ⟨M1, T1, N1, g1, g2, gh, gm, g3, g4, g5⟩ := px_pok20 (hM.2.1 _ (px_pl_mem hp)) hci
        obtain ⟨M2, f1, hMet⟩ := hcal _ _ _ _ _ _ _ hcl
        obtain rfl : M1 = M2 := Option.some.inj (g1.symm.trans f1)
        have gc := hPc _ _ f1
        rw [px_cw0 gh] at gc hMet
        have gl := g2.2.2.2
        refine px_callVT hx hb hml hown hts hK hC.2.2.2.2.2.1 hH hlo hl.1 g2 gm gc g3 g4 g5 he rfl rfl (by show px_fr M1 + 1 ≤ R.frames; omega) (by show 8 + (M1.2.2.2.1 + 11) + px_lo M1 ≤ R.locals; omega) hMet hst h8 hd (by show k + mc1 ≤ R.cells; omega) (by show n + ms1 ≤ R.slots; omega) (fun v C1 H1 locs1 hp1 hH1 hlo1 => hX _ (hT v C1 hp1) H1 locs1 ls hH1 hl hlo1 h1 h2) (fun kd C1 H1 locs1 q ce hp1 hH1 hlo1 hce hcv hcc => ?_)
        exact px_caught hC hM hown hts hK hce hcv hcc (fun h hz => hX _ hz H1 locs1 ls hH1 hl hlo1 h1 h2) (px_hh M) [] htab rfl (fun z hz => by cases hz) (hTx kd C1 q hp1)
      · obtain ⟨b, r, hst, fs, he, mc1, ms1, Po1, h1, h2, h8, hcl, hT⟩ := px_sr_v hT
        obtain ⟨M1, T1, N1, g1, g2, gh, g3, g4, g5⟩ := px_pok10 (hM.2.1 _ (px_pl_mem hp)) hci
        obtain ⟨M2, f1, hMet⟩ := hcal _ _ _ _ _ _ _ hcl
        obtain rfl : M1 = M2 := Option.some.inj (g1.symm.trans f1)
        have gc := hPc _ _ f1
        rw [px_cw0 gh] at gc hMet
        have gl := g2.2.2.2
        exact px_callV hx hb hml hown hts hK hC.2.2.2.2.2.1 hH hlo hl.1 g2 gc g3 g4 g5 he rfl rfl (by show px_fr M1 + 1 ≤ R.frames; omega) (by show 8 + (M1.2.2.2.1 + 11) + px_lo M1 ≤ R.locals; omega) (px_met hMet) hst h8 hd (by show k + mc1 ≤ R.cells; omega) (by show n + ms1 ≤ R.slots; omega) (fun v C1 H1 locs1 hp1 hH1 hlo1 => hX _ (hT v C1 hp1) H1 locs1 ls hH1 hl hlo1 h1 h2)
    | invokestatic idx =>
      have hT : px_pt (px_pl (px_po M) idx) (px_sii st fun x y r => px_cat r ≤ 8 ∧ X (pc + 3, L, .int (if x < y then y else x) :: r, C, k, n)) (px_sii st fun x y r => px_cat r ≤ 8 ∧ X (pc + 3, L, .int (if y < x then y else x) :: r, C, k, n)) (fun j np => np ≤ st.length ∧ px_cl cal mc ms k n j (st.take np).reverse (st.drop np) C fun st' C' k' n' => X (pc + 3, L, st', C', k', n')) := hT
      have e1 := px_b1 hc; subst e1
      rcases px_pt_v hT with ⟨w, hp, hT⟩ | ⟨w, hp, hT⟩ | ⟨j, np, hp, hT⟩
      · obtain ⟨x, y, r, rfl, h8, hT⟩ := px_sii_v hT
        obtain ⟨g1, g2, g3, g4, g5, g6⟩ := hM.2.1 _ (px_pl_mem hp)
        exact va_mmax hx hb (by rw [hml]; exact hl.1.symm) hown (hts _ g1) (hts _ g2) (hts _ g3) (hts _ g4) (by omega) (by show px_cat r + 13 ≤ R.locals; omega) (by omega) (by omega) hd (hX _ hT H locs ls hH hl hlo hk hn)
      · obtain ⟨x, y, r, rfl, h8, hT⟩ := px_sii_v hT
        obtain ⟨g1, g2, g3, g4, g5, g6⟩ := hM.2.1 _ (px_pl_mem hp)
        exact va_mmin hx hb (by rw [hml]; exact hl.1.symm) hown (hts _ g1) (hts _ g2) (hts _ g3) (hts _ g4) (by omega) (by show px_cat r + 13 ≤ R.locals; omega) (by omega) (by omega) hd (hX _ hT H locs ls hH hl hlo hk hn)
      · obtain ⟨hnp, mc1, ms1, Po1, h1, h2, h8, hcl, hT⟩ := hT
        obtain ⟨M1, g1, g2, g3, g4⟩ := hM.2.1 _ (px_pl_mem hp)
        obtain ⟨M2, f1, hMet⟩ := hcal _ _ _ _ _ _ _ hcl
        obtain rfl : M1 = M2 := Option.some.inj (g1.symm.trans f1)
        have gc := hPc _ _ f1
        have gl := g2.2.2.2
        cases hq : px_hh M1 with
        | nil =>
          rw [px_cw0 hq] at gc hMet
          exact px_callS hx hb hml hown hts hK hC.2.2.2.2.2.1 hH hlo hl.1 g2 gc g3 rfl rfl (by show px_fr M1 + 1 ≤ R.frames; omega) (by show 8 + (M1.2.2.2.1 + 11) + px_lo M1 ≤ R.locals; omega) (px_met hMet) hnp h8 hd (by show k + mc1 ≤ R.cells; omega) (by show n + ms1 ≤ R.slots; omega) (fun v C1 H1 locs1 hp1 hH1 hlo1 => hX _ (hT v C1 hp1) H1 locs1 ls hH1 hl hlo1 h1 h2)
        | cons q0 r0 =>
          have hcw : px_cw M1 = Cond.codeWith M1.1 M1.2.2.1 M1.2.2.2.1 M1.2.2.2.2.1 (q0 :: r0) := by unfold px_cw; rw [hq]
          rw [hcw] at gc hMet
          have gm : Cond.methodLink M.2.1 idx M1.1 ∈ V.2.2.1 := by
            rcases g4 with g | g
            · rw [hq] at g; cases g
            · exact g
          exact px_callSH hx hb hml hown hts hK hC.2.2.2.2.2.1 hH hlo hl.1 g2 gm gc g3 rfl rfl (by show px_fr M1 + 1 ≤ R.frames; omega) (by show 8 + (M1.2.2.2.1 + 11) + px_lo M1 ≤ R.locals; omega) (px_met hMet) hnp h8 hd (by show k + mc1 ≤ R.cells; omega) (by show n + ms1 ≤ R.slots; omega) (fun v C1 H1 locs1 hp1 hH1 hlo1 => hX _ (hT v C1 hp1) H1 locs1 ls hH1 hl hlo1 h1 h2)
    | ireturn =>
      have hT : px_s1v st fun v => px_rt M.2.2.2.2.1 v (Po (some (.int v)) C) := hT
      have e1 := px_b1 hc; subst e1
      obtain ⟨v, rfl, hT⟩ := px_s1v_v hT
      exact hri pc C k n H locs ls v hd hT hH hlo hk hn
    | lreturn =>
      have hT : px_s1l st fun v => px_rl M.2.2.2.2.1 (Po (some (.long v)) C) := hT
      have e1 := px_b1 hc; subst e1
      obtain ⟨v, rfl, hT⟩ := px_s1l_v hT
      exact hrl pc C k n H locs ls v hd hT hH hlo hk hn
    | areturn =>
      have hT : px_s1a st fun v => px_ra M.2.2.2.2.1 (Po (some v) C) := hT
      have e1 := px_b1 hc; subst e1
      rcases px_s1a_v hT with ⟨v, rfl, hT⟩ | ⟨rfl, hT⟩
      · exact hra pc C k n H locs ls _ hd (Or.inr ⟨_, rfl⟩) hT hH hlo hk hn
      · exact hra pc C k n H locs ls _ hd (Or.inl rfl) hT hH hlo hk hn
    | return_ =>
      have hT : px_s0 st (px_rv M.2.2.2.2.1 (Po none C)) := hT
      have e1 := px_b1 hc; subst e1
      obtain ⟨rfl, hT⟩ := px_s0_v hT
      exact hrv pc C k n H locs ls hd hT hH hlo hk hn
    | _ => exact hT.elim
