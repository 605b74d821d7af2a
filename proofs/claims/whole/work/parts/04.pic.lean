/-! The machine does what the pure picture says. -/
def px_T (cal : px_Cal) (Y : px_L) (B mc ms : Nat) (sc : Option (Nat × Nat × (Nat → Int32))) (M : px_M) (Po : Option Value → px_P → Prop) (Pt : Nat → px_P → Prop) (X : px_S → Prop) (s : px_S) : Prop :=
  match px_ft (px_co M) s.1 with
  | some i => px_I cal Y B mc ms sc M.2.2.2.2.1 (px_po M) (px_hh M) Po Pt X i s.1 s.2.1 s.2.2.1 s.2.2.2.1 s.2.2.2.2.1 s.2.2.2.2.2
  | none => False
/-- fewer locals, in any order -/
def px_sub (L : List (Nat × Value)) : List (Nat × Value) → Prop
  | [] => True
  | q :: r => px_lk L q.1 = some q.2 ∧ px_sub L r
def px_wk (X : px_S → Prop) : Prop := ∀ (pc : Nat) (L L' : List (Nat × Value)) (st : List Value) (C : px_P) (k n : Nat), px_sub L L' → X (pc, L', st, C, k, n) → X (pc, L, st, C, k, n)
/-- a method's body, run from its entry, comes to its end with Po (returned) or Pt (thrown): d calls deep, at most mc cells of ms slots new -/
def px_W (Y : px_L) (P : List px_M) (B : Nat) (sc : Option (Nat × Nat × (Nat → Int32))) : Nat → px_Cal
  | 0 => fun _ _ _ _ _ _ _ => False
  | d + 1 => fun j av C mc ms Po Pt => ∃ M, P[j]? = some M ∧ (lg_sl av).length ≤ M.2.2.2.1 ∧ ∀ X : px_S → Prop, px_wk X →
      (∀ s, px_T (px_W Y P B sc d) Y B mc ms (bif px_fl M then sc else none) M Po Pt X s → X s) → X (0, lv_args 0 av, [], C, 0, 0)
theorem px_lk_mem {L : List (Nat × Value)} {i : Nat} {v : Value} (h : px_lk L i = some v) : (i, v) ∈ L := by
  induction L with
  | nil => cases h
  | cons q r ih =>
    obtain ⟨j, w⟩ := q
    have h2 : cond (Nat.beq j i) (some w) (px_lk r i) = some v := h
    cases hb : Nat.beq j i with
    | true =>
      rw [hb] at h2
      have e1 : w = v := Option.some.inj h2
      have e2 : j = i := Nat.eq_of_beq_eq_true hb
      rw [e1, e2]
      exact List.mem_cons_self
    | false =>
      rw [hb] at h2
      exact List.mem_cons_of_mem _ (ih h2)
theorem px_lk_at {ls : Array Slot} {nL : Nat} {L : List (Nat × Value)} {i : Nat} {v : Value} (h : lv_has ls nL L) (hv : px_lk L i = some v) : ls[i]? = some (.val v) := h.2.2 _ (px_lk_mem hv)
theorem px_sub_mem {L : List (Nat × Value)} : ∀ {L' : List (Nat × Value)}, px_sub L L' → ∀ q ∈ L', px_lk L q.1 = some q.2
  | [], _, q, hq => nomatch hq
  | x :: r, h, q, hq => by
    have h2 : px_lk L x.1 = some x.2 ∧ px_sub L r := h
    rcases List.mem_cons.mp hq with rfl | hq
    · exact h2.1
    · exact px_sub_mem h2.2 q hq
theorem px_sub_has {ls : Array Slot} {nL : Nat} {L L' : List (Nat × Value)} (h : lv_has ls nL L) (hs : px_sub L L') : lv_has ls nL L' := ⟨h.1, h.2.1, fun q hq => px_lk_at h (px_sub_mem hs q hq)⟩
theorem px_ft_mem {l : List (Nat × Instr × Nat)} {pc : Nat} {i : Instr} (h : px_ft l pc = some i) : ∃ len, (pc, i, len) ∈ l := by
  induction l with
  | nil => cases h
  | cons q r ih =>
    obtain ⟨j, w, n⟩ := q
    have h2 : cond (Nat.beq j pc) (some w) (px_ft r pc) = some i := h
    cases hb : Nat.beq j pc with
    | true =>
      rw [hb] at h2
      have e1 : w = i := Option.some.inj h2
      have e2 : j = pc := Nat.eq_of_beq_eq_true hb
      rw [e1, e2]
      exact ⟨n, List.mem_cons_self⟩
    | false =>
      rw [hb] at h2
      obtain ⟨n2, h3⟩ := ih h2
      exact ⟨n2, List.mem_cons_of_mem _ h3⟩
theorem px_pl_mem {l : List (Nat × Nat × Nat × Int)} {i : Nat} {v : Nat × Nat × Int} (h : px_pl l i = some v) : (i, v) ∈ l := by
  induction l with
  | nil => cases h
  | cons q r ih =>
    obtain ⟨j, w⟩ := q
    have h2 : cond (Nat.beq j i) (some w) (px_pl r i) = some v := h
    cases hb : Nat.beq j i with
    | true =>
      rw [hb] at h2
      have e1 : w = v := Option.some.inj h2
      have e2 : j = i := Nat.eq_of_beq_eq_true hb
      rw [e1, e2]
      exact List.mem_cons_self
    | false =>
      rw [hb] at h2
      exact List.mem_cons_of_mem _ (ih h2)
-- pictures and heaps
def px_to (T : Nat → ClassId) (e : px_E) : va_E := match e with
  | .inl (t, n, f) => .inl (T t, n, .inl f)
  | .inr (.inl (n, f)) => .inl (T 1, n, .inr (.inl f))
  | .inr (.inr (.inl (t, n, f))) => .inl (T t, n, .inr (.inr (.inr (.inr f))))
  | .inr (.inr (.inr o)) => .inr o
abbrev px_G : Type := Nat × Heap × va_G × (Nat → ClassId)
def px_H (cl : List vw_C) (G : px_G) (C F : px_P) (H : Heap) : Prop :=
  G.1 ≤ H.size ∧ (∀ q : Nat, q < G.1 → H[q]? = G.2.1[q]?) ∧ (∀ a e, C a = some e → G.1 ≤ a ∧ va_at G.2.2.1 cl (a, px_to G.2.2.2 e) H) ∧ (∀ a e, F a = some e → G.1 ≤ a ∧ C a = none ∧ va_at G.2.2.1 cl (a, px_to G.2.2.2 e) H)
theorem px_H.put {cl : List vw_C} {G : px_G} {C F : px_P} {H H' : Heap} {a : Nat} {e0 e1 : px_E} (h : px_H cl G C F H) (hc : C a = some e0) (hz : H'.size = H.size) (ho : ∀ q : Nat, q ≠ a → H'[q]? = H[q]?)
    (ha : va_at G.2.2.1 cl (a, px_to G.2.2.2 e1) H') : px_H cl G (px_up C a e1) F H' := by
  obtain ⟨h1, h2, h3, h4⟩ := h
  have hB := (h3 a e0 hc).1
  refine ⟨by rw [hz]; exact h1, fun q hq => ?_, fun b e hb => ?_, fun b e hb => ?_⟩
  · rw [ho q (fun x => by omega)]
    exact h2 q hq
  · by_cases hba : b = a
    · subst hba
      rw [px_up_s] at hb
      cases hb
      exact ⟨hB, ha⟩
    · rw [px_up_n _ _ hba] at hb
      exact ⟨(h3 b e hb).1, (h3 b e hb).2.kept (ho b hba)⟩
  · have hba : b ≠ a := fun x => by
      have := (h4 b e hb).2.1
      rw [x, hc] at this
      cases this
    exact ⟨(h4 b e hb).1, by rw [px_up_n _ _ hba]; exact (h4 b e hb).2.1, (h4 b e hb).2.2.kept (ho b hba)⟩
theorem px_H.free {cl : List vw_C} {G : px_G} {C F : px_P} {H : Heap} (h : px_H cl G C F H) : C H.size = none := by
  cases hc : C H.size with
  | none => rfl
  | some e => exact absurd (h.2.2.1 _ e hc).2.lt (Nat.lt_irrefl _)
theorem px_H.new {cl : List vw_C} {G : px_G} {C F : px_P} {H H' : Heap} {e1 : px_E} (h : px_H cl G C F H) (hz : H'.size = H.size + 1) (ho : ∀ q : Nat, q < H.size → H'[q]? = H[q]?)
    (ha : va_at G.2.2.1 cl (H.size, px_to G.2.2.2 e1) H') : px_H cl G (px_up C H.size e1) F H' := by
  have hn := h.free
  obtain ⟨h1, h2, h3, h4⟩ := h
  refine ⟨by omega, fun q hq => ?_, fun b e hb => ?_, fun b e hb => ?_⟩
  · rw [ho q (by omega)]
    exact h2 q hq
  · by_cases hba : b = H.size
    · subst hba
      rw [px_up_s] at hb
      cases hb
      exact ⟨h1, ha⟩
    · rw [px_up_n _ _ hba] at hb
      exact ⟨(h3 b e hb).1, (h3 b e hb).2.kept (ho b (h3 b e hb).2.lt)⟩
  · have hlt : b < H.size := (h4 b e hb).2.2.lt
    have hba : b ≠ H.size := Nat.ne_of_lt hlt
    exact ⟨(h4 b e hb).1, by rw [px_up_n _ _ hba]; exact (h4 b e hb).2.1, (h4 b e hb).2.2.kept (ho b hlt)⟩
theorem px_H.one {cl : List vw_C} {G : px_G} {C F : px_P} {H : Heap} {a : Nat} {e : px_E} (h : px_H cl G C F H) (hc : C a = some e) : va_P G.2.2.1 cl [(a, px_to G.2.2.2 e)] H := fun k q hk => by
  cases k with
  | zero =>
    cases hk
    exact (h.2.2.1 a e hc).2
  | succ k => simp at hk
def px_tys (tyl : List FieldType) (T : Nat → ClassId) : List (ClassId × FieldType) := (List.range tyl.length).map fun i => (T i, tyl.getD i .int)
theorem px_tys_at {tyl : List FieldType} {T : Nat → ClassId} {t : Nat} {ty : FieldType} (h : tyl[t]? = some ty) : (px_tys tyl T)[t]? = some (T t, ty) := by
  have hl : t < tyl.length := (List.getElem?_eq_some_iff.mp h).1
  simp [px_tys, hl]
  have := (List.getElem?_eq_some_iff.mp h).2
  simp [this]
/-- what is known of the tables: classes, kinds of arrays, words, texts, classes that are none of others -/
abbrev px_V : Type := List vw_C × List FieldType × List Cond × List (String × Nat × String) × List (String × String)
def px_K (V : px_V) (sc : Option (Nat × Nat × (Nat → Int32))) (G : px_G) (U : State) : Prop :=
  va_K G.2.2.1 V.1 (px_tys V.2.1 G.2.2.2) U ∧ (∀ w ∈ V.2.2.1, va_Nw w U) ∧ (∀ (t : Nat) (C : String), V.2.1[t]? = some (FieldType.object C) → va_AO C U) ∧ ((Cond.arrayClass .int).before #[] U = true ∧ (Cond.arrayClass .long).before #[] U = true ∧ (Cond.arrayClass .boolean).before #[] U = true) ∧
  (∀ b N xs, sc = some (b, N, xs) → b < G.1 ∧ va_X b N xs U G.2.1) ∧ (∀ r ∈ V.2.2.2.1, ∃ sa, vk_R r.1 r.2.1 r.2.2 sa U) ∧ (∀ r ∈ V.2.2.2.2, va_Nc r.1 r.2 U) ∧
  vx_Zq Bundle.tN "UNASSIGNED_STACK" Bundle.steD (fun q => G.1 ≤ q) U G.2.1 ∧ vx_Zq Bundle.tN "SUPPRESSED_SENTINEL" Bundle.listD (fun q => G.1 ≤ q) U G.2.1
def px_wb (w : Cond) : Bool := (w.onTables && w.keeps) || (match w with | .fieldLinkNest .. => true | .methodLinkNest .. => true | .declares _ => true | .castable .. => true | _ => false)
theorem px_w_moved {w : Cond} (hw : px_wb w = true) {s U : State} (hW : s.WarmedH U.vm) (h : va_Nw w s) : va_Nw w U := by
  unfold px_wb at hw
  rw [Bool.or_eq_true] at hw
  rcases hw with hw | hw
  · exact word_at hW (Or.inl hw) h
  · cases w <;> first | (exact va_Nw.warmF hW h) | (exact va_Nw.warmM hW h) | (exact va_Nw.warmD hW h) | (exact va_Nw.warmC hW h) | (cases hw)
theorem px_K.moved {V : px_V} {sc : Option (Nat × Nat × (Nat → Int32))} {G : px_G} {s U : State} (hwl : V.2.2.1.all px_wb = true) (hW : s.WarmedH U.vm) (h : px_K V sc G s) : px_K V sc G U := by
  obtain ⟨h1, h2, h3, ⟨h4, h5, h6⟩, h7, h8, h9, h10, h11⟩ := h
  exact ⟨va_K.moved hW.alike h1, fun w hw => px_w_moved (List.all_eq_true.mp hwl w hw) hW (h2 w hw), fun t C ht => (h3 t C ht).moved hW.alike, ⟨word_at hW (Or.inr ⟨_, rfl⟩) h4, word_at hW (Or.inr ⟨_, rfl⟩) h5, word_at hW (Or.inr ⟨_, rfl⟩) h6⟩,
    fun b N xs hb => ⟨(h7 b N xs hb).1, (h7 b N xs hb).2.moved hW.alike⟩, fun r hr => (h8 r hr).imp (fun sa h => vk_R.warm hW h), fun r hr => (h9 r hr).moved hW.alike, h10.moved hW.alike, h11.moved hW.alike⟩
theorem px_ai_v {o : Option Value} {f : Int32 → Prop} (h : px_ai o f) : ∃ x, o = some (.int x) ∧ f x := by
  unfold px_ai at h
  split at h
  · exact ⟨_, rfl, h⟩
  · exact h.elim
theorem px_aj_v {o : Option Value} {f : Int64 → Prop} (h : px_aj o f) : ∃ x, o = some (.long x) ∧ f x := by
  unfold px_aj at h
  split at h
  · exact ⟨_, rfl, h⟩
  · exact h.elim
theorem px_si_v {st : List Value} {f : Int32 → List Value → Prop} (h : px_si st f) : ∃ x r, st = .int x :: r ∧ f x r := by
  unfold px_si at h
  split at h
  · exact ⟨_, _, rfl, h⟩
  · exact h.elim
theorem px_sj_v {st : List Value} {f : Int64 → List Value → Prop} (h : px_sj st f) : ∃ x r, st = .long x :: r ∧ f x r := by
  unfold px_sj at h
  split at h
  · exact ⟨_, _, rfl, h⟩
  · exact h.elim
theorem px_sr_v {st : List Value} {f : Nat → List Value → Prop} (h : px_sr st f) : ∃ a r, st = .ref a :: r ∧ f a r := by
  unfold px_sr at h
  split at h
  · exact ⟨_, _, rfl, h⟩
  · exact h.elim
theorem px_sii_v {st : List Value} {f : Int32 → Int32 → List Value → Prop} (h : px_sii st f) : ∃ x y r, st = .int y :: .int x :: r ∧ f x y r := by
  unfold px_sii at h
  split at h
  · exact ⟨_, _, _, rfl, h⟩
  · exact h.elim
theorem px_sjj_v {st : List Value} {f : Int64 → Int64 → List Value → Prop} (h : px_sjj st f) : ∃ x y r, st = .long y :: .long x :: r ∧ f x y r := by
  unfold px_sjj at h
  split at h
  · exact ⟨_, _, _, rfl, h⟩
  · exact h.elim
theorem px_sij_v {st : List Value} {f : Int64 → Int32 → List Value → Prop} (h : px_sij st f) : ∃ x y r, st = .int y :: .long x :: r ∧ f x y r := by
  unfold px_sij at h
  split at h
  · exact ⟨_, _, _, rfl, h⟩
  · exact h.elim
theorem px_sir_v {st : List Value} {f : Int32 → Nat → List Value → Prop} (h : px_sir st f) : ∃ x a r, st = .int x :: .ref a :: r ∧ f x a r := by
  unfold px_sir at h
  split at h
  · exact ⟨_, _, _, rfl, h⟩
  · exact h.elim
theorem px_siir_v {st : List Value} {f : Int32 → Int32 → Nat → List Value → Prop} (h : px_siir st f) : ∃ v x a r, st = .int v :: .int x :: .ref a :: r ∧ f v x a r := by
  unfold px_siir at h
  split at h
  · exact ⟨_, _, _, _, rfl, h⟩
  · exact h.elim
theorem px_sjir_v {st : List Value} {f : Int64 → Int32 → Nat → List Value → Prop} (h : px_sjir st f) : ∃ v x a r, st = .long v :: .int x :: .ref a :: r ∧ f v x a r := by
  unfold px_sjir at h
  split at h
  · exact ⟨_, _, _, _, rfl, h⟩
  · exact h.elim
theorem px_srir_v {st : List Value} {f : Nat → Int32 → Nat → List Value → Prop} (h : px_srir st f) : ∃ v x a r, st = .ref v :: .int x :: .ref a :: r ∧ f v x a r := by
  unfold px_srir at h
  split at h
  · exact ⟨_, _, _, _, rfl, h⟩
  · exact h.elim
theorem px_svr_v {st : List Value} {f : Value → Nat → List Value → Prop} (h : px_svr st f) : ∃ v a r, st = v :: .ref a :: r ∧ f v a r := by
  unfold px_svr at h
  split at h
  · exact ⟨_, _, _, rfl, h⟩
  · exact h.elim
theorem px_s1v_v {st : List Value} {f : Int32 → Prop} (h : px_s1v st f) : ∃ v, st = [.int v] ∧ f v := by
  unfold px_s1v at h
  split at h
  · exact ⟨_, rfl, h⟩
  · exact h.elim
theorem px_s0_v {st : List Value} {f : Prop} (h : px_s0 st f) : st = [] ∧ f := by
  unfold px_s0 at h
  split at h
  · exact ⟨rfl, h⟩
  · exact h.elim
theorem px_pf_v {o : Option (Nat × Nat × Int)} {f : Nat → Nat → Prop} (h : px_pf o f) : ∃ ci kf, o = some (0, ci, kf) ∧ f ci kf.toNat := by
  unfold px_pf at h
  split at h
  · exact ⟨_, _, rfl, h⟩
  · exact h.elim
theorem px_pa_v {o : Option (Nat × Nat × Int)} {f : Nat → Prop} (h : px_pa o f) : ∃ t z, o = some (3, t, z) ∧ f t := by
  unfold px_pa at h
  split at h
  · exact ⟨_, _, rfl, h⟩
  · exact h.elim
theorem px_pc_v {o : Option (Nat × Nat × Int)} {f : Int → Prop} (h : px_pc o f) : ∃ z v, o = some (4, z, v) ∧ f v := by
  unfold px_pc at h
  split at h
  · exact ⟨_, _, rfl, h⟩
  · exact h.elim
theorem px_pj_v {o : Option (Nat × Nat × Int)} {f : Int → Prop} (h : px_pj o f) : ∃ z v, o = some (9, z, v) ∧ f v := by
  unfold px_pj at h
  split at h
  · exact ⟨_, _, rfl, h⟩
  · exact h.elim
theorem px_s1l_v {st : List Value} {f : Int64 → Prop} (h : px_s1l st f) : ∃ v, st = [.long v] ∧ f v := by
  unfold px_s1l at h
  split at h
  · exact ⟨_, rfl, h⟩
  · exact h.elim
theorem px_aa_v {o : Option Value} {f : Value → Prop} (h : px_aa o f) : (∃ a, o = some (.ref a) ∧ f (.ref a)) ∨ (o = some .null ∧ f .null) := by
  unfold px_aa at h
  split at h
  · exact Or.inl ⟨_, rfl, h⟩
  · exact Or.inr ⟨rfl, h⟩
  · exact h.elim
theorem px_sa_v {st : List Value} {f : Value → List Value → Prop} (h : px_sa st f) : (∃ a r, st = .ref a :: r ∧ f (.ref a) r) ∨ (∃ r, st = .null :: r ∧ f .null r) := by
  unfold px_sa at h
  split at h
  · exact Or.inl ⟨_, _, rfl, h⟩
  · exact Or.inr ⟨_, rfl, h⟩
  · exact h.elim
theorem px_sv_v {st : List Value} {f : Value → List Value → Prop} (h : px_sv st f) : (∃ x r, st = .int x :: r ∧ f (.int x) r) ∨ (∃ a r, st = .ref a :: r ∧ f (.ref a) r) := by
  unfold px_sv at h
  split at h
  · exact Or.inl ⟨_, _, rfl, h⟩
  · exact Or.inr ⟨_, _, rfl, h⟩
  · exact h.elim
theorem px_siv_v {st : List Value} {f : Int32 → Value → List Value → Prop} (h : px_siv st f) : (∃ y x r, st = .int y :: .int x :: r ∧ f y (.int x) r) ∨ (∃ y a r, st = .int y :: .ref a :: r ∧ f y (.ref a) r) := by
  unfold px_siv at h
  split at h
  · exact Or.inl ⟨_, _, _, rfl, h⟩
  · exact Or.inr ⟨_, _, _, rfl, h⟩
  · exact h.elim
theorem px_s1a_v {st : List Value} {f : Value → Prop} (h : px_s1a st f) : (∃ a, st = [.ref a] ∧ f (.ref a)) ∨ (st = [.null] ∧ f .null) := by
  unfold px_s1a at h
  split at h
  · exact Or.inl ⟨_, rfl, h⟩
  · exact Or.inr ⟨rfl, h⟩
  · exact h.elim
theorem px_sn_v {st : List Value} {f g : List Value → Prop} (h : px_sn st f g) : (∃ r, st = .null :: r ∧ f r) ∨ (∃ a r, st = .ref a :: r ∧ g r) := by
  unfold px_sn at h
  split at h
  · exact Or.inl ⟨_, rfl, h⟩
  · exact Or.inr ⟨_, _, rfl, h⟩
  · exact h.elim
theorem px_pv_v {o : Option (Nat × Nat × Int)} {f g : Nat → Nat → Nat → Prop} (h : px_pv o f g) : (∃ t j np, o = some (t + 20, j, np) ∧ t < 10 ∧ g t j np.toNat) ∨ (∃ t j np, o = some (t + 10, j, np) ∧ t < 10 ∧ f t j np.toNat) := by
  unfold px_pv at h
  split at h
  · exact h.elim
  · rename_i t j np hn
    exact Or.inl ⟨t, j, np, rfl, Nat.lt_of_not_le fun q => hn (t - 10) (by omega), h⟩
  · rename_i t j np hn1 hn2
    exact Or.inr ⟨t, j, np, rfl, Nat.lt_of_not_le fun q => hn2 (t - 10) (by omega), h⟩
  · exact h.elim
theorem px_pn_v {o : Option (Nat × Nat × Int)} {f g : Nat → Nat → Prop} (h : px_pn o f g) : (∃ ci N, o = some (2, ci, N) ∧ f ci N.toNat) ∨ (∃ kd N, o = some (8, kd, N) ∧ g kd N.toNat) := by
  unfold px_pn at h
  split at h
  · exact Or.inl ⟨_, _, rfl, h⟩
  · exact Or.inr ⟨_, _, rfl, h⟩
  · exact h.elim
theorem px_ps_v {o : Option (Nat × Nat × Int)} {A : Prop} {f : Nat → Nat → Prop} (h : px_ps o A f) : (∃ z w, o = some (6, z, w) ∧ A) ∨ (∃ j np, o = some (1, j, np) ∧ f j np.toNat) := by
  unfold px_ps at h
  split at h
  · exact Or.inl ⟨_, _, rfl, h⟩
  · exact Or.inr ⟨_, _, rfl, h⟩
  · exact h.elim
theorem px_pt_v {o : Option (Nat × Nat × Int)} {A B : Prop} {f : Nat → Nat → Prop} (h : px_pt o A B f) : (∃ w, o = some (7, 0, w) ∧ A) ∨ (∃ w, o = some (7, 1, w) ∧ B) ∨ (∃ j np, o = some (5, j, np) ∧ f j np.toNat) := by
  unfold px_pt at h
  split at h
  · exact Or.inl ⟨_, rfl, h⟩
  · exact Or.inr (Or.inl ⟨_, rfl, h⟩)
  · exact Or.inr (Or.inr ⟨_, _, rfl, h⟩)
  · exact h.elim
