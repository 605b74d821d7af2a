/-! What was found of all codes, said of one; the moves one by one are those of the class. -/
theorem rtop_d {W s h : Nat} (h4 : rtop W s 4 = h) : ∀ {t : Nat}, h ≤ t → t ≤ 4 → rtop W s t = h := by
  have step : ∀ {i : Nat}, rtop W s (i + 1) = h → h ≤ i → rtop W s i = h := fun {i} e hi => by
    by_cases q : rtop W s i = i ∧ ¬ rat W s i = 0
    · rw [rtop_t q.1 q.2] at e
      omega
    · rw [rtop_f q] at e
      exact e
  intro t ht t4
  have h3 : h ≤ 3 → rtop W s 3 = h := step h4
  have h2 : h ≤ 2 → rtop W s 2 = h := fun q => step (h3 (by omega)) q
  have h1 : h ≤ 1 → rtop W s 1 = h := fun q => step (h2 (by omega)) q
  have h0 : h ≤ 0 → rtop W s 0 = h := fun q => step (h1 (by omega)) q
  match t, t4 with
  | 0, _ => exact h0 ht
  | 1, _ => exact h1 ht
  | 2, _ => exact h2 ht
  | 3, _ => exact h3 ht
  | 4, _ => exact h4
/-- the code is one of those of n boxes in stacks of t tiers -/
def Vd (n t c : Nat) : Prop := c ∈ LL n ∧ ∀ s, s < 3 → hs c s n ≤ t
theorem band {a b : Bool} (h : (a && b) = true) : a = true ∧ b = true := by
  rw [Bool.and_eq_true] at h
  exact h
theorem nbt {a b : Nat} (h : Nat.beq a b = true) : a = b := Nat.eq_of_beq_eq_true h
theorem nlt_ {a b : Nat} (h : Nat.blt a b = true) : a < b := Nat.le_of_ble_eq_true h
theorem bbt {a b : Bool} (h : (a == b) = true) : a = b := by
  cases a <;> cases b <;> first | rfl | cases h
section EV
variable {n t c : Nat}
theorem Vd.top (h : Vd n t c) (hn : n ≤ 4) (t4 : t ≤ 4) {s : Nat} (hs3 : s < 3) : rtop (ew c n) s t = hs c s n := by
  have q := band (band (k_a_t hn h.1)).1
  exact rtop_d (nbt (band (allN_at q.1 hs3)).1) (h.2 s hs3) t4
theorem Vd.tk (h : Vd n t c) (hn : n ≤ 4) (t4 : t ≤ 4) {f : Nat} (hf : f < 7) : rtk n t (ew c n) f = stk n c f := by
  have q := band (band (k_a_t hn h.1)).1
  unfold stk
  rcases Nat.lt_or_ge f 3 with h3 | h3
  · have e4 := nbt (band (allN_at q.1 h3)).2
    have et : rtop (ew c n) f t = rtop (ew c n) f 4 := (h.top hn t4 h3).trans (nbt (band (allN_at q.1 h3)).1).symm
    rw [nld, decide_eq_true h3]
    show _ = tp c f n
    rw [← e4]
    unfold rtk
    rw [et]
  · have e := nbt (allN_at q.2 (show f - 3 < 4 by omega))
    rw [nld, decide_eq_false (by omega)]
    show _ = atj c (f - 3) n
    rw [← e]
    unfold rtk
    rw [nld, nld, decide_eq_false (by omega), decide_eq_false (by omega), show 3 + (f - 3) - 3 = f - 3 by omega]
    rfl
theorem Vd.as (h : Vd n t c) (hn : n ≤ 4) {k : Nat} (hk : k < n) : rsd (ew c n) k = true ↔ pl c k = 13 := by
  have q := bbt (band (allN_at (band (k_a_t hn h.1)).2 hk)).1
  rw [q, nbd, decide_eq_true_iff]
theorem Vd.ou (h : Vd n t c) (hn : n ≤ 4) {k : Nat} (hk : k < n) : rod (ew c n) k = true ↔ pl c k = 12 := by
  have q := bbt (band (allN_at (band (k_a_t hn h.1)).2 hk)).2
  rw [q, nbd, decide_eq_true_iff]
/-- ways tell the codes apart -/
theorem Vd.inj {c' : Nat} (h : Vd n t c) (h' : Vd n t c') (hn : n ≤ 4) (e : ew c n = ew c' n) : c = c' := by
  have a := nbt (band (band (band (k_d_t hn h.1)).1).1).1
  have b := nbt (band (band (band (k_d_t hn h'.1)).1).1).1
  rw [← a, ← b, e]
theorem tsl_sub {k f : Nat} (t4 : t ≤ 4) : ∀ i, ∀ y ∈ tsl n t c k f i, y ∈ tsl n 4 c k f i
  | 0, y, hy => hy
  | i + 1, y, hy => by
    have hy : y ∈ tsl n t c k f i ++ (if ¬ i = f ∧ hs c i n < t then [(wp c k (i * 4 + hs c i n), 64 * k + 8 * f + i)] else []) := hy
    show y ∈ tsl n 4 c k f i ++ (if ¬ i = f ∧ hs c i n < 4 then [(wp c k (i * 4 + hs c i n), 64 * k + 8 * f + i)] else [])
    rcases List.mem_append.mp hy with q | q
    · exact List.mem_append_left _ (tsl_sub t4 i y q)
    · by_cases h : ¬ i = f ∧ hs c i n < t
      · rw [if_pos h] at q
        rw [if_pos ⟨h.1, by omega⟩]
        exact List.mem_append_right _ q
      · rw [if_neg h] at q
        cases q
theorem ttl1_sub {mg : Nat → Bool} (t4 : t ≤ 4) (f : Nat) : ∀ y ∈ ttl1 n t mg c f, y ∈ ttl1 n 4 (fun _ => true) c f := by
  intro y hy
  unfold ttl1 at *
  by_cases h : tp c f n = 0
  · rw [if_pos h] at hy
    cases hy
  · rw [if_neg h] at hy ⊢
    rw [if_pos (show (fun _ => true : Nat → Bool) (tp c f n - 1) = true from rfl)]
    rcases List.mem_append.mp hy with q | q
    · rcases List.mem_append.mp q with q | q
      · exact List.mem_append_left _ (List.mem_append_left _ (tsl_sub t4 _ y q))
      · by_cases h2 : mg (tp c f n - 1) = true
        · rw [if_pos h2] at q
          exact List.mem_append_left _ (List.mem_append_right _ q)
        · rw [if_neg h2] at q
          cases q
    · exact List.mem_append_right _ q
theorem ttl_sub {mg : Nat → Bool} (t4 : t ≤ 4) : ∀ f, ∀ y ∈ ttl n t mg c f, y ∈ ttl n 4 (fun _ => true) c f
  | 0, y, hy => hy
  | f + 1, y, hy => by
    rcases List.mem_append.mp (show y ∈ ttl n t mg c f ++ ttl1 n t mg c f from hy) with q | q
    · exact List.mem_append_left _ (ttl_sub t4 f y q)
    · exact List.mem_append_right _ (ttl1_sub t4 f y q)
theorem asl_sub (t4 : t ≤ 4) : ∀ k, ∀ y ∈ asl n t c k, y ∈ asl n 4 c k
  | 0, y, hy => hy
  | k + 1, y, hy => by
    have hy : y ∈ (if pl c k = 13 then asl n t c k ++ tsl n t c k (3 + asc c k) 3 else asl n t c k) := hy
    show y ∈ (if pl c k = 13 then asl n 4 c k ++ tsl n 4 c k (3 + asc c k) 3 else asl n 4 c k)
    by_cases h : pl c k = 13
    · rw [if_pos h] at hy ⊢
      rcases List.mem_append.mp hy with q | q
      · exact List.mem_append_left _ (asl_sub t4 k y q)
      · exact List.mem_append_right _ (tsl_sub t4 _ y q)
    · rw [if_neg h] at hy ⊢
      exact asl_sub t4 k y hy
/-- the moves of a code, all boxes may go out where mg says so -/
def suc (n t : Nat) (mg : Nat → Bool) (c : Nat) : List (Nat × Nat) := ttl n t mg c 3 ++ asl n t c n
theorem suc_sub {mg : Nat → Bool} (t4 : t ≤ 4) : ∀ y ∈ suc n t mg c, y ∈ suf n c := by
  intro y hy
  rcases List.mem_append.mp hy with q | q
  · exact List.mem_append_left _ (ttl_sub t4 3 y q)
  · exact List.mem_append_right _ (asl_sub t4 n y q)
/-- a move to a stack has room there -/
theorem tsl_room {k f : Nat} : ∀ i, i ≤ 3 → ∀ y ∈ tsl n t c k f i, y.2 % 8 < 3 ∧ hs c (y.2 % 8) n < t
  | 0, _, y, hy => by cases hy
  | i + 1, hi, y, hy => by
    have hy : y ∈ tsl n t c k f i ++ (if ¬ i = f ∧ hs c i n < t then [(wp c k (i * 4 + hs c i n), 64 * k + 8 * f + i)] else []) := hy
    rcases List.mem_append.mp hy with q | q
    · exact tsl_room i (by omega) y q
    · by_cases h : ¬ i = f ∧ hs c i n < t
      · rw [if_pos h] at q
        rw [List.mem_singleton.mp q]
        show (64 * k + 8 * f + i) % 8 < 3 ∧ hs c ((64 * k + 8 * f + i) % 8) n < t
        rw [show (64 * k + 8 * f + i) % 8 = i by omega]
        exact ⟨by omega, h.2⟩
      · rw [if_neg h] at q
        cases q
theorem suc_room {mg : Nat → Bool} : ∀ y ∈ suc n t mg c, (y.2 % 8 < 3 ∧ hs c (y.2 % 8) n < t) ∨ y.2 % 8 = 3 ∨ y.2 % 8 = 4 := by
  have h1 : ∀ f, ∀ y ∈ ttl1 n t mg c f, (y.2 % 8 < 3 ∧ hs c (y.2 % 8) n < t) ∨ y.2 % 8 = 3 ∨ y.2 % 8 = 4 := fun f y hy => by
    unfold ttl1 at hy
    by_cases h : tp c f n = 0
    · rw [if_pos h] at hy
      cases hy
    · rw [if_neg h] at hy
      rcases List.mem_append.mp hy with q | q
      · rcases List.mem_append.mp q with q | q
        · exact Or.inl (tsl_room 3 (by omega) y q)
        · by_cases h2 : mg (tp c f n - 1) = true
          · rw [if_pos h2] at q
            rw [List.mem_singleton.mp q]
            exact Or.inr (Or.inl (by show (64 * _ + 8 * f + 3) % 8 = 3; omega))
          · rw [if_neg h2] at q
            cases q
      · rw [List.mem_singleton.mp q]
        exact Or.inr (Or.inr (by show (64 * _ + 8 * f + 4) % 8 = 4; omega))
  have h2 : ∀ f, ∀ y ∈ ttl n t mg c f, (y.2 % 8 < 3 ∧ hs c (y.2 % 8) n < t) ∨ y.2 % 8 = 3 ∨ y.2 % 8 = 4 := fun f => by
    induction f with
    | zero => intro y hy; cases hy
    | succ f ih =>
      intro y hy
      rcases List.mem_append.mp (show y ∈ ttl n t mg c f ++ ttl1 n t mg c f from hy) with q | q
      · exact ih y q
      · exact h1 f y q
  have h3 : ∀ k, ∀ y ∈ asl n t c k, (y.2 % 8 < 3 ∧ hs c (y.2 % 8) n < t) ∨ y.2 % 8 = 3 ∨ y.2 % 8 = 4 := fun k => by
    induction k with
    | zero => intro y hy; cases hy
    | succ k ih =>
      intro y hy
      have hy : y ∈ (if pl c k = 13 then asl n t c k ++ tsl n t c k (3 + asc c k) 3 else asl n t c k) := hy
      by_cases h : pl c k = 13
      · rw [if_pos h] at hy
        rcases List.mem_append.mp hy with q | q
        · exact ih y q
        · exact Or.inl (tsl_room 3 (by omega) y q)
      · rw [if_neg h] at hy
        exact ih y hy
  intro y hy
  rcases List.mem_append.mp hy with q | q
  · exact h2 3 y q
  · exact h3 n y q
/-- moves lead from codes to codes -/
theorem Vd.nx {mg : Nat → Bool} (h : Vd n t c) (hn : n ≤ 4) (t4 : t ≤ 4) {y : Nat × Nat} (hy : y ∈ suc n t mg c) : Vd n t y.1 := by
  have q := List.all_eq_true.mp (k_b_t hn h.1) y (suc_sub t4 y hy)
  have q1 := band (band q).1
  refine ⟨mem_LL hn (band q1.1).1, fun s hs3 => ?_⟩
  have q2 := allN_at q1.2 hs3
  have h0 := h.2 s hs3
  rw [Bool.or_eq_true] at q2
  rcases q2 with q2 | q2
  · exact Nat.le_trans (Nat.le_of_ble_eq_true q2) h0
  · have e := nbt (band q2).1
    have l := Nat.le_of_ble_eq_true (band q2).2
    rcases suc_room y hy with r | r | r
    · rw [← e] at r
      omega
    · omega
    · omega
/-- the way behind a move -/
theorem Vd.way {mg : Nat → Bool} (h : Vd n t c) (hn : n ≤ 4) (t4 : t ≤ 4) {y : Nat × Nat} (hy : y ∈ suc n t mg c) : rv 4 (ew c n) (y.2 / 64) (y.2 / 8 % 8) (y.2 % 8) = ew y.1 n := by
  have q := List.all_eq_true.mp (k_b_t hn h.1) y (suc_sub t4 y hy)
  exact nbt (band (band (band q).1).1).2
end EV
section EW
variable {n t c : Nat} {ml : Nat → Bool}
theorem smv_0 {f to : Nat} (h : stk n c f = 0) : smv n t c f to ml = [] := by
  unfold smv
  rw [h]
  rfl
theorem smv_lo {f to k : Nat} (h : stk n c f = k + 1) (hto : to < 3) : smv n t c f to ml = if ¬ to = f ∧ hs c to n < t then [(wp c k (to * 4 + hs c to n), 64 * k + 8 * f + to)] else [] := by
  unfold smv sno spl
  rw [h]
  simp only [nbd, nld, Nat.add_sub_cancel]
  have a1 : ¬ 2 < to := by omega
  have a2 : ¬ to = 3 := by omega
  have a3 : ¬ to = 4 := by omega
  have a4 : ¬ k + 1 = 0 := by omega
  by_cases q : ¬ to = f ∧ hs c to n < t
  · have q1 : ¬ f = to := fun w => q.1 w.symm
    rw [if_pos q]
    simp [a1, a2, a3, q1, hto, q.2]
  · rw [if_neg q]
    by_cases e : f = to
    · simp [e]
    · have : ¬ hs c to n < t := fun w => q ⟨fun w2 => e w2.symm, w⟩
      simp [this, hto]
theorem smv_hi {f to : Nat} (hf : 2 < f) (hto : 2 < to) : smv n t c f to ml = [] := by
  unfold smv sno
  simp [nld, hf, hto]
theorem smv_3 {f k : Nat} (h : stk n c f = k + 1) (hf : f < 3) : smv n t c f 3 ml = if ml k = true then [(wp c k 12, 64 * k + 8 * f + 3)] else [] := by
  unfold smv sno spl
  rw [h]
  simp only [nbd, nld, Nat.add_sub_cancel]
  have a1 : ¬ 2 < f := by omega
  have a2 : ¬ f = 3 := by omega
  cases hm : ml k <;> simp [a1, a2]
theorem smv_4 {f k : Nat} (h : stk n c f = k + 1) (hf : f < 3) : smv n t c f 4 ml = [(wp c k 13, 64 * k + 8 * f + 4)] := by
  unfold smv sno spl
  rw [h]
  simp only [nbd, nld, Nat.add_sub_cancel]
  have a1 : ¬ 2 < f := by omega
  have a2 : ¬ f = 4 := by omega
  simp [a1, a2]
def sm5 (n t c f : Nat) (ml : Nat → Bool) : List (Nat × Nat) := smv n t c f 0 ml ++ smv n t c f 1 ml ++ smv n t c f 2 ml ++ smv n t c f 3 ml ++ smv n t c f 4 ml
theorem tsl_3 (k f : Nat) : tsl n t c k f 3 = (if ¬ 0 = f ∧ hs c 0 n < t then [(wp c k (0 * 4 + hs c 0 n), 64 * k + 8 * f + 0)] else []) ++ (if ¬ 1 = f ∧ hs c 1 n < t then [(wp c k (1 * 4 + hs c 1 n), 64 * k + 8 * f + 1)] else []) ++ (if ¬ 2 = f ∧ hs c 2 n < t then [(wp c k (2 * 4 + hs c 2 n), 64 * k + 8 * f + 2)] else []) := rfl
theorem sm5_lo {f : Nat} (hf : f < 3) : sm5 n t c f ml = ttl1 n t ml c f := by
  have hk : stk n c f = tp c f n := by
    unfold stk
    rw [nld, decide_eq_true hf]
    rfl
  unfold sm5 ttl1
  cases h : tp c f n with
  | zero =>
    rw [h] at hk
    rw [smv_0 hk, smv_0 hk, smv_0 hk, smv_0 hk, smv_0 hk]
    rfl
  | succ k =>
    rw [h] at hk
    rw [smv_lo hk (by omega), smv_lo hk (by omega), smv_lo hk (by omega), smv_3 hk hf, smv_4 hk hf, if_neg (Nat.succ_ne_zero k), Nat.add_sub_cancel, tsl_3]
theorem sm5_hi {l : Nat} : sm5 n t c (3 + l) ml = if atj c l n = 0 then [] else tsl n t c (atj c l n - 1) (3 + l) 3 := by
  have hk : stk n c (3 + l) = atj c l n := by
    unfold stk
    rw [nld, decide_eq_false (by omega), show 3 + l - 3 = l by omega]
    rfl
  unfold sm5
  rw [smv_hi (f := 3 + l) (to := 3) (by omega) (by omega), smv_hi (f := 3 + l) (to := 4) (by omega) (by omega), List.append_nil, List.append_nil]
  cases h : atj c l n with
  | zero =>
    rw [h] at hk
    rw [smv_0 hk, smv_0 hk, smv_0 hk]
    rfl
  | succ k =>
    rw [h] at hk
    rw [smv_lo hk (by omega), smv_lo hk (by omega), smv_lo hk (by omega), if_neg (Nat.succ_ne_zero k), Nat.add_sub_cancel, tsl_3]
theorem sml_35 : sml n t c ml 35 = sm5 n t c 0 ml ++ sm5 n t c 1 ml ++ sm5 n t c 2 ml ++ (sm5 n t c 3 ml ++ sm5 n t c 4 ml ++ sm5 n t c 5 ml ++ sm5 n t c 6 ml) := by
  simp only [sml, sm5, List.nil_append, List.append_assoc, Nat.reduceDiv, Nat.reduceMod]
/-- blocks of the boxes aside -/
def bk (n t c l : Nat) : Nat → List (Nat × Nat) := fun m => if atj c l m = 0 then [] else tsl n t c (atj c l m - 1) (3 + l) 3
theorem atj_0 (l : Nat) : atj c l 0 = 0 := rfl
theorem atj_t {l k : Nat} (h0 : atj c l k = 0) (h : pl c k = 13) (h2 : asc c k = l) : atj c l (k + 1) = k + 1 := by
  show (bif !Nat.beq (atj c l k) 0 then atj c l k else bif Nat.beq (pl c k) 13 && Nat.beq (asc c k) l then k + 1 else 0) = _
  simp [nbd, h0, h, h2]
theorem atj_k {l k : Nat} (h0 : ¬ atj c l k = 0) : atj c l (k + 1) = atj c l k := by
  show (bif !Nat.beq (atj c l k) 0 then atj c l k else bif Nat.beq (pl c k) 13 && Nat.beq (asc c k) l then k + 1 else 0) = _
  simp [nbd, h0]
theorem atj_f {l k : Nat} (h0 : atj c l k = 0) (h : ¬ (pl c k = 13 ∧ asc c k = l)) : atj c l (k + 1) = 0 := by
  show (bif !Nat.beq (atj c l k) 0 then atj c l k else bif Nat.beq (pl c k) 13 && Nat.beq (asc c k) l then k + 1 else 0) = _
  by_cases q : pl c k = 13
  · have q2 : ¬ asc c k = l := fun w => h ⟨q, w⟩
    simp [nbd, h0, q2]
  · simp [nbd, h0, q]
/-- a box aside is found once its turn has come, not before -/
theorem atj_iff (l : Nat) : ∀ k, atj c l k = 0 ↔ asc c k ≤ l
  | 0 => ⟨fun _ => Nat.zero_le _, fun _ => rfl⟩
  | k + 1 => by
    have ih := atj_iff l k
    by_cases h : pl c k = 13
    · have ea : asc c (k + 1) = asc c k + 1 := if_pos h
      rw [ea]
      by_cases h0 : atj c l k = 0
      · by_cases e : asc c k = l
        · rw [atj_t h0 h e]
          constructor
          · intro w; omega
          · intro w; omega
        · rw [atj_f h0 (fun w => e w.2)]
          have := ih.mp h0
          exact ⟨fun _ => by omega, fun _ => rfl⟩
      · rw [atj_k h0]
        have : ¬ asc c k ≤ l := fun w => h0 (ih.mpr w)
        exact ⟨fun w => absurd w h0, fun w => by omega⟩
    · have ea : asc c (k + 1) = asc c k := if_neg h
      rw [ea]
      by_cases h0 : atj c l k = 0
      · rw [atj_f h0 (fun w => h w.1)]
        exact ⟨fun _ => ih.mp h0, fun _ => rfl⟩
      · rw [atj_k h0]
        exact ih
/-- the first blocks -/
def bks (n t c : Nat) (m : Nat) : Nat → List (Nat × Nat)
  | 0 => []
  | l + 1 => bks n t c m l ++ bk n t c l m
theorem bks_k {m m' : Nat} : ∀ l, (∀ j, j < l → bk n t c j m = bk n t c j m') → bks n t c m l = bks n t c m' l
  | 0, _ => rfl
  | l + 1, h => by
    show bks n t c m l ++ bk n t c l m = bks n t c m' l ++ bk n t c l m'
    rw [bks_k l (fun j hj => h j (by omega)), h l (by omega)]
theorem bks_a (m : Nat) : ∀ l, asc c m ≤ l → bks n t c m l = bks n t c m (asc c m) := by
  intro l hl
  induction l with
  | zero => rw [Nat.le_zero.mp hl]
  | succ l ih =>
    rcases Nat.lt_or_ge l (asc c m) with q | q
    · rw [show l + 1 = asc c m by omega]
    · show bks n t c m l ++ bk n t c l m = _
      rw [ih q, show bk n t c l m = [] from if_pos ((atj_iff l m).mpr q), List.append_nil]
theorem asl_bks : ∀ m, asl n t c m = bks n t c m (asc c m)
  | 0 => rfl
  | m + 1 => by
    have ih := asl_bks m
    show (if pl c m = 13 then asl n t c m ++ tsl n t c m (3 + asc c m) 3 else asl n t c m) = _
    have same : ∀ j, j < asc c m → bk n t c j m = bk n t c j (m + 1) := fun j hj => by
      have h0 : ¬ atj c j m = 0 := fun w => absurd ((atj_iff j m).mp w) (by omega)
      unfold bk
      rw [atj_k h0]
    by_cases h : pl c m = 13
    · rw [if_pos h, show asc c (m + 1) = asc c m + 1 from if_pos h]
      show _ = bks n t c (m + 1) (asc c m) ++ bk n t c (asc c m) (m + 1)
      rw [← bks_k _ same, ← ih]
      have h0 : atj c (asc c m) m = 0 := (atj_iff _ m).mpr (Nat.le_refl _)
      rw [show bk n t c (asc c m) (m + 1) = tsl n t c m (3 + asc c m) 3 from by
        unfold bk
        rw [atj_t h0 h rfl, if_neg (by omega), Nat.add_sub_cancel]]
    · rw [if_neg h, show asc c (m + 1) = asc c m from if_neg h, ih]
      exact bks_k _ same
/-- the moves one by one are those of the class -/
theorem sml_suc (hn : n ≤ 4) (ha : asc c n ≤ n) : sml n t c ml 35 = suc n t ml c := by
  rw [sml_35, sm5_lo (by omega), sm5_lo (by omega), sm5_lo (by omega)]
  unfold suc
  have e : asl n t c n = bks n t c n 4 := (asl_bks n).trans (bks_a n 4 (by omega)).symm
  rw [e]
  have b : ∀ l, sm5 n t c (3 + l) ml = bk n t c l n := fun l => sm5_hi
  rw [show sm5 n t c 3 ml = bk n t c 0 n from b 0, show sm5 n t c 4 ml = bk n t c 1 n from b 1, show sm5 n t c 5 ml = bk n t c 2 n from b 2, show sm5 n t c 6 ml = bk n t c 3 n from b 3]
  rfl
end EW
