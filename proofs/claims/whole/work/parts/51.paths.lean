/-! An end that can be reached at all is reached by no more than twelve moves. -/
theorem mk_bit : ∀ k, k < 4 → ∀ i, i < 16 → (65535 - 15 * 2 ^ (4 * k)).testBit i = !(decide (4 * k ≤ i) && decide (i < 4 * k + 4)) := by decide +kernel
theorem pl_tb (c k i : Nat) : (pl c k).testBit i = (decide (i < 4) && c.testBit (4 * k + i)) := by
  unfold pl
  rw [Nat.testBit_mod_two_pow, Nat.testBit_div_two_pow, Nat.add_comm]
theorem lt16_bit {p i : Nat} (hp : p < 16) (hi : 4 ≤ i) : p.testBit i = false := Nat.testBit_lt_two_pow (Nat.lt_of_lt_of_le hp (show 2 ^ 4 ≤ 2 ^ i from Nat.pow_le_pow_right (by decide) hi))
theorem wp_bit {c k p i : Nat} (hk : k < 4) (hi : i < 16) : (wp c k p).testBit i = ((c.testBit i && !(decide (4 * k ≤ i) && decide (i < 4 * k + 4))) || (decide (4 * k ≤ i) && p.testBit (i - 4 * k))) := by
  unfold wp
  rw [Nat.testBit_or, Nat.testBit_and, mk_bit k hk i hi, Nat.testBit_mul_two_pow]
theorem pl_wp {c k p : Nat} (hk : k < 4) (hp : p < 16) : pl (wp c k p) k = p := by
  apply Nat.eq_of_testBit_eq
  intro i
  rw [pl_tb]
  by_cases hi : i < 4
  · rw [wp_bit hk (by omega)]
    have h1 : 4 * k ≤ 4 * k + i := Nat.le_add_right _ _
    have h2 : 4 * k + i < 4 * k + 4 := by omega
    rw [decide_eq_true hi, decide_eq_true h1, decide_eq_true h2, Nat.add_sub_cancel_left]
    simp
  · rw [decide_eq_false hi, lt16_bit hp (by omega)]
    rfl
theorem pl_wn {c k p j : Nat} (hk : k < 4) (hp : p < 16) (hj : j < 4) (hjk : j ≠ k) : pl (wp c k p) j = pl c j := by
  apply Nat.eq_of_testBit_eq
  intro i
  rw [pl_tb, pl_tb]
  by_cases hi : i < 4
  · rw [wp_bit hk (by omega)]
    rcases Nat.lt_or_ge (4 * j + i) (4 * k) with q | q
    · have h1 : ¬ 4 * k ≤ 4 * j + i := by omega
      rw [decide_eq_false h1]
      simp
    · have h2 : ¬ 4 * j + i < 4 * k + 4 := by omega
      have h3 : p.testBit (4 * j + i - 4 * k) = false := lt16_bit hp (by omega)
      rw [decide_eq_false h2, h3]
      simp
  · rw [decide_eq_false hi]
    rfl
section PA
variable {n t c : Nat}
theorem tsl_up {k f : Nat} : ∀ i, ∀ y ∈ tsl n 4 c k f i, i ≤ 3 → (y.2 % 8 < 3 → hs c (y.2 % 8) n < t) → y ∈ tsl n t c k f i
  | 0, y, hy, _, _ => hy
  | i + 1, y, hy, hi, hr => by
    have hy : y ∈ tsl n 4 c k f i ++ (if ¬ i = f ∧ hs c i n < 4 then [(wp c k (i * 4 + hs c i n), 64 * k + 8 * f + i)] else []) := hy
    show y ∈ tsl n t c k f i ++ (if ¬ i = f ∧ hs c i n < t then [(wp c k (i * 4 + hs c i n), 64 * k + 8 * f + i)] else [])
    rcases List.mem_append.mp hy with q | q
    · exact List.mem_append_left _ (tsl_up i y q (by omega) hr)
    · by_cases h : ¬ i = f ∧ hs c i n < 4
      · rw [if_pos h] at q
        have e : y.2 % 8 = i := by
          rw [List.mem_singleton.mp q]
          show (64 * k + 8 * f + i) % 8 = i
          omega
        rw [if_pos ⟨h.1, by have := hr (by omega); rw [e] at this; exact this⟩]
        exact List.mem_append_right _ q
      · rw [if_neg h] at q
        cases q
theorem suf_suc {mg : Nat → Bool} {y : Nat × Nat} (hy : y ∈ suf n c) (hr : y.2 % 8 < 3 → hs c (y.2 % 8) n < t) (hm : y.2 % 8 = 3 → mg (y.2 / 64) = true) (hn : n ≤ 4) : y ∈ suc n t mg c := by
  have h1 : ∀ f, f < 3 → y ∈ ttl1 n 4 (fun _ => true) c f → y ∈ ttl1 n t mg c f := fun f hf hy => by
    unfold ttl1 at *
    by_cases h : tp c f n = 0
    · rw [if_pos h] at hy
      cases hy
    · rw [if_neg h] at hy ⊢
      rcases List.mem_append.mp hy with q | q
      · rcases List.mem_append.mp q with q | q
        · exact List.mem_append_left _ (List.mem_append_left _ (tsl_up 3 y q (by omega) hr))
        · rw [if_pos (show (fun _ => true : Nat → Bool) (tp c f n - 1) = true from rfl)] at q
          have e := List.mem_singleton.mp q
          have e1 : y.2 = 64 * (tp c f n - 1) + 8 * f + 3 := by rw [e]
          have h2 : mg (tp c f n - 1) = true := by
            have := hm (by rw [e1]; omega)
            rw [show y.2 / 64 = tp c f n - 1 by rw [e1]; omega] at this
            exact this
          rw [if_pos h2]
          exact List.mem_append_left _ (List.mem_append_right _ q)
      · exact List.mem_append_right _ q
  have h2 : ∀ f, f ≤ 3 → y ∈ ttl n 4 (fun _ => true) c f → y ∈ ttl n t mg c f := fun f => by
    induction f with
    | zero => intro _ hy; cases hy
    | succ f ih =>
      intro hf hy
      rcases List.mem_append.mp (show y ∈ ttl n 4 (fun _ => true) c f ++ ttl1 n 4 (fun _ => true) c f from hy) with q | q
      · exact List.mem_append_left _ (ih (by omega) q)
      · exact List.mem_append_right _ (h1 f (by omega) q)
  have h3 : ∀ k, y ∈ asl n 4 c k → y ∈ asl n t c k := fun k => by
    induction k with
    | zero => intro hy; cases hy
    | succ k ih =>
      intro hy
      have hy : y ∈ (if pl c k = 13 then asl n 4 c k ++ tsl n 4 c k (3 + asc c k) 3 else asl n 4 c k) := hy
      show y ∈ (if pl c k = 13 then asl n t c k ++ tsl n t c k (3 + asc c k) 3 else asl n t c k)
      by_cases h : pl c k = 13
      · rw [if_pos h] at hy ⊢
        rcases List.mem_append.mp hy with q | q
        · exact List.mem_append_left _ (ih q)
        · exact List.mem_append_right _ (tsl_up 3 y q (by omega) hr)
      · rw [if_neg h] at hy ⊢
        exact ih hy
  rcases List.mem_append.mp hy with q | q
  · exact List.mem_append_left _ (h2 3 (by omega) q)
  · exact List.mem_append_right _ (h3 n q)
theorem tsl_k {k f : Nat} (hf : f < 7) : ∀ i, i ≤ 3 → ∀ y ∈ tsl n t c k f i, y.2 / 64 = k ∧ ¬ y.2 % 8 = 3
  | 0, _, y, hy => by cases hy
  | i + 1, hi, y, hy => by
    have hy : y ∈ tsl n t c k f i ++ (if ¬ i = f ∧ hs c i n < t then [(wp c k (i * 4 + hs c i n), 64 * k + 8 * f + i)] else []) := hy
    rcases List.mem_append.mp hy with q | q
    · exact tsl_k hf i (by omega) y q
    · by_cases h : ¬ i = f ∧ hs c i n < t
      · rw [if_pos h] at q
        rw [List.mem_singleton.mp q]
        exact ⟨by show (64 * k + 8 * f + i) / 64 = k; omega, by show ¬ (64 * k + 8 * f + i) % 8 = 3; omega⟩
      · rw [if_neg h] at q
        cases q
/-- which box a move moves, and that it may go out if it does -/
theorem suc_k {mg : Nat → Bool} (hn : n ≤ 4) : ∀ y ∈ suc n t mg c, y.2 / 64 < n ∧ (y.2 % 8 = 3 → mg (y.2 / 64) = true) := by
  have h1 : ∀ f, f < 3 → ∀ y ∈ ttl1 n t mg c f, y.2 / 64 < n ∧ (y.2 % 8 = 3 → mg (y.2 / 64) = true) := fun f hf y hy => by
    unfold ttl1 at hy
    have hl := tp_le c f n
    by_cases h : tp c f n = 0
    · rw [if_pos h] at hy
      cases hy
    · rw [if_neg h] at hy
      rcases List.mem_append.mp hy with q | q
      · rcases List.mem_append.mp q with q | q
        · have := tsl_k (by omega) 3 (by omega) y q
          exact ⟨by omega, fun w => absurd w this.2⟩
        · by_cases h2 : mg (tp c f n - 1) = true
          · rw [if_pos h2] at q
            rw [List.mem_singleton.mp q]
            have e : (64 * (tp c f n - 1) + 8 * f + 3) / 64 = tp c f n - 1 := by omega
            exact ⟨by show (64 * (tp c f n - 1) + 8 * f + 3) / 64 < n; omega, fun _ => by show mg ((64 * (tp c f n - 1) + 8 * f + 3) / 64) = true; rw [e]; exact h2⟩
          · rw [if_neg h2] at q
            cases q
      · rw [List.mem_singleton.mp q]
        exact ⟨by show (64 * (tp c f n - 1) + 8 * f + 4) / 64 < n; omega, fun w => absurd w (by show ¬ (64 * (tp c f n - 1) + 8 * f + 4) % 8 = 3; omega)⟩
  have h2 : ∀ f, f ≤ 3 → ∀ y ∈ ttl n t mg c f, y.2 / 64 < n ∧ (y.2 % 8 = 3 → mg (y.2 / 64) = true) := fun f => by
    induction f with
    | zero => intro _ y hy; cases hy
    | succ f ih =>
      intro hf y hy
      rcases List.mem_append.mp (show y ∈ ttl n t mg c f ++ ttl1 n t mg c f from hy) with q | q
      · exact ih (by omega) y q
      · exact h1 f (by omega) y q
  have h3 : ∀ k, k ≤ n → ∀ y ∈ asl n t c k, y.2 / 64 < n ∧ (y.2 % 8 = 3 → mg (y.2 / 64) = true) := fun k => by
    induction k with
    | zero => intro _ y hy; cases hy
    | succ k ih =>
      intro hk y hy
      have hy : y ∈ (if pl c k = 13 then asl n t c k ++ tsl n t c k (3 + asc c k) 3 else asl n t c k) := hy
      have ha := asc_le c k
      by_cases h : pl c k = 13
      · rw [if_pos h] at hy
        rcases List.mem_append.mp hy with q | q
        · exact ih (by omega) y q
        · have := tsl_k (by omega) 3 (by omega) y q
          exact ⟨by omega, fun w => absurd w this.2⟩
      · rw [if_neg h] at hy
        exact ih (by omega) y hy
  intro y hy
  rcases List.mem_append.mp hy with q | q
  · exact h2 3 (by omega) y q
  · exact h3 n (Nat.le_refl n) y q
theorem ins_0 : ∀ n, ins c n = 0 → ∀ k, k < n → 12 ≤ pl c k
  | 0, _, k, hk => absurd hk (Nat.not_lt_zero k)
  | n + 1, h, k, hk => by
    have h : (bif Nat.blt (pl c n) 12 then ins c n + 1 else ins c n) = 0 := h
    rw [nld] at h
    by_cases q : pl c n < 12
    · rw [decide_eq_true q] at h
      exact absurd h (Nat.succ_ne_zero _)
    · rw [decide_eq_false q] at h
      rcases Nat.lt_or_ge k n with r | r
      · exact ins_0 n h k r
      · rw [show k = n by omega]
        omega
theorem hs_0 {s : Nat} (hs3 : s < 3) : ∀ n, (∀ k, k < n → 12 ≤ pl c k) → hs c s n = 0
  | 0, _ => rfl
  | n + 1, h => by
    have := h n (by omega)
    show (if pl c n / 4 = s ∧ hs c s n ≤ pl c n % 4 then pl c n % 4 + 1 else hs c s n) = 0
    rw [if_neg (by omega)]
    exact hs_0 hs3 n (fun k hk => h k (by omega))
variable {mg : Nat → Nat → Bool}
theorem Vd.down (hn : n ≤ 4) (t4 : t ≤ 4) : ∀ (N : Nat) {c : Nat}, Vd n t c → ins c n = N → ∃ a, Vd n t a ∧ ins a n = 0 ∧ asd a n = asd c n ∧ Rn (fun c => suc n t (mg c) c) N c a ∧ Rn (fun c => suc n t (mg c) c) N a c
  | 0, c, h, hN => ⟨c, h, hN, rfl, rfl, rfl⟩
  | N + 1, c, h, hN => by
    have q := k_c_t hn h.1
    unfold k_c at q
    rw [nbd, hN, decide_eq_false (Nat.succ_ne_zero N), Bool.false_or] at q
    obtain ⟨y, hy, q⟩ := List.any_eq_true.mp q
    have q0 := band q
    have q1 := band q0.1
    have y4 : y.2 % 8 = 4 := nbt q1.1
    have yi : ins y.1 n + 1 = N + 1 := nbt q1.2
    obtain ⟨z, hz, r⟩ := List.any_eq_true.mp q0.2
    have r0 := band r
    have r1 := band r0.1
    have zc : z.1 = c := nbt r1.1
    have z3 : z.2 % 8 < 3 := nlt_ r1.2
    have zr : hs y.1 (z.2 % 8) n < hs c (z.2 % 8) n := nlt_ r0.2
    have ys : y ∈ suc n t (mg c) c := suf_suc hy (fun w => by omega) (fun w => by omega) hn
    have hv := h.nx hn t4 ys
    have zs : z ∈ suc n t (mg y.1) y.1 := suf_suc hz (fun w => Nat.lt_of_lt_of_le zr (h.2 _ w)) (fun w => by omega) hn
    have ya : asd y.1 n = asd c n := by
      have b := List.all_eq_true.mp (k_b_t hn h.1) y hy
      have b2 := (band b).2
      rw [nbd, decide_eq_false (by omega)] at b2
      exact nbt (band b2).1
    obtain ⟨a, a1, a2, a3, a4, a5⟩ := Vd.down hn t4 N hv (by omega)
    refine ⟨a, a1, a2, a3.trans ya, ?_, ?_⟩
    · have := (Rn.one (sc := fun c => suc n t (mg c) c) ys).tr a4
      rw [Nat.add_comm] at this
      exact this
    · have := a5.tr (Rn.one (sc := fun c => suc n t (mg c) c) zs)
      rw [zc] at this
      exact this
theorem asd_12 (hn : n ≤ 4) (h : c ∈ LL n) {j : Nat} (hj : j < n) : pl (asd c n) j = 12 ↔ pl c j = 12 := by
  have q := bbt (allN_at (band (band (k_d_t hn h)).1).2 hj)
  rw [nbd, nbd] at q
  exact decide_eq_decide.mp q
theorem asd_0 (hn : n ≤ 4) (h : c ∈ LL n) (h0 : ins c n = 0) : asd c n = c := by
  have q := (band (k_d_t hn h)).2
  rw [nbd, decide_eq_true h0] at q
  exact nbt q
/-- all boxes set aside, those that went out go back to a stack and out -/
theorem Vd.along (hn : n ≤ 4) (t4 : t ≤ 4) (t1 : 1 ≤ t) (hmg : ∀ c c', (∀ j, j < n → (pl c j = 12 ↔ pl c' j = 12)) → mg c = mg c') {c0 : Nat} (h0 : Vd n t c0) : ∀ (k : Nat) {c : Nat}, Rn (fun c => suc n t (mg c) c) k c0 c → Vd n t c ∧ ous c0 n ≤ ous c n ∧ Rn (fun c => suc n t (mg c) c) (2 * (ous c n - ous c0 n)) (asd c0 n) (asd c n)
  | 0, c, h => by
    have h : c0 = c := h
    subst h
    refine ⟨h0, Nat.le_refl _, ?_⟩
    rw [Nat.sub_self]
    exact rfl
  | k + 1, c, ⟨m, hm, s, hs⟩ => by
    obtain ⟨vm, om, rm⟩ := Vd.along hn t4 t1 hmg h0 k hm
    have hs : (c, s) ∈ suc n t (mg m) m := hs
    have vc := vm.nx hn t4 hs
    have b := (band (List.all_eq_true.mp (k_b_t hn vm.1) (c, s) (suc_sub t4 _ hs))).2
    by_cases h3 : s % 8 = 3
    · rw [nbd, decide_eq_true h3] at b
      have b0 := band b
      have b1 := band b0.1
      have e1 : asd c n = wp (asd m n) (s / 64) 12 := nbt b1.1
      have e2 : pl (asd m n) (s / 64) = 13 := nbt b1.2
      have e3 : ous c n = ous m n + 1 := nbt b0.2
      obtain ⟨hk, hout⟩ := suc_k hn _ hs
      have hk : s / 64 < n := hk
      have hout : mg m (s / 64) = true := hout h3
      obtain ⟨a, a1, a2, a3, -, -⟩ := Vd.down (mg := mg) hn t4 _ vm rfl
      have ea : a = asd m n := (asd_0 hn a1.1 a2).symm.trans a3
      subst ea
      refine ⟨vc, by omega, ?_⟩
      have ke := k_e_t hn a1.1
      unfold k_e at ke
      rw [nbd, decide_eq_true a2] at ke
      have ke := allN_at ke hk
      rw [e2] at ke
      have ke := band ke
      obtain ⟨z, hz, z1⟩ := List.any_eq_true.mp ke.1
      obtain ⟨w, hw, w1⟩ := List.any_eq_true.mp ke.2
      have z2 := band z1
      have w2 := band w1
      have zc : z.1 = wp (asd m n) (s / 64) 0 := nbt z2.1
      have zt : z.2 % 8 = 0 := nbt z2.2
      have wc : w.1 = wp (asd m n) (s / 64) 12 := nbt w2.1
      have wt : w.2 = 64 * (s / 64) + 3 := nbt w2.2
      have zs : z ∈ suc n t (mg (asd m n)) (asd m n) := suf_suc hz (fun _ => by rw [zt, hs_0 (by omega) n (ins_0 n a2)]; exact t1) (fun q => by omega) hn
      have same : mg (wp (asd m n) (s / 64) 0) = mg m := hmg _ _ (fun j hj => by
        rw [← asd_12 hn vm.1 hj]
        by_cases hjk : j = s / 64
        · rw [hjk, pl_wp (by omega) (by omega), e2]
          constructor <;> (intro q; cases q)
        · rw [pl_wn (by omega) (by omega) (by omega) hjk])
      have ws : w ∈ suc n t (mg (wp (asd m n) (s / 64) 0)) (wp (asd m n) (s / 64) 0) := suf_suc hw (fun q => by rw [wt] at q; omega) (fun _ => by rw [same, wt, show (64 * (s / 64) + 3) / 64 = s / 64 by omega]; exact hout) hn
      have p1 := Rn.one (sc := fun c => suc n t (mg c) c) zs
      rw [zc] at p1
      have p2 := Rn.one (sc := fun c => suc n t (mg c) c) ws
      rw [wc, ← e1] at p2
      have := rm.tr (p1.tr p2)
      rw [show 2 * (ous m n - ous c0 n) + (1 + 1) = 2 * (ous c n - ous c0 n) by omega] at this
      exact this
    · rw [nbd, decide_eq_false h3] at b
      have b0 := band b
      have e1 : asd c n = asd m n := nbt b0.1
      have e2 : ous c n = ous m n := nbt b0.2
      refine ⟨vc, by omega, ?_⟩
      rw [e1, e2]
      exact rm
/-- twelve moves are enough -/
theorem Vd.twelve (hn : n ≤ 4) (t4 : t ≤ 4) (t1 : 1 ≤ t) (hmg : ∀ c c', (∀ j, j < n → (pl c j = 12 ↔ pl c' j = 12)) → mg c = mg c') {c0 : Nat} (h0 : Vd n t c0) {k c : Nat} (h : Rn (fun c => suc n t (mg c) c) k c0 c) : ∃ k', k' ≤ 12 ∧ Rn (fun c => suc n t (mg c) c) k' c0 c := by
  obtain ⟨vc, oc, rc⟩ := Vd.along hn t4 t1 hmg h0 k h
  obtain ⟨a, a1, a2, a3, a4, -⟩ := Vd.down (mg := mg) hn t4 _ h0 rfl
  obtain ⟨b, b1, b2, b3, -, b5⟩ := Vd.down (mg := mg) hn t4 _ vc rfl
  have ea : a = asd c0 n := (asd_0 hn a1.1 a2).symm.trans a3
  have eb : b = asd c n := (asd_0 hn b1.1 b2).symm.trans b3
  subst ea
  subst eb
  have l1 := Nat.le_of_ble_eq_true (band (band (band (k_d_t hn h0.1)).1).1).2
  have l2 := Nat.le_of_ble_eq_true (band (band (band (k_d_t hn vc.1)).1).1).2
  exact ⟨_, by omega, (a4.tr rc).tr b5⟩
end PA
