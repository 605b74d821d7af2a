/-! The class's small methods. -/
def pn_ct (p : Nat → Bool) : Nat → Nat
  | 0 => 0
  | n + 1 => pn_ct p n + (bif p n then 1 else 0)
theorem pn_ct_le (p : Nat → Bool) : ∀ n, pn_ct p n ≤ n
  | 0 => Nat.le_refl 0
  | n + 1 => by
    have := pn_ct_le p n
    show pn_ct p n + _ ≤ n + 1
    cases p n
    · exact Nat.le_succ_of_le this
    · exact Nat.succ_le_succ this
theorem pn_ct_t {p : Nat → Bool} {n : Nat} (h : p n = true) : pn_ct p (n + 1) = pn_ct p n + 1 := by
  show pn_ct p n + _ = _
  rw [h]
  rfl
theorem pn_ct_f {p : Nat → Bool} {n : Nat} (h : p n = false) : pn_ct p (n + 1) = pn_ct p n := by
  show pn_ct p n + _ = _
  rw [h]
  rfl
/-- a truth that a method answers, the cells as they were -/
def px_bo (p : Prop) (C : px_P) : Option Value → px_P → Prop := fun v C' => C' = C ∧ ((p ∧ v = some (.int 1)) ∨ (¬ p ∧ v = some (.int 0)))
theorem px_lw {X : px_S → Prop} (hw : px_wk X) {pc : Nat} {L : List (Nat × Value)} {st : List Value} {C : px_P} {k n : Nat} (L' : List (Nat × Value)) (h : X (pc, L', st, C, k, n)) (hs : px_sub L L') : X (pc, L, st, C, k, n) := hw pc L L' st C k n hs h
section RD
variable {B : Nat} {sc : Option (Nat × Nat × (Nat → Int32))} {d : Nat} {ad : Nat → Nat} {σ : ck_S} {K : rp_K} {C : px_P}
theorem cc_boxAt (hR : Rp ad K C) (hc : Cl ad σ K) (x : Int32) : px_W ps_Y ps_P B sc (d + 1) 4 [.ref (ad 0), .int x] C 0 0 (fun v C' => C' = C ∧ ((∃ j, j < cs_n σ ∧ x = nI j ∧ v = some (.ref (ad (40 + j)))) ∨ ((x < 0 ∨ nI (cs_n σ) ≤ x) ∧ v = some .null))) px_no := by
  have h0 := hR.1 0 _ hc.1.1
  have h2 := hR.1 2 _ hc.1.2.2.1
  have hn := hc.2.2.2.2.2.2.2.2.2
  refine ⟨pm_Mo_boxAt, rfl, Nat.le_of_ble_eq_true rfl, fun X hw hX => ?_⟩
  repeat refine px_go hX ?_
  refine ⟨fun c1 => ?_, fun c1 => ?_⟩
  · repeat refine px_go hX ?_
    exact ⟨rfl, Or.inr ⟨Or.inl c1, rfl⟩⟩
  · repeat refine px_go hX ?_
    refine ⟨_, _, h0, rfl, ?_⟩
    repeat refine px_go hX ?_
    refine ⟨fun c2 => ?_, fun c2 => ?_⟩
    · repeat refine px_go hX ?_
      exact ⟨rfl, Or.inr ⟨Or.inr c2, rfl⟩⟩
    · rcases px_ixx x (cs_n σ) (by omega) with ⟨j, hj, rfl⟩ | h | h
      · repeat refine px_go hX ?_
        refine ⟨_, _, h0, rfl, ?_⟩
        repeat refine px_go hX ?_
        refine ⟨16, by unfold px_len; rw [h2]; rfl, ?_⟩
        repeat refine px_go hX ?_
        refine ⟨fun c3 => ?_, fun c3 => ?_⟩
        · exact absurd c3 (nI_ge (by omega) (by omega))
        · repeat refine px_go hX ?_
          refine ⟨_, _, h0, rfl, ?_⟩
          repeat refine px_go hX ?_
          refine ⟨_, _, _, h2, ⟨Nat.le_of_ble_eq_true rfl, Nat.le_of_ble_eq_true rfl⟩, vp_in_nI (by omega) (by omega), ?_⟩
          rw [nI_clamp (by omega), if_pos hj]
          repeat refine px_go hX ?_
          exact ⟨rfl, Or.inl ⟨j, hj, rfl, rfl⟩⟩
      · exact absurd h c1
      · exact absurd h c2
theorem cc_isToLeave (hR : Rp ad K C) (hc : Cl ad σ K) {j : Nat} (hj : j < cs_n σ) : px_W ps_Y ps_P B sc (d + 1) 5 [.ref (ad (40 + j))] C 0 0 (px_bo (cs_bf σ j 0 = 0 ∧ ¬ cs_bf σ j 2 = 3) C) px_no := by
  have h0 := hR.1 _ _ (hc.2.2.2.1 j hj)
  refine ⟨pm_Box_isToLeave, rfl, Nat.le_of_ble_eq_true rfl, fun X hw hX => ?_⟩
  repeat refine px_go hX ?_
  refine ⟨_, _, h0, rfl, ?_⟩
  repeat refine px_go hX ?_
  refine ⟨fun c1 => ?_, fun c1 => ?_⟩
  · repeat refine px_go hX ?_
    exact ⟨Or.inl rfl, rfl, Or.inr ⟨fun q => c1 q.1, rfl⟩⟩
  · repeat refine px_go hX ?_
    refine ⟨_, _, h0, rfl, ?_⟩
    repeat refine px_go hX ?_
    refine ⟨fun c2 => ?_, fun c2 => ?_⟩
    · repeat refine px_go hX ?_
      exact ⟨Or.inl rfl, rfl, Or.inr ⟨fun q => q.2 c2, rfl⟩⟩
    · repeat refine px_go hX ?_
      exact ⟨Or.inr rfl, rfl, Or.inl ⟨⟨c1, c2⟩, rfl⟩⟩
theorem cc_follows (hR : Rp ad K C) (hc : Cl ad σ K) {j : Nat} (hj : j < cs_n σ) (x : Int32) : px_W ps_Y ps_P B sc (d + 1) 6 [.ref (ad (40 + j)), .int x] C 0 0 (px_bo (¬ ((cs_bf σ j 4 >>> (x &&& 31)) &&& 1) = 0) C) px_no := by
  have h0 := hR.1 _ _ (hc.2.2.2.1 j hj)
  refine ⟨pm_Box_follows, rfl, Nat.le_of_ble_eq_true rfl, fun X hw hX => ?_⟩
  repeat refine px_go hX ?_
  refine ⟨_, _, h0, rfl, ?_⟩
  repeat refine px_go hX ?_
  refine ⟨fun c1 => ?_, fun c1 => ?_⟩
  · repeat refine px_go hX ?_
    exact ⟨Or.inl rfl, rfl, Or.inr ⟨fun q => q c1, rfl⟩⟩
  · repeat refine px_go hX ?_
    exact ⟨Or.inr rfl, rfl, Or.inl ⟨c1, rfl⟩⟩
theorem cc_isIn (hR : Rp ad K C) (hc : Cl ad σ K) {j : Nat} (hj : j < cs_n σ) (x : Int32) : px_W ps_Y ps_P B sc (d + 1) 12 [.ref (ad (40 + j)), .int x] C 0 0 (px_bo (cs_bf σ j 1 = x ∧ ¬ cs_bf σ j 2 = 3) C) px_no := by
  have h0 := hR.1 _ _ (hc.2.2.2.1 j hj)
  refine ⟨pm_Box_isIn, rfl, Nat.le_of_ble_eq_true rfl, fun X hw hX => ?_⟩
  repeat refine px_go hX ?_
  refine ⟨_, _, h0, rfl, ?_⟩
  repeat refine px_go hX ?_
  refine ⟨fun c1 => ?_, fun c1 => ?_⟩
  · repeat refine px_go hX ?_
    exact ⟨Or.inl rfl, rfl, Or.inr ⟨fun q => c1 q.1, rfl⟩⟩
  · repeat refine px_go hX ?_
    refine ⟨_, _, h0, rfl, ?_⟩
    repeat refine px_go hX ?_
    refine ⟨fun c2 => ?_, fun c2 => ?_⟩
    · repeat refine px_go hX ?_
      exact ⟨Or.inl rfl, rfl, Or.inr ⟨fun q => q.2 c2, rfl⟩⟩
    · repeat refine px_go hX ?_
      exact ⟨Or.inr rfl, rfl, Or.inl ⟨⟨c1, c2⟩, rfl⟩⟩
theorem cc_liesInStack (hR : Rp ad K C) (hc : Cl ad σ K) {j : Nat} (hj : j < cs_n σ) : px_W ps_Y ps_P B sc (d + 1) 24 [.ref (ad (40 + j))] C 0 0 (px_bo (¬ 3 ≤ cs_bf σ j 2) C) px_no := by
  have h0 := hR.1 _ _ (hc.2.2.2.1 j hj)
  refine ⟨pm_Box_liesInStack, rfl, Nat.le_of_ble_eq_true rfl, fun X hw hX => ?_⟩
  repeat refine px_go hX ?_
  refine ⟨_, _, h0, rfl, ?_⟩
  repeat refine px_go hX ?_
  refine ⟨fun c1 => ?_, fun c1 => ?_⟩
  · repeat refine px_go hX ?_
    exact ⟨Or.inl rfl, rfl, Or.inr ⟨fun q => q c1, rfl⟩⟩
  · repeat refine px_go hX ?_
    exact ⟨Or.inr rfl, rfl, Or.inl ⟨c1, rfl⟩⟩
theorem cc_liesBelow (hR : Rp ad K C) (hc : Cl ad σ K) {j k : Nat} (hj : j < cs_n σ) (hk : k < cs_n σ) : px_W ps_Y ps_P B sc (d + 1) 25 [.ref (ad (40 + j)), .ref (ad (40 + k))] C 0 0 (px_bo (cs_bf σ j 1 = cs_bf σ k 1 ∧ cs_bf σ j 2 = cs_bf σ k 2 ∧ ¬ cs_bf σ k 3 ≤ cs_bf σ j 3) C) px_no := by
  have h0 := hR.1 _ _ (hc.2.2.2.1 j hj)
  have h1 := hR.1 _ _ (hc.2.2.2.1 k hk)
  refine ⟨pm_Box_liesBelow, rfl, Nat.le_of_ble_eq_true rfl, fun X hw hX => ?_⟩
  repeat refine px_go hX ?_
  refine ⟨_, _, h0, rfl, ?_⟩
  repeat refine px_go hX ?_
  refine ⟨_, _, h1, rfl, ?_⟩
  repeat refine px_go hX ?_
  refine ⟨fun c1 => ?_, fun c1 => ?_⟩
  · repeat refine px_go hX ?_
    exact ⟨Or.inl rfl, rfl, Or.inr ⟨fun q => c1 q.1, rfl⟩⟩
  · repeat refine px_go hX ?_
    refine ⟨_, _, h0, rfl, ?_⟩
    repeat refine px_go hX ?_
    refine ⟨_, _, h1, rfl, ?_⟩
    repeat refine px_go hX ?_
    refine ⟨fun c2 => ?_, fun c2 => ?_⟩
    · repeat refine px_go hX ?_
      exact ⟨Or.inl rfl, rfl, Or.inr ⟨fun q => c2 q.2.1, rfl⟩⟩
    · repeat refine px_go hX ?_
      refine ⟨_, _, h0, rfl, ?_⟩
      repeat refine px_go hX ?_
      refine ⟨_, _, h1, rfl, ?_⟩
      repeat refine px_go hX ?_
      refine ⟨fun c3 => ?_, fun c3 => ?_⟩
      · repeat refine px_go hX ?_
        exact ⟨Or.inl rfl, rfl, Or.inr ⟨fun q => q.2.2 c3, rfl⟩⟩
      · repeat refine px_go hX ?_
        exact ⟨Or.inr rfl, rfl, Or.inl ⟨⟨c1, c2, c3⟩, rfl⟩⟩
/-- a height: how many boxes lie there -/
theorem cc_heightOf (hR : Rp ad K C) (hc : Cl ad σ K) (x y : Int32) : px_W ps_Y ps_P B sc (d + 2) 11 [.ref (ad 0), .int x, .int y] C 0 0 (fun v C' => C' = C ∧ v = some (.int (nI (pn_ct (fun j => decide (cs_bf σ j 1 = x) && decide (cs_bf σ j 2 = y)) (cs_n σ))))) px_no := by
  have h0 := hR.1 0 _ hc.1.1
  have hn := hc.2.2.2.2.2.2.2.2.2
  generalize hp : (fun j => decide (cs_bf σ j 1 = x) && decide (cs_bf σ j 2 = y)) = p
  refine ⟨pm_Mo_heightOf, rfl, Nat.le_of_ble_eq_true rfl, fun X hw hX => ?_⟩
  have loop : ∀ k i, i + k = cs_n σ → X (5, [(0, .ref (ad 0)), (1, .int x), (2, .int y), (3, .int (nI (pn_ct p i))), (4, .int (nI i))], [], C, 0, 0) := by
    intro k
    induction k with
    | zero =>
      intro i hi
      have hi : i = cs_n σ := hi
      repeat refine px_go hX ?_
      refine ⟨_, _, h0, rfl, ?_⟩
      repeat refine px_go hX ?_
      refine ⟨fun c1 => ?_, fun c1 => ?_⟩
      · repeat refine px_go hX ?_
        rw [hi]
        exact ⟨rfl, rfl⟩
      · exact absurd (nI_le (by omega) (by omega)) c1
    | succ k ih =>
      intro i hi
      have hlt : i < cs_n σ := by omega
      have next : ∀ c : Nat, c = pn_ct p (i + 1) → X (48, [(0, .ref (ad 0)), (1, .int x), (2, .int y), (3, .int (nI c)), (4, .int (nI i))], [], C, 0, 0) := by
        intro c hcc
        iterate 2 refine px_go hX ?_
        refine px_lw hw [(0, .ref (ad 0)), (1, .int x), (2, .int y), (3, .int (nI (pn_ct p (i + 1)))), (4, .int (nI (i + 1)))] ?_ ?_
        · exact ih (i + 1) (by omega)
        · exact ⟨rfl, rfl, rfl, by rw [← hcc]; rfl, by rw [nI_succ]; rfl, trivial⟩
      repeat refine px_go hX ?_
      refine ⟨_, _, h0, rfl, ?_⟩
      repeat refine px_go hX ?_
      refine ⟨fun c1 => absurd c1 (nI_ge hlt (by omega)), fun c1 => ?_⟩
      repeat refine px_go hX ?_
      refine ⟨_, h0, 0, 0, _, Nat.le_refl _, Nat.le_refl _, Nat.le_of_ble_eq_true rfl, cc_boxAt hR hc _, ?_⟩
      rintro v C' ⟨rfl, ⟨j, hj, he, rfl⟩ | ⟨hb | hb, -⟩⟩
      · have hij : i = j := (nI_eq (by omega) (by omega)).mp he
        subst hij
        have hbx := hR.1 _ _ (hc.2.2.2.1 i hj)
        repeat refine px_go hX ?_
        refine ⟨_, _, hbx, rfl, ?_⟩
        repeat refine px_go hX ?_
        refine ⟨fun c2 => ?_, fun c2 => ?_⟩
        · refine px_lw hw [(0, .ref (ad 0)), (1, .int x), (2, .int y), (3, .int (nI (pn_ct p i))), (4, .int (nI i))] ?_ ?_
          · exact next _ (pn_ct_f (by rw [← hp]; simp [c2])).symm
          · exact ⟨rfl, rfl, rfl, rfl, rfl, trivial⟩
        · repeat refine px_go hX ?_
          refine ⟨_, _, hbx, rfl, ?_⟩
          repeat refine px_go hX ?_
          refine ⟨fun c3 => ?_, fun c3 => ?_⟩
          · refine px_lw hw [(0, .ref (ad 0)), (1, .int x), (2, .int y), (3, .int (nI (pn_ct p i))), (4, .int (nI i))] ?_ ?_
            · exact next _ (pn_ct_f (by rw [← hp]; simp [c3])).symm
            · exact ⟨rfl, rfl, rfl, rfl, rfl, trivial⟩
          · refine px_go hX ?_
            refine px_lw hw [(0, .ref (ad 0)), (1, .int x), (2, .int y), (3, .int (nI (pn_ct p i + 1))), (4, .int (nI i))] ?_ ?_
            · exact next _ (pn_ct_t (by rw [← hp]; simp [c2, c3])).symm
            · exact ⟨rfl, rfl, rfl, by rw [nI_succ]; rfl, rfl, trivial⟩
      · exact absurd hb (nI_pos (by omega))
      · exact absurd hb (nI_ge hlt (by omega))
  iterate 4 refine px_go hX ?_
  refine px_lw hw [(0, .ref (ad 0)), (1, .int x), (2, .int y), (3, .int (nI (pn_ct p 0))), (4, .int (nI 0))] ?_ ?_
  · exact loop (cs_n σ) 0 (by omega)
  · exact ⟨rfl, rfl, rfl, rfl, rfl, trivial⟩
end RD
