/-! The class's loops over its boxes. -/
theorem pn_alls {P : Nat → Prop} {i : Nat} (h : ∀ q, q < i → P q) (hi : P i) : ∀ q, q < i + 1 → P q := fun q hq => (Nat.lt_succ_iff_lt_or_eq.mp hq).elim (h q) (fun e => e ▸ hi)
section RF
variable {B : Nat} {sc : Option (Nat × Nat × (Nat → Int32))} {d : Nat} {ad : Nat → Nat} {σ : ck_S} {K : rp_K} {C : px_P}
theorem cc_boxAtI (hR : Rp ad K C) (hc : Cl ad σ K) {j : Nat} (hj : j < cs_n σ) : px_W ps_Y ps_P B sc (d + 1) 4 [.ref (ad 0), .int (nI j)] C 0 0 (fun v C' => C' = C ∧ v = some (.ref (ad (40 + j)))) px_no := by
  have h0 := hR.1 0 _ hc.1.1
  have h2 := hR.1 2 _ hc.1.2.2.1
  have hn := hc.2.2.2.2.2.2.2.2.2
  refine ⟨pm_Mo_boxAt, rfl, Nat.le_of_ble_eq_true rfl, fun X hw hX => ?_⟩
  repeat refine px_go hX ?_
  refine ⟨fun c1 => absurd c1 (nI_pos (by omega)), fun c1 => ?_⟩
  repeat refine px_go hX ?_
  refine ⟨_, _, h0, rfl, ?_⟩
  repeat refine px_go hX ?_
  refine ⟨fun c2 => absurd c2 (nI_ge hj (by omega)), fun c2 => ?_⟩
  repeat refine px_go hX ?_
  refine ⟨_, _, h0, rfl, ?_⟩
  repeat refine px_go hX ?_
  refine ⟨16, by unfold px_len; rw [h2]; rfl, ?_⟩
  repeat refine px_go hX ?_
  refine ⟨fun c3 => absurd c3 (nI_ge (by omega) (by omega)), fun c3 => ?_⟩
  repeat refine px_go hX ?_
  refine ⟨_, _, h0, rfl, ?_⟩
  repeat refine px_go hX ?_
  refine ⟨_, _, _, h2, ⟨Nat.le_of_ble_eq_true rfl, Nat.le_of_ble_eq_true rfl⟩, vp_in_nI (by omega) (by omega), ?_⟩
  rw [nI_clamp (by omega), if_pos hj]
  repeat refine px_go hX ?_
  exact ⟨rfl, rfl⟩
theorem cc_bayAtI (hR : Rp ad K C) (hc : Cl ad σ K) {b : Nat} (hb : b < cs_nb σ) : px_W ps_Y ps_P B sc (d + 1) 3 [.ref (ad 0), .int (nI b)] C 0 0 (fun v C' => C' = C ∧ v = some (.ref (ad (20 + 4 * b)))) px_no := by
  have h0 := hR.1 0 _ hc.1.1
  have h1 := hR.1 1 _ hc.1.2.1
  have hnb := hc.2.2.2.2.2.2.1
  refine ⟨pm_Mo_bayAt, rfl, Nat.le_of_ble_eq_true rfl, fun X hw hX => ?_⟩
  repeat refine px_go hX ?_
  refine ⟨fun c1 => absurd c1 (nI_pos (by omega)), fun c1 => ?_⟩
  repeat refine px_go hX ?_
  refine ⟨_, _, h0, rfl, ?_⟩
  repeat refine px_go hX ?_
  refine ⟨cs_nb σ, by unfold px_len; rw [h1]; rfl, ?_⟩
  repeat refine px_go hX ?_
  refine ⟨fun c2 => absurd c2 (nI_ge hb (by omega)), fun c2 => ?_⟩
  repeat refine px_go hX ?_
  refine ⟨_, _, h0, rfl, ?_⟩
  repeat refine px_go hX ?_
  refine ⟨_, _, _, h1, ⟨Nat.le_refl 3, Nat.le_of_ble_eq_true rfl⟩, vp_in_nI hb (by omega), ?_⟩
  rw [nI_clamp (by omega), if_pos hb]
  repeat refine px_go hX ?_
  exact ⟨rfl, rfl⟩
theorem cc_boxesIn (hR : Rp ad K C) (hc : Cl ad σ K) (x : Int32) : px_W ps_Y ps_P B sc (d + 2) 13 [.ref (ad 0), .int x] C 0 0 (fun v C' => C' = C ∧ v = some (.int (nI (pn_ct (fun j => decide (cs_bf σ j 1 = x ∧ ¬ cs_bf σ j 2 = 3)) (cs_n σ))))) px_no := by
  have h0 := hR.1 0 _ hc.1.1
  have hn := hc.2.2.2.2.2.2.2.2.2
  generalize hp : (fun j => decide (cs_bf σ j 1 = x ∧ ¬ cs_bf σ j 2 = 3)) = p
  refine ⟨pm_Mo_boxesIn, rfl, Nat.le_of_ble_eq_true rfl, fun X hw hX => ?_⟩
  have loop : ∀ k i, i + k = cs_n σ → X (4, [(0, .ref (ad 0)), (1, .int (x)), (2, .int (nI (pn_ct p i))), (3, .int (nI i))], [], C, 0, 0) := by
    intro k
    induction k with
    | zero =>
      intro i hi
      have hlt : i = cs_n σ := hi
      iterate 3 refine px_go hX ?_
      refine ⟨_, _, h0, rfl, ?_⟩
      refine px_go hX ?_
      refine ⟨fun (c1 : nI (cs_n σ) ≤ nI i) => ?_, fun (c1 : ¬ nI (cs_n σ) ≤ nI i) => absurd (nI_le (by omega) (by omega)) c1⟩
      iterate 2 refine px_go hX ?_
      rw [hlt]
      exact ⟨rfl, rfl⟩
    | succ k ih =>
      intro i hi
      have hlt : i < cs_n σ := by omega
      iterate 3 refine px_go hX ?_
      refine ⟨_, _, h0, rfl, ?_⟩
      refine px_go hX ?_
      refine ⟨fun (c2 : nI (cs_n σ) ≤ nI i) => absurd c2 (nI_ge hlt (by omega)), fun (c2 : ¬ nI (cs_n σ) ≤ nI i) => ?_⟩
      iterate 3 refine px_go hX ?_
      refine ⟨_, h0, 0, 0, _, Nat.le_of_ble_eq_true rfl, Nat.le_of_ble_eq_true rfl, Nat.le_of_ble_eq_true rfl, cc_boxAtI hR hc hlt, ?_⟩
      rintro _ C ⟨rfl, rfl⟩
      iterate 6 refine px_go hX ?_
      refine ⟨_, (hR.1 _ _ (hc.2.2.2.1 i hlt)), 0, 0, _, Nat.le_of_ble_eq_true rfl, Nat.le_of_ble_eq_true rfl, Nat.le_of_ble_eq_true rfl, cc_isIn hR hc hlt _, ?_⟩
      rintro _ C ⟨rfl, ⟨b3, rfl⟩ | ⟨b3, rfl⟩⟩
      · refine px_go hX ?_
        refine ⟨fun (c4 : 1 = 0) => absurd c4 (by decide), fun (c4 : ¬ 1 = 0) => ?_⟩
        iterate 3 refine px_go hX ?_
        exact px_lw hw [(0, .ref (ad 0)), (1, .int (x)), (2, .int (nI (pn_ct p (i + 1)))), (3, .int (nI (i + 1)))] (ih (i + 1) (by omega)) ⟨rfl, rfl, by rw [pn_ct_t (by rw [← hp]; exact decide_eq_true (by simp [c2, b3, c4])), nI_succ]; rfl, (congrArg (fun z => some (Value.int z)) (nI_succ _).symm), trivial⟩
      · refine px_go hX ?_
        refine ⟨fun (c5 : 0 = 0) => ?_, fun (c5 : ¬ 0 = 0) => absurd rfl c5⟩
        iterate 2 refine px_go hX ?_
        exact px_lw hw [(0, .ref (ad 0)), (1, .int (x)), (2, .int (nI (pn_ct p (i + 1)))), (3, .int (nI (i + 1)))] (ih (i + 1) (by omega)) ⟨rfl, rfl, by rw [pn_ct_f (by rw [← hp]; exact decide_eq_false (by simp [c2, b3, c5]))]; rfl, (congrArg (fun z => some (Value.int z)) (nI_succ _).symm), trivial⟩
  iterate 4 refine px_go hX ?_
  exact px_lw hw [(0, .ref (ad 0)), (1, .int (x)), (2, .int (nI (pn_ct p 0))), (3, .int (nI 0))] (loop (cs_n σ - 0) 0 (by omega)) ⟨rfl, rfl, rfl, rfl, trivial⟩
theorem cc_boxesAt (hR : Rp ad K C) (hc : Cl ad σ K) (x : Int32) : px_W ps_Y ps_P B sc (d + 2) 16 [.ref (ad 0), .int x] C 0 0 (fun v C' => C' = C ∧ v = some (.int (nI (pn_ct (fun j => decide (cs_bf σ j 2 = x)) (cs_n σ))))) px_no := by
  have h0 := hR.1 0 _ hc.1.1
  have hn := hc.2.2.2.2.2.2.2.2.2
  generalize hp : (fun j => decide (cs_bf σ j 2 = x)) = p
  refine ⟨pm_Mo_boxesAt, rfl, Nat.le_of_ble_eq_true rfl, fun X hw hX => ?_⟩
  have loop : ∀ k i, i + k = cs_n σ → X (4, [(0, .ref (ad 0)), (1, .int (x)), (2, .int (nI (pn_ct p i))), (3, .int (nI i))], [], C, 0, 0) := by
    intro k
    induction k with
    | zero =>
      intro i hi
      have hlt : i = cs_n σ := hi
      iterate 3 refine px_go hX ?_
      refine ⟨_, _, h0, rfl, ?_⟩
      refine px_go hX ?_
      refine ⟨fun (c1 : nI (cs_n σ) ≤ nI i) => ?_, fun (c1 : ¬ nI (cs_n σ) ≤ nI i) => absurd (nI_le (by omega) (by omega)) c1⟩
      iterate 2 refine px_go hX ?_
      rw [hlt]
      exact ⟨rfl, rfl⟩
    | succ k ih =>
      intro i hi
      have hlt : i < cs_n σ := by omega
      iterate 3 refine px_go hX ?_
      refine ⟨_, _, h0, rfl, ?_⟩
      refine px_go hX ?_
      refine ⟨fun (c2 : nI (cs_n σ) ≤ nI i) => absurd c2 (nI_ge hlt (by omega)), fun (c2 : ¬ nI (cs_n σ) ≤ nI i) => ?_⟩
      iterate 3 refine px_go hX ?_
      refine ⟨_, h0, 0, 0, _, Nat.le_of_ble_eq_true rfl, Nat.le_of_ble_eq_true rfl, Nat.le_of_ble_eq_true rfl, cc_boxAtI hR hc hlt, ?_⟩
      rintro _ C ⟨rfl, rfl⟩
      iterate 5 refine px_go hX ?_
      refine ⟨_, _, (hR.1 _ _ (hc.2.2.2.1 i hlt)), rfl, ?_⟩
      iterate 2 refine px_go hX ?_
      refine ⟨fun (c3 : ¬ cs_bf σ i 2 = x) => ?_, fun (c3 : cs_bf σ i 2 = x) => ?_⟩
      · iterate 2 refine px_go hX ?_
        exact px_lw hw [(0, .ref (ad 0)), (1, .int (x)), (2, .int (nI (pn_ct p (i + 1)))), (3, .int (nI (i + 1)))] (ih (i + 1) (by omega)) ⟨rfl, rfl, by rw [pn_ct_f (by rw [← hp]; exact decide_eq_false (by simp [c2, c3]))]; rfl, (congrArg (fun z => some (Value.int z)) (nI_succ _).symm), trivial⟩
      · iterate 3 refine px_go hX ?_
        exact px_lw hw [(0, .ref (ad 0)), (1, .int (x)), (2, .int (nI (pn_ct p (i + 1)))), (3, .int (nI (i + 1)))] (ih (i + 1) (by omega)) ⟨rfl, rfl, by rw [pn_ct_t (by rw [← hp]; exact decide_eq_true (by simp [c2, c3])), nI_succ]; rfl, (congrArg (fun z => some (Value.int z)) (nI_succ _).symm), trivial⟩
  iterate 4 refine px_go hX ?_
  exact px_lw hw [(0, .ref (ad 0)), (1, .int (x)), (2, .int (nI (pn_ct p 0))), (3, .int (nI 0))] (loop (cs_n σ - 0) 0 (by omega)) ⟨rfl, rfl, rfl, rfl, trivial⟩
/-- what a call does: 0 and its answer, or why it throws; the state behind it -/
abbrev cs_R : Type := Nat × Int32 × ck_S
/-- a bay's, a box's number -/
def cs_bq (σ : ck_S) (x : Int32) : Option Nat := if x < 0 ∨ nI (cs_nb σ) ≤ x then none else some x.toNatClampNeg
def cs_xq (σ : ck_S) (x : Int32) : Option Nat := if x < 0 ∨ nI (cs_n σ) ≤ x then none else some x.toNatClampNeg
theorem cs_bq_s (hc : Cl ad σ K) {b : Nat} (hb : b < cs_nb σ) : cs_bq σ (nI b) = some b := by
  have hnb := hc.2.2.2.2.2.2.1
  unfold cs_bq
  rw [if_neg, nI_clamp (by omega)]
  rintro (h | h)
  · exact nI_pos (by omega) h
  · exact nI_ge hb (by omega) h
theorem cs_bq_n {x : Int32} (h : x < 0 ∨ nI (cs_nb σ) ≤ x) : cs_bq σ x = none := if_pos h
theorem cs_xq_s (hc : Cl ad σ K) {b : Nat} (hb : b < cs_n σ) : cs_xq σ (nI b) = some b := by
  have hnb := hc.2.2.2.2.2.2.2.2.2
  unfold cs_xq
  rw [if_neg, nI_clamp (by omega)]
  rintro (h | h)
  · exact nI_pos (by omega) h
  · exact nI_ge hb (by omega) h
theorem cs_xq_n {x : Int32} (h : x < 0 ∨ nI (cs_n σ) ≤ x) : cs_xq σ x = none := if_pos h
/-- the class stands at σ, other cells as they were -/
def Ca (ad : Nat → Nat) (σ : ck_S) (K : rp_K) (C : px_P) : Prop := ∃ ad' K', Rp ad' K' C ∧ Cl ad' σ K' ∧ (∀ i, 100 ≤ i → K' i = K i ∧ ad' i = ad i) ∧ ad' 0 = ad 0
theorem Ck.ca (h : Ck ad σ K C) : Ca ad σ K C := by
  obtain ⟨K', h1, h2, h3⟩ := h
  exact ⟨ad, K', h1, h2, fun i hi => ⟨h3 i hi, rfl⟩, rfl⟩
theorem Ca.of (hR : Rp ad K C) (hc : Cl ad σ K) : Ca ad σ K C := ⟨ad, K, hR, hc, fun _ _ => ⟨rfl, rfl⟩, rfl⟩
/-- a call of the class that came back -/
def px_oC (ad : Nat → Nat) (K : rp_K) (r : cs_R) : Option Value → px_P → Prop := fun v C' => r.1 = 0 ∧ v = some (.int r.2.1) ∧ Ca ad r.2.2 K C'
/-- one that threw: the kinds by their numbers, an index out of bounds stands for 1 -/
def px_oT (ad : Nat → Nat) (K : rp_K) (r : cs_R) : Nat → px_P → Prop := fun kd C' => (kd = 1 ∧ r.1 = 1 ∨ kd = 2 ∧ r.1 = 2 ∨ kd = 3 ∧ r.1 = 1) ∧ Ca ad r.2.2 K C'
abbrev cs_nds (σ : ck_S) (j : Nat) : Prop := ¬ cs_bf σ j 4 = 0 ∨ ∃ i, i < cs_n σ ∧ ¬ ((cs_bf σ i 4 >>> (nI j &&& 31)) &&& 1) = 0
abbrev cs_abv (σ : ck_S) (j : Nat) : Prop := ¬ 3 ≤ cs_bf σ j 2 ∧ ∃ i, i < cs_n σ ∧ cs_bf σ i 0 = 0 ∧ (cs_bf σ i 1 = cs_bf σ j 1 ∧ cs_bf σ i 2 = cs_bf σ j 2 ∧ ¬ cs_bf σ j 3 ≤ cs_bf σ i 3)
theorem cc_hasNeeds (hR : Rp ad K C) (hc : Cl ad σ K) {j : Nat} (hj : j < cs_n σ) : px_W ps_Y ps_P B sc (d + 2) 23 [.ref (ad 0), .int (nI j), .ref (ad (40 + j))] C 0 0 (px_bo (cs_nds σ j) C) px_no := by
  have h0 := hR.1 0 _ hc.1.1
  have hn := hc.2.2.2.2.2.2.2.2.2
  refine ⟨pm_Mo_hasNeeds, rfl, Nat.le_of_ble_eq_true rfl, fun X hw hX => ?_⟩
  iterate 2 refine px_go hX ?_
  refine ⟨_, _, (hR.1 _ _ (hc.2.2.2.1 j hj)), rfl, ?_⟩
  refine px_go hX ?_
  refine ⟨fun (c1 : cs_bf σ j 4 = 0) => ?_, fun (c1 : ¬ cs_bf σ j 4 = 0) => ?_⟩
  · iterate 2 refine px_go hX ?_
    have loop : ∀ k i, i + k = cs_n σ → (∀ q, q < i → ¬ ¬ ((cs_bf σ q 4 >>> (nI j &&& 31)) &&& 1) = 0) → X (11, [(0, .ref (ad 0)), (1, .int (nI j)), (3, .int (nI i))], [], C, 0, 0) := by
      intro k
      induction k with
      | zero =>
        intro i hi hyp
        have hlt : i = cs_n σ := hi
        have h4 := c1
        iterate 3 refine px_go hX ?_
        refine ⟨_, _, h0, rfl, ?_⟩
        refine px_go hX ?_
        refine ⟨fun (c2 : nI (cs_n σ) ≤ nI i) => ?_, fun (c2 : ¬ nI (cs_n σ) ≤ nI i) => absurd (nI_le (by omega) (by omega)) c2⟩
        iterate 2 refine px_go hX ?_
        exact ⟨Or.inl rfl, rfl, Or.inr ⟨fun q => q.elim (fun q => q h4) (fun ⟨q, hq, hq2⟩ => hyp q (by omega) hq2), rfl⟩⟩
      | succ k ih =>
        intro i hi hyp
        have hlt : i < cs_n σ := by omega
        have h4 := c1
        iterate 3 refine px_go hX ?_
        refine ⟨_, _, h0, rfl, ?_⟩
        refine px_go hX ?_
        refine ⟨fun (c3 : nI (cs_n σ) ≤ nI i) => absurd c3 (nI_ge hlt (by omega)), fun (c3 : ¬ nI (cs_n σ) ≤ nI i) => ?_⟩
        iterate 3 refine px_go hX ?_
        refine ⟨_, h0, 0, 0, _, Nat.le_of_ble_eq_true rfl, Nat.le_of_ble_eq_true rfl, Nat.le_of_ble_eq_true rfl, cc_boxAtI hR hc hlt, ?_⟩
        rintro _ C ⟨rfl, rfl⟩
        iterate 6 refine px_go hX ?_
        refine ⟨_, (hR.1 _ _ (hc.2.2.2.1 i hlt)), 0, 0, _, Nat.le_of_ble_eq_true rfl, Nat.le_of_ble_eq_true rfl, Nat.le_of_ble_eq_true rfl, cc_follows hR hc hlt _, ?_⟩
        rintro _ C ⟨rfl, ⟨b4, rfl⟩ | ⟨b4, rfl⟩⟩
        · refine px_go hX ?_
          refine ⟨fun (c5 : 1 = 0) => absurd c5 (by decide), fun (c5 : ¬ 1 = 0) => ?_⟩
          iterate 2 refine px_go hX ?_
          exact ⟨Or.inr rfl, rfl, Or.inl ⟨Or.inr ⟨i, hlt, b4⟩, rfl⟩⟩
        · refine px_go hX ?_
          refine ⟨fun (c6 : 0 = 0) => ?_, fun (c6 : ¬ 0 = 0) => absurd rfl c6⟩
          iterate 2 refine px_go hX ?_
          exact px_lw hw [(0, .ref (ad 0)), (1, .int (nI j)), (3, .int (nI (i + 1)))] (ih (i + 1) (by omega) (pn_alls hyp b4)) ⟨rfl, rfl, (congrArg (fun z => some (Value.int z)) (nI_succ _).symm), trivial⟩
    exact px_lw hw [(0, .ref (ad 0)), (1, .int (nI j)), (3, .int (nI 0))] (loop (cs_n σ - 0) 0 (by omega) (fun q hq => absurd hq (Nat.not_lt_zero q))) ⟨rfl, rfl, rfl, trivial⟩
  · iterate 2 refine px_go hX ?_
    exact ⟨Or.inr rfl, rfl, Or.inl ⟨Or.inl c1, rfl⟩⟩
theorem cc_liesAboveLeaving (hR : Rp ad K C) (hc : Cl ad σ K) {j : Nat} (hj : j < cs_n σ) : px_W ps_Y ps_P B sc (d + 2) 26 [.ref (ad 0), .ref (ad (40 + j))] C 0 0 (px_bo (cs_abv σ j) C) px_no := by
  have h0 := hR.1 0 _ hc.1.1
  have hn := hc.2.2.2.2.2.2.2.2.2
  refine ⟨pm_Mo_liesAboveLeaving, rfl, Nat.le_of_ble_eq_true rfl, fun X hw hX => ?_⟩
  iterate 2 refine px_go hX ?_
  refine ⟨_, (hR.1 _ _ (hc.2.2.2.1 j hj)), 0, 0, _, Nat.le_of_ble_eq_true rfl, Nat.le_of_ble_eq_true rfl, Nat.le_of_ble_eq_true rfl, cc_liesInStack hR hc hj, ?_⟩
  rintro _ C ⟨rfl, ⟨b1, rfl⟩ | ⟨b1, rfl⟩⟩
  · refine px_go hX ?_
    refine ⟨fun (c2 : ¬ 1 = 0) => ?_, fun (c2 : 1 = 0) => absurd c2 (by decide)⟩
    iterate 2 refine px_go hX ?_
    have loop : ∀ k i, i + k = cs_n σ → (∀ q, q < i → ¬ (cs_bf σ q 0 = 0 ∧ (cs_bf σ q 1 = cs_bf σ j 1 ∧ cs_bf σ q 2 = cs_bf σ j 2 ∧ ¬ cs_bf σ j 3 ≤ cs_bf σ q 3))) → X (11, [(0, .ref (ad 0)), (1, .ref (ad (40 + j))), (2, .int (nI i))], [], C, 0, 0) := by
      intro k
      induction k with
      | zero =>
        intro i hi hyp
        have hlt : i = cs_n σ := hi
        have h4 := b1
        iterate 3 refine px_go hX ?_
        refine ⟨_, _, h0, rfl, ?_⟩
        refine px_go hX ?_
        refine ⟨fun (c3 : nI (cs_n σ) ≤ nI i) => ?_, fun (c3 : ¬ nI (cs_n σ) ≤ nI i) => absurd (nI_le (by omega) (by omega)) c3⟩
        iterate 2 refine px_go hX ?_
        exact ⟨Or.inl rfl, rfl, Or.inr ⟨fun ⟨_, q, hq, hq2⟩ => hyp q (by omega) hq2, rfl⟩⟩
      | succ k ih =>
        intro i hi hyp
        have hlt : i < cs_n σ := by omega
        have h4 := b1
        iterate 3 refine px_go hX ?_
        refine ⟨_, _, h0, rfl, ?_⟩
        refine px_go hX ?_
        refine ⟨fun (c4 : nI (cs_n σ) ≤ nI i) => absurd c4 (nI_ge hlt (by omega)), fun (c4 : ¬ nI (cs_n σ) ≤ nI i) => ?_⟩
        iterate 3 refine px_go hX ?_
        refine ⟨_, h0, 0, 0, _, Nat.le_of_ble_eq_true rfl, Nat.le_of_ble_eq_true rfl, Nat.le_of_ble_eq_true rfl, cc_boxAtI hR hc hlt, ?_⟩
        rintro _ C ⟨rfl, rfl⟩
        iterate 5 refine px_go hX ?_
        refine ⟨_, _, (hR.1 _ _ (hc.2.2.2.1 i hlt)), rfl, ?_⟩
        refine px_go hX ?_
        refine ⟨fun (c5 : ¬ cs_bf σ i 0 = 0) => ?_, fun (c5 : cs_bf σ i 0 = 0) => ?_⟩
        · iterate 2 refine px_go hX ?_
          exact px_lw hw [(0, .ref (ad 0)), (1, .ref (ad (40 + j))), (2, .int (nI (i + 1)))] (ih (i + 1) (by omega) (pn_alls hyp (fun z => c5 z.1))) ⟨rfl, rfl, (congrArg (fun z => some (Value.int z)) (nI_succ _).symm), trivial⟩
        · iterate 3 refine px_go hX ?_
          refine ⟨_, (hR.1 _ _ (hc.2.2.2.1 i hlt)), 0, 0, _, Nat.le_of_ble_eq_true rfl, Nat.le_of_ble_eq_true rfl, Nat.le_of_ble_eq_true rfl, cc_liesBelow hR hc hlt hj, ?_⟩
          rintro _ C ⟨rfl, ⟨b6, rfl⟩ | ⟨b6, rfl⟩⟩
          · refine px_go hX ?_
            refine ⟨fun (c7 : 1 = 0) => absurd c7 (by decide), fun (c7 : ¬ 1 = 0) => ?_⟩
            iterate 2 refine px_go hX ?_
            exact ⟨Or.inr rfl, rfl, Or.inl ⟨⟨h4, i, hlt, c5, b6⟩, rfl⟩⟩
          · refine px_go hX ?_
            refine ⟨fun (c8 : 0 = 0) => ?_, fun (c8 : ¬ 0 = 0) => absurd rfl c8⟩
            iterate 2 refine px_go hX ?_
            exact px_lw hw [(0, .ref (ad 0)), (1, .ref (ad (40 + j))), (2, .int (nI (i + 1)))] (ih (i + 1) (by omega) (pn_alls hyp (fun z => b6 z.2))) ⟨rfl, rfl, (congrArg (fun z => some (Value.int z)) (nI_succ _).symm), trivial⟩
    exact px_lw hw [(0, .ref (ad 0)), (1, .ref (ad (40 + j))), (2, .int (nI 0))] (loop (cs_n σ - 0) 0 (by omega) (fun q hq => absurd hq (Nat.not_lt_zero q))) ⟨rfl, rfl, rfl, trivial⟩
  · refine px_go hX ?_
    refine ⟨fun (c9 : ¬ 0 = 0) => absurd rfl c9, fun (c9 : 0 = 0) => ?_⟩
    iterate 2 refine px_go hX ?_
    exact ⟨Or.inl rfl, rfl, Or.inr ⟨fun q => b1 q.1, rfl⟩⟩
def of_least (σ : ck_S) (x : Int32) : cs_R := match cs_bq σ x with
  | none => (1, 0, σ)
  | some _ => (0, nI (pn_ct (fun j => decide ((cs_bf σ j 1 = x ∧ ¬ cs_bf σ j 2 = 3) ∧ (cs_bf σ j 0 = 0 ∨ cs_abv σ j))) (cs_n σ)), σ)
theorem cc_least (hR : Rp ad K C) (hc : Cl ad σ K) (x : Int32) : px_W ps_Y ps_P B sc (d + 3) 27 [.ref (ad 0), .int x] C 1 6 (px_oC ad K (of_least σ x)) (px_oT ad K (of_least σ x)) := by
  have h0 := hR.1 0 _ hc.1.1
  have hn := hc.2.2.2.2.2.2.2.2.2
  generalize hr : of_least σ x = r
  have hr1 : ∀ b, b < cs_nb σ → x = nI b → r = (0, nI (pn_ct (fun j => decide ((cs_bf σ j 1 = x ∧ ¬ cs_bf σ j 2 = 3) ∧ (cs_bf σ j 0 = 0 ∨ cs_abv σ j))) (cs_n σ)), σ) := fun b hb hx => by rw [← hr]; unfold of_least; rw [hx, cs_bq_s hc hb]
  generalize hp : (fun j => decide ((cs_bf σ j 1 = x ∧ ¬ cs_bf σ j 2 = 3) ∧ (cs_bf σ j 0 = 0 ∨ cs_abv σ j))) = p at hr1
  refine ⟨pm_Mo_least, rfl, Nat.le_of_ble_eq_true rfl, fun X hw hX => ?_⟩
  iterate 3 refine px_go hX ?_
  refine ⟨_, h0, 0, 0, _, Nat.le_of_ble_eq_true rfl, Nat.le_of_ble_eq_true rfl, Nat.le_of_ble_eq_true rfl, cc_bayAt hR hc _, ?_⟩
  rintro _ C ⟨rfl, ⟨b, hb, hx, rfl⟩ | ⟨hx, rfl⟩⟩
  · iterate 5 refine px_go hX ?_
    have loop : ∀ k i, i + k = cs_n σ → X (22, [(0, .ref (ad 0)), (1, .int (x)), (2, .int (nI (pn_ct p i))), (3, .int (nI i))], [], C, 0, 0) := by
      intro k
      induction k with
      | zero =>
        intro i hi
        have hlt : i = cs_n σ := hi
        iterate 3 refine px_go hX ?_
        refine ⟨_, _, h0, rfl, ?_⟩
        refine px_go hX ?_
        refine ⟨fun (c1 : nI (cs_n σ) ≤ nI i) => ?_, fun (c1 : ¬ nI (cs_n σ) ≤ nI i) => absurd (nI_le (by omega) (by omega)) c1⟩
        iterate 2 refine px_go hX ?_
        rw [hlt, hr1 b hb hx]
        exact ⟨rfl, rfl, Ca.of hR hc⟩
      | succ k ih =>
        intro i hi
        have hlt : i < cs_n σ := by omega
        iterate 3 refine px_go hX ?_
        refine ⟨_, _, h0, rfl, ?_⟩
        refine px_go hX ?_
        refine ⟨fun (c2 : nI (cs_n σ) ≤ nI i) => absurd c2 (nI_ge hlt (by omega)), fun (c2 : ¬ nI (cs_n σ) ≤ nI i) => ?_⟩
        iterate 3 refine px_go hX ?_
        refine ⟨_, h0, 0, 0, _, Nat.le_of_ble_eq_true rfl, Nat.le_of_ble_eq_true rfl, Nat.le_of_ble_eq_true rfl, cc_boxAtI hR hc hlt, ?_⟩
        rintro _ C ⟨rfl, rfl⟩
        iterate 6 refine px_go hX ?_
        refine ⟨_, (hR.1 _ _ (hc.2.2.2.1 i hlt)), 0, 0, _, Nat.le_of_ble_eq_true rfl, Nat.le_of_ble_eq_true rfl, Nat.le_of_ble_eq_true rfl, cc_isIn hR hc hlt _, ?_⟩
        rintro _ C ⟨rfl, ⟨b3, rfl⟩ | ⟨b3, rfl⟩⟩
        · refine px_go hX ?_
          refine ⟨fun (c4 : 1 = 0) => absurd c4 (by decide), fun (c4 : ¬ 1 = 0) => ?_⟩
          iterate 2 refine px_go hX ?_
          refine ⟨_, _, (hR.1 _ _ (hc.2.2.2.1 i hlt)), rfl, ?_⟩
          refine px_go hX ?_
          refine ⟨fun (c5 : cs_bf σ i 0 = 0) => ?_, fun (c5 : ¬ cs_bf σ i 0 = 0) => ?_⟩
          · iterate 3 refine px_go hX ?_
            exact px_lw hw [(0, .ref (ad 0)), (1, .int (x)), (2, .int (nI (pn_ct p (i + 1)))), (3, .int (nI (i + 1)))] (ih (i + 1) (by omega)) ⟨rfl, rfl, by rw [pn_ct_t (by rw [← hp]; exact decide_eq_true (by simp [c2, b3, c4, c5])), nI_succ]; rfl, (congrArg (fun z => some (Value.int z)) (nI_succ _).symm), trivial⟩
          · iterate 3 refine px_go hX ?_
            refine ⟨_, h0, 0, 0, _, Nat.le_of_ble_eq_true rfl, Nat.le_of_ble_eq_true rfl, Nat.le_of_ble_eq_true rfl, cc_liesAboveLeaving hR hc hlt, ?_⟩
            rintro _ C ⟨rfl, ⟨b6, rfl⟩ | ⟨b6, rfl⟩⟩
            · refine px_go hX ?_
              refine ⟨fun (c7 : 1 = 0) => absurd c7 (by decide), fun (c7 : ¬ 1 = 0) => ?_⟩
              iterate 3 refine px_go hX ?_
              exact px_lw hw [(0, .ref (ad 0)), (1, .int (x)), (2, .int (nI (pn_ct p (i + 1)))), (3, .int (nI (i + 1)))] (ih (i + 1) (by omega)) ⟨rfl, rfl, by rw [pn_ct_t (by rw [← hp]; exact decide_eq_true ⟨b3, Or.inr b6⟩), nI_succ]; rfl, (congrArg (fun z => some (Value.int z)) (nI_succ _).symm), trivial⟩
            · refine px_go hX ?_
              refine ⟨fun (c8 : 0 = 0) => ?_, fun (c8 : ¬ 0 = 0) => absurd rfl c8⟩
              iterate 2 refine px_go hX ?_
              exact px_lw hw [(0, .ref (ad 0)), (1, .int (x)), (2, .int (nI (pn_ct p (i + 1)))), (3, .int (nI (i + 1)))] (ih (i + 1) (by omega)) ⟨rfl, rfl, by rw [pn_ct_f (by rw [← hp]; exact decide_eq_false (by simp [c2, b3, c4, c5, b6, c8]))]; rfl, (congrArg (fun z => some (Value.int z)) (nI_succ _).symm), trivial⟩
        · refine px_go hX ?_
          refine ⟨fun (c9 : 0 = 0) => ?_, fun (c9 : ¬ 0 = 0) => absurd rfl c9⟩
          iterate 2 refine px_go hX ?_
          exact px_lw hw [(0, .ref (ad 0)), (1, .int (x)), (2, .int (nI (pn_ct p (i + 1)))), (3, .int (nI (i + 1)))] (ih (i + 1) (by omega)) ⟨rfl, rfl, by rw [pn_ct_f (by rw [← hp]; exact decide_eq_false (by simp [c2, b3, c9]))]; rfl, (congrArg (fun z => some (Value.int z)) (nI_succ _).symm), trivial⟩
    exact px_lw hw [(0, .ref (ad 0)), (1, .int (x)), (2, .int (nI (pn_ct p 0))), (3, .int (nI 0))] (loop (cs_n σ - 0) 0 (by omega)) ⟨rfl, rfl, rfl, rfl, trivial⟩
  · iterate 2 refine px_go hX ?_
    exact ⟨Nat.le_refl 1, Nat.le_refl 6, rfl, by rw [← hr]; unfold of_least; rw [cs_bq_n hx]; exact ⟨Or.inl ⟨rfl, rfl⟩, Ca.of hR hc⟩⟩
end RF
