/-! The law's calls of the class: what is thrown is caught. -/
/-- thrown: an argument, a state; an index -/
def px_oE (ad : Nat → Nat) (K : rp_K) (r : cs_R) : Nat → px_P → Prop := fun kd C' => (kd = 1 ∧ r.1 = 1 ∨ kd = 2 ∧ r.1 = 2) ∧ Ca ad r.2.2 K C'
def px_oF (ad : Nat → Nat) (K : rp_K) (r : cs_R) : Nat → px_P → Prop := fun kd C' => (kd = 3 ∧ r.1 = 1) ∧ Ca ad r.2.2 K C'
section TA
variable {B : Nat} {sc : Option (Nat × Nat × (Nat → Int32))} {d : Nat} {ad : Nat → Nat} {σ : ck_S} {K : rp_K} {C : px_P}
theorem ce_least (hR : Rp ad K C) (hc : Cl ad σ K) (x : Int32) : px_W ps_Y ps_P B sc (d + 3) 27 [.ref (ad 0), .int x] C 1 6 (px_oC ad K (of_least σ x)) (px_oE ad K (of_least σ x)) := by
  have h0 := hR.1 0 _ hc.1.1
  have hn := hc.2.2.2.2.2.2.2.2.2
  generalize hr : of_least σ x = r
  have hr1 : ∀ b, b < cs_nb σ → x = nI b → r = (0, nI (pn_ct (fun j => decide ((cs_bf σ j 1 = x ∧ ¬ cs_bf σ j 2 = 3) ∧ (cs_bf σ j 0 = 0 ∨ cs_abv σ j))) (cs_n σ)), σ) := fun b hb hx => by rw [← hr]; unfold of_least; rw [hx, cs_bq_s hc hb]
  generalize hp : (fun j => decide ((cs_bf σ j 1 = x ∧ ¬ cs_bf σ j 2 = 3) ∧ (cs_bf σ j 0 = 0 ∨ cs_abv σ j))) = p at hr1
  refine ⟨pm_Mo_least, rfl, Nat.le_of_ble_eq_true rfl, fun X hw hX => ?_⟩
  iterate 3 refine px_go hX ?_
  refine ⟨_, h0, 0, 0, _, Nat.le_of_ble_eq_true rfl, Nat.le_of_ble_eq_true rfl, Nat.le_of_ble_eq_true rfl, cc_bayAt hR hc _, ?_⟩
  rintro _ C ⟨rfl, ⟨b, hb, hx, rfl⟩ | ⟨hx, rfl⟩⟩
  · iterate 5 refine px_go hX ?_
    have loop : ∀ k i, i + k = cs_n σ → X (22, [(0, .ref (ad 0)), (1, .int (x)), (2, .int (nI (pn_ct p i))), (3, .int (nI i))], [], C, 0, 0) := by
      intro k
      induction k with
      | zero =>
        intro i hi
        have hlt : i = cs_n σ := hi
        iterate 3 refine px_go hX ?_
        refine ⟨_, _, h0, rfl, ?_⟩
        refine px_go hX ?_
        refine ⟨fun (c1 : nI (cs_n σ) ≤ nI i) => ?_, fun (c1 : ¬ nI (cs_n σ) ≤ nI i) => absurd (nI_le (by omega) (by omega)) c1⟩
        iterate 2 refine px_go hX ?_
        rw [hlt, hr1 b hb hx]
        exact ⟨rfl, rfl, Ca.of hR hc⟩
      | succ k ih =>
        intro i hi
        have hlt : i < cs_n σ := by omega
        iterate 3 refine px_go hX ?_
        refine ⟨_, _, h0, rfl, ?_⟩
        refine px_go hX ?_
        refine ⟨fun (c2 : nI (cs_n σ) ≤ nI i) => absurd c2 (nI_ge hlt (by omega)), fun (c2 : ¬ nI (cs_n σ) ≤ nI i) => ?_⟩
        iterate 3 refine px_go hX ?_
        refine ⟨_, h0, 0, 0, _, Nat.le_of_ble_eq_true rfl, Nat.le_of_ble_eq_true rfl, Nat.le_of_ble_eq_true rfl, cc_boxAtI hR hc hlt, ?_⟩
        rintro _ C ⟨rfl, rfl⟩
        iterate 6 refine px_go hX ?_
        refine ⟨_, (hR.1 _ _ (hc.2.2.2.1 i hlt)), 0, 0, _, Nat.le_of_ble_eq_true rfl, Nat.le_of_ble_eq_true rfl, Nat.le_of_ble_eq_true rfl, cc_isIn hR hc hlt _, ?_⟩
        rintro _ C ⟨rfl, ⟨b3, rfl⟩ | ⟨b3, rfl⟩⟩
        · refine px_go hX ?_
          refine ⟨fun (c4 : 1 = 0) => absurd c4 (by decide), fun (c4 : ¬ 1 = 0) => ?_⟩
          iterate 2 refine px_go hX ?_
          refine ⟨_, _, (hR.1 _ _ (hc.2.2.2.1 i hlt)), rfl, ?_⟩
          refine px_go hX ?_
          refine ⟨fun (c5 : cs_bf σ i 0 = 0) => ?_, fun (c5 : ¬ cs_bf σ i 0 = 0) => ?_⟩
          · iterate 3 refine px_go hX ?_
            exact px_lw hw [(0, .ref (ad 0)), (1, .int (x)), (2, .int (nI (pn_ct p (i + 1)))), (3, .int (nI (i + 1)))] (ih (i + 1) (by omega)) ⟨rfl, rfl, by rw [pn_ct_t (by rw [← hp]; exact decide_eq_true (by simp [c2, b3, c4, c5])), nI_succ]; rfl, (congrArg (fun z => some (Value.int z)) (nI_succ _).symm), trivial⟩
          · iterate 3 refine px_go hX ?_
            refine ⟨_, h0, 0, 0, _, Nat.le_of_ble_eq_true rfl, Nat.le_of_ble_eq_true rfl, Nat.le_of_ble_eq_true rfl, cc_liesAboveLeaving hR hc hlt, ?_⟩
            rintro _ C ⟨rfl, ⟨b6, rfl⟩ | ⟨b6, rfl⟩⟩
            · refine px_go hX ?_
              refine ⟨fun (c7 : 1 = 0) => absurd c7 (by decide), fun (c7 : ¬ 1 = 0) => ?_⟩
              iterate 3 refine px_go hX ?_
              exact px_lw hw [(0, .ref (ad 0)), (1, .int (x)), (2, .int (nI (pn_ct p (i + 1)))), (3, .int (nI (i + 1)))] (ih (i + 1) (by omega)) ⟨rfl, rfl, by rw [pn_ct_t (by rw [← hp]; exact decide_eq_true ⟨b3, Or.inr b6⟩), nI_succ]; rfl, (congrArg (fun z => some (Value.int z)) (nI_succ _).symm), trivial⟩
            · refine px_go hX ?_
              refine ⟨fun (c8 : 0 = 0) => ?_, fun (c8 : ¬ 0 = 0) => absurd rfl c8⟩
              iterate 2 refine px_go hX ?_
              exact px_lw hw [(0, .ref (ad 0)), (1, .int (x)), (2, .int (nI (pn_ct p (i + 1)))), (3, .int (nI (i + 1)))] (ih (i + 1) (by omega)) ⟨rfl, rfl, by rw [pn_ct_f (by rw [← hp]; exact decide_eq_false (by simp [c2, b3, c4, c5, b6, c8]))]; rfl, (congrArg (fun z => some (Value.int z)) (nI_succ _).symm), trivial⟩
        · refine px_go hX ?_
          refine ⟨fun (c9 : 0 = 0) => ?_, fun (c9 : ¬ 0 = 0) => absurd rfl c9⟩
          iterate 2 refine px_go hX ?_
          exact px_lw hw [(0, .ref (ad 0)), (1, .int (x)), (2, .int (nI (pn_ct p (i + 1)))), (3, .int (nI (i + 1)))] (ih (i + 1) (by omega)) ⟨rfl, rfl, by rw [pn_ct_f (by rw [← hp]; exact decide_eq_false (by simp [c2, b3, c9]))]; rfl, (congrArg (fun z => some (Value.int z)) (nI_succ _).symm), trivial⟩
    exact px_lw hw [(0, .ref (ad 0)), (1, .int (x)), (2, .int (nI (pn_ct p 0))), (3, .int (nI 0))] (loop (cs_n σ - 0) 0 (by omega)) ⟨rfl, rfl, rfl, rfl, trivial⟩
  · iterate 2 refine px_go hX ?_
    exact ⟨Nat.le_refl 1, Nat.le_refl 6, rfl, by rw [← hr]; unfold of_least; rw [cs_bq_n hx]; exact ⟨Or.inl ⟨rfl, rfl⟩, Ca.of hR hc⟩⟩
theorem ce_dual (hR : Rp ad K C) (hc : Cl ad σ K) (hpl : cs_pl σ) (x : Int32) : px_W ps_Y ps_P B sc (d + 3) 22 [.ref (ad 0), .int x] C 1 6 (px_oC ad K (of_dual σ x)) (px_oE ad K (of_dual σ x)) := by
  have h0 := hR.1 0 _ hc.1.1
  have hn := hc.2.2.2.2.2.2.2.2.2
  refine ⟨pm_Mo_dual, rfl, Nat.le_of_ble_eq_true rfl, fun X hw hX => ?_⟩
  iterate 3 refine px_go hX ?_
  refine ⟨_, h0, 0, 0, _, Nat.le_of_ble_eq_true rfl, Nat.le_of_ble_eq_true rfl, Nat.le_of_ble_eq_true rfl, cc_bayAt hR hc _, ?_⟩
  rintro _ C ⟨rfl, ⟨b, hb, hx, rfl⟩ | ⟨hx, rfl⟩⟩
  · obtain ⟨m, w, hm, hw0, hwm, hmm, -⟩ := hpl b hb
    iterate 5 refine px_go hX ?_
    refine ⟨_, _, (hR.1 _ _ (hc.2.2.1 b hb).1), rfl, ?_⟩
    refine px_go hX ?_
    refine ⟨fun (c1 : cs_yf σ b 0 = 0) => ?_, fun (c1 : ¬ cs_yf σ b 0 = 0) => ?_⟩
    · iterate 2 refine px_go hX ?_
      have hr : of_dual σ x = (0, -1, σ) := by
        unfold of_dual
        rw [hx, cs_bq_s hc hb]
        exact congrArg (fun z => ((0, z, σ) : cs_R)) (if_pos c1)
      rw [hr]
      exact ⟨rfl, rfl, Ca.of hR hc⟩
    · iterate 2 refine px_go hX ?_
      refine ⟨_, _, (hR.1 _ _ (hc.2.2.1 b hb).1), rfl, ?_⟩
      iterate 2 refine px_go hX ?_
      refine ⟨_, (hR.1 _ _ (hc.2.2.1 b hb).1), 0, 0, _, Nat.le_of_ble_eq_true rfl, Nat.le_of_ble_eq_true rfl, Nat.le_of_ble_eq_true rfl, cc_movesOutLeft hR hc hb c1 hm hw0 hwm hmm, ?_⟩
      rintro _ C ⟨rfl, rfl⟩
      refine px_go hX ?_
      refine ⟨Nat.le_of_ble_eq_true rfl, ?_⟩
      iterate 2 refine px_go hX ?_
      have e1 : (cs_yf σ b 2).toNatClampNeg = w := by rw [hw0, nI_clamp (by omega)]
      have e2 : (cs_yf σ b 1).toNatClampNeg = m := by rw [hm, nI_clamp (by omega)]
      have hr : of_dual σ x = (0, (if nI (pn_ct (fun i => decide (cs_ya σ b 2 (w + i) = 3)) (m - w)) < cs_yf σ b 3 then nI (pn_ct (fun i => decide (cs_ya σ b 2 (w + i) = 3)) (m - w)) else cs_yf σ b 3), σ) := by
        unfold of_dual
        rw [hx, cs_bq_s hc hb]
        exact by rw [← e1, ← e2]; exact congrArg (fun z => ((0, z, σ) : cs_R)) (if_neg c1)
      rw [hr]
      exact ⟨rfl, rfl, Ca.of hR hc⟩
  · iterate 4 refine px_go hX ?_
    have hr : of_dual σ x = (1, 0, σ) := by
      unfold of_dual
      rw [cs_bq_n hx]
    refine ⟨Nat.le_refl 1, Nat.le_refl 6, rfl, ?_⟩
    rw [hr]
    exact ⟨Or.inl ⟨rfl, rfl⟩, Ca.of hR hc⟩
theorem ce_loads (hR : Rp ad K C) (hc : Cl ad σ K) (x y : Int32) : px_W ps_Y ps_P B sc (d + 2) 28 [.ref (ad 0), .int x, .int y] C 1 6 (px_oC ad K (of_loads σ x y)) (px_oE ad K (of_loads σ x y)) := by
  have h0 := hR.1 0 _ hc.1.1
  have hn := hc.2.2.2.2.2.2.2.2.2
  have hnb := hc.2.2.2.2.2.2.1
  refine ⟨pm_Mo_loads, rfl, Nat.le_of_ble_eq_true rfl, fun X hw hX => ?_⟩
  iterate 3 refine px_go hX ?_
  refine ⟨_, h0, 0, 0, _, Nat.le_of_ble_eq_true rfl, Nat.le_of_ble_eq_true rfl, Nat.le_of_ble_eq_true rfl, cc_bayAt hR hc _, ?_⟩
  rintro _ C ⟨rfl, ⟨b, hb, hx, rfl⟩ | ⟨hx, rfl⟩⟩
  · iterate 6 refine px_go hX ?_
    refine ⟨fun (c1 : y < (1 : Int32)) => ?_, fun (c1 : ¬ y < (1 : Int32)) => ?_⟩
    · refine px_go hX ?_
      have hr : of_loads σ x y = (1, 0, σ) := by
        unfold of_loads
        rw [hx, cs_bq_s hc hb]
        exact if_pos (Or.inl c1)
      refine ⟨Nat.le_refl 1, Nat.le_refl 6, rfl, ?_⟩
      rw [hr]
      exact ⟨Or.inl ⟨rfl, rfl⟩, Ca.of hR hc⟩
    · iterate 3 refine px_go hX ?_
      refine ⟨fun (c2 : y ≤ (100 : Int32)) => ?_, fun (c2 : ¬ y ≤ (100 : Int32)) => ?_⟩
      · iterate 2 refine px_go hX ?_
        refine ⟨_, _, (hR.1 _ _ (hc.2.2.1 b hb).1), rfl, ?_⟩
        iterate 4 refine px_go hX ?_
        refine ⟨fun (c3 : (cs_yf σ b 3) + (y) ≤ (100 : Int32)) => ?_, fun (c3 : ¬ (cs_yf σ b 3) + (y) ≤ (100 : Int32)) => ?_⟩
        · iterate 3 refine px_go hX ?_
          refine ⟨_, _, (hR.1 _ _ (hc.2.2.1 b hb).1), rfl, ?_⟩
          iterate 3 refine px_go hX ?_
          refine ⟨_, (hR.1 _ _ (hc.2.2.1 b hb).1), Nat.le_of_ble_eq_true rfl, rfl, rfl, ?_⟩
          iterate 2 refine px_go hX ?_
          refine ⟨_, _, (px_up_s _ _ _), rfl, ?_⟩
          refine px_go hX ?_
          have hr : of_loads σ x y = (0, cs_yf σ b 3 + y, cs_sY σ b (fun k => match k with | 3 => cs_yf σ b 3 + y | k => cs_yf σ b k)) := by
            unfold of_loads
            rw [hx, cs_bq_s hc hb]
            exact (if_neg (fun q => q.elim c1 (fun q => q c2))).trans (if_pos c3)
          rw [hr]
          exact ⟨rfl, rfl, Ck.ca ⟨_, hR.put (hc.2.2.1 b hb).1 _, hc.sY hb _, fun i hi => rp_up_n _ _ (by omega)⟩⟩
        · refine px_go hX ?_
          have hr : of_loads σ x y = (2, 0, σ) := by
            unfold of_loads
            rw [hx, cs_bq_s hc hb]
            exact (if_neg (fun q => q.elim c1 (fun q => q c2))).trans (if_neg c3)
          refine ⟨Nat.le_refl 1, Nat.le_refl 6, rfl, ?_⟩
          rw [hr]
          exact ⟨Or.inr ⟨rfl, rfl⟩, Ca.of hR hc⟩
      · refine px_go hX ?_
        have hr : of_loads σ x y = (1, 0, σ) := by
          unfold of_loads
          rw [hx, cs_bq_s hc hb]
          exact if_pos (Or.inr c2)
        refine ⟨Nat.le_refl 1, Nat.le_refl 6, rfl, ?_⟩
        rw [hr]
        exact ⟨Or.inl ⟨rfl, rfl⟩, Ca.of hR hc⟩
  · iterate 4 refine px_go hX ?_
    have hr : of_loads σ x y = (1, 0, σ) := by
      unfold of_loads
      rw [cs_bq_n hx]
    refine ⟨Nat.le_refl 1, Nat.le_refl 6, rfl, ?_⟩
    rw [hr]
    exact ⟨Or.inl ⟨rfl, rfl⟩, Ca.of hR hc⟩
theorem ce_look (hR : Rp ad K C) (hc : Cl ad σ K) (x y : Int32) : px_W ps_Y ps_P B sc (d + 2) 29 [.ref (ad 0), .int x, .int y] C 1 6 (px_oC ad K (of_look σ x y)) (px_oF ad K (of_look σ x y)) := by
  have h0 := hR.1 0 _ hc.1.1
  have hn := hc.2.2.2.2.2.2.2.2.2
  refine ⟨pm_Mo_look, rfl, Nat.le_of_ble_eq_true rfl, fun X hw hX => ?_⟩
  iterate 3 refine px_go hX ?_
  refine ⟨_, h0, 0, 0, _, Nat.le_of_ble_eq_true rfl, Nat.le_of_ble_eq_true rfl, Nat.le_of_ble_eq_true rfl, cc_boxAt hR hc _, ?_⟩
  rintro _ C ⟨rfl, ⟨j, hj, hx, rfl⟩ | ⟨hx, rfl⟩⟩
  · iterate 5 refine px_go hX ?_
    refine ⟨fun (c1 : y < 0) => ?_, fun (c1 : ¬ y < 0) => ?_⟩
    · refine px_go hX ?_
      have hr : of_look σ x y = (1, 0, σ) := by
        unfold of_look
        rw [hx, cs_xq_s hc hj]
        exact if_pos (Or.inl c1)
      refine ⟨Nat.le_refl 1, Nat.le_refl 6, rfl, ?_⟩
      rw [hr]
      exact ⟨⟨rfl, rfl⟩, Ca.of hR hc⟩
    · iterate 3 refine px_go hX ?_
      refine ⟨fun (c2 : y ≤ (3 : Int32)) => ?_, fun (c2 : ¬ y ≤ (3 : Int32)) => ?_⟩
      · iterate 2 refine px_go hX ?_
        refine ⟨fun c3 => ?_, fun c3 => ⟨fun c4 => ?_, fun c4 => ⟨fun c5 => ?_, fun c5 => ?_⟩⟩⟩
        · have c3 : y = (0 : Int32) := c3
          iterate 2 refine px_go hX ?_
          refine ⟨_, _, (hR.1 _ _ (hc.2.2.2.1 j hj)), rfl, ?_⟩
          refine px_go hX ?_
          have hr : of_look σ x y = (0, cs_bf σ j 0, σ) := by
            unfold of_look
            rw [hx, cs_xq_s hc hj]
            exact (if_neg (fun q => q.elim c1 (fun q => q c2))).trans (congrArg (fun z => ((0, z, σ) : cs_R)) (if_pos c3))
          rw [hr]
          exact ⟨rfl, rfl, Ca.of hR hc⟩
        · have c3 : ¬ y = (0 : Int32) := c3
          have c4 : y = (1 : Int32) := c4
          iterate 2 refine px_go hX ?_
          refine ⟨_, _, (hR.1 _ _ (hc.2.2.2.1 j hj)), rfl, ?_⟩
          refine px_go hX ?_
          have hr : of_look σ x y = (0, cs_bf σ j 1, σ) := by
            unfold of_look
            rw [hx, cs_xq_s hc hj]
            exact (if_neg (fun q => q.elim c1 (fun q => q c2))).trans (congrArg (fun z => ((0, z, σ) : cs_R)) ((if_neg c3).trans (if_pos c4)))
          rw [hr]
          exact ⟨rfl, rfl, Ca.of hR hc⟩
        · have c3 : ¬ y = (0 : Int32) := c3
          have c4 : ¬ y = (1 : Int32) := c4
          have c5 : y = (2 : Int32) := c5
          iterate 2 refine px_go hX ?_
          refine ⟨_, _, (hR.1 _ _ (hc.2.2.2.1 j hj)), rfl, ?_⟩
          refine px_go hX ?_
          have hr : of_look σ x y = (0, cs_bf σ j 2, σ) := by
            unfold of_look
            rw [hx, cs_xq_s hc hj]
            exact (if_neg (fun q => q.elim c1 (fun q => q c2))).trans (congrArg (fun z => ((0, z, σ) : cs_R)) (((if_neg c3).trans (if_neg c4)).trans (if_pos c5)))
          rw [hr]
          exact ⟨rfl, rfl, Ca.of hR hc⟩
        · have c3 : ¬ y = (0 : Int32) := c3
          have c4 : ¬ y = (1 : Int32) := c4
          have c5 : ¬ y = (2 : Int32) := c5
          iterate 2 refine px_go hX ?_
          refine ⟨_, _, (hR.1 _ _ (hc.2.2.2.1 j hj)), rfl, ?_⟩
          refine px_go hX ?_
          have hr : of_look σ x y = (0, cs_bf σ j 3, σ) := by
            unfold of_look
            rw [hx, cs_xq_s hc hj]
            exact (if_neg (fun q => q.elim c1 (fun q => q c2))).trans (congrArg (fun z => ((0, z, σ) : cs_R)) (((if_neg c3).trans (if_neg c4)).trans (if_neg c5)))
          rw [hr]
          exact ⟨rfl, rfl, Ca.of hR hc⟩
      · refine px_go hX ?_
        have hr : of_look σ x y = (1, 0, σ) := by
          unfold of_look
          rw [hx, cs_xq_s hc hj]
          exact if_pos (Or.inr c2)
        refine ⟨Nat.le_refl 1, Nat.le_refl 6, rfl, ?_⟩
        rw [hr]
        exact ⟨⟨rfl, rfl⟩, Ca.of hR hc⟩
  · iterate 4 refine px_go hX ?_
    have hr : of_look σ x y = (1, 0, σ) := by
      unfold of_look
      rw [cs_xq_n hx]
    refine ⟨Nat.le_refl 1, Nat.le_refl 6, rfl, ?_⟩
    rw [hr]
    exact ⟨⟨rfl, rfl⟩, Ca.of hR hc⟩
theorem ce_move (hR : Rp ad K C) (hc : Cl ad σ K) (x y z : Int32) : px_W ps_Y ps_P B sc (d + 2) 30 [.ref (ad 0), .int x, .int y, .int z] C 1 6 (px_oC ad K (of_move σ x y z)) (px_oF ad K (of_move σ x y z)) := by
  have h0 := hR.1 0 _ hc.1.1
  have hn := hc.2.2.2.2.2.2.2.2.2
  refine ⟨pm_Mo_move, rfl, Nat.le_of_ble_eq_true rfl, fun X hw hX => ?_⟩
  iterate 3 refine px_go hX ?_
  refine ⟨_, h0, 0, 0, _, Nat.le_of_ble_eq_true rfl, Nat.le_of_ble_eq_true rfl, Nat.le_of_ble_eq_true rfl, cc_bayAt hR hc _, ?_⟩
  rintro _ C ⟨rfl, ⟨b, hb, hx, rfl⟩ | ⟨hx, rfl⟩⟩
  · iterate 6 refine px_go hX ?_
    refine ⟨_, (hR.1 _ _ (hc.2.2.1 b hb).1), 0, 0, _, Nat.le_of_ble_eq_true rfl, Nat.le_of_ble_eq_true rfl, Nat.le_of_ble_eq_true rfl, cc_hasMove hR hc hb _, ?_⟩
    rintro _ C ⟨rfl, ⟨b1, rfl⟩ | ⟨b1, rfl⟩⟩
    · refine px_go hX ?_
      refine ⟨fun (c2 : 1 = 0) => absurd c2 (by decide), fun (c2 : ¬ 1 = 0) => ?_⟩
      iterate 2 refine px_go hX ?_
      refine ⟨fun (c3 : z < 0) => ?_, fun (c3 : ¬ z < 0) => ?_⟩
      · refine px_go hX ?_
        have hr : of_move σ x y z = (1, 0, σ) := by
          unfold of_move
          rw [hx, cs_bq_s hc hb]
          exact if_pos (Or.inr (Or.inl c3))
        refine ⟨Nat.le_refl 1, Nat.le_refl 6, rfl, ?_⟩
        rw [hr]
        exact ⟨⟨rfl, rfl⟩, Ca.of hR hc⟩
      · iterate 3 refine px_go hX ?_
        refine ⟨fun (c4 : z ≤ (3 : Int32)) => ?_, fun (c4 : ¬ z ≤ (3 : Int32)) => ?_⟩
        · iterate 2 refine px_go hX ?_
          refine ⟨fun c5 => ?_, fun c5 => ⟨fun c6 => ?_, fun c6 => ⟨fun c7 => ?_, fun c7 => ?_⟩⟩⟩
          · have c5 : z = (0 : Int32) := c5
            iterate 2 refine px_go hX ?_
            refine ⟨_, _, (hR.1 _ _ (hc.2.2.1 b hb).1), rfl, ?_⟩
            iterate 2 refine px_go hX ?_
            refine ⟨_, _, (hR.1 _ _ (hc.2.2.1 b hb).2.1), (by rcases px_ixx y 12 (by omega) with ⟨i, hi, rfl⟩ | h | h; exact vp_in_nI hi (by omega); exact absurd h b1.2.1; exact absurd h b1.2.2.2), ?_⟩
            refine px_go hX ?_
            have hr : of_move σ x y z = (0, cs_ya σ b 0 y.toNatClampNeg, σ) := by
              unfold of_move
              rw [hx, cs_bq_s hc hb]
              exact (if_neg (fun q => q.elim (fun q => q b1) (fun q => q.elim c3 (fun q => q c4)))).trans (congrArg (fun z => ((0, z, σ) : cs_R)) (if_pos c5))
            rw [hr]
            exact ⟨rfl, rfl, Ca.of hR hc⟩
          · have c5 : ¬ z = (0 : Int32) := c5
            have c6 : z = (1 : Int32) := c6
            iterate 2 refine px_go hX ?_
            refine ⟨_, _, (hR.1 _ _ (hc.2.2.1 b hb).1), rfl, ?_⟩
            iterate 2 refine px_go hX ?_
            refine ⟨_, _, (hR.1 _ _ (hc.2.2.1 b hb).2.2.1), (by rcases px_ixx y 12 (by omega) with ⟨i, hi, rfl⟩ | h | h; exact vp_in_nI hi (by omega); exact absurd h b1.2.1; exact absurd h b1.2.2.2), ?_⟩
            refine px_go hX ?_
            have hr : of_move σ x y z = (0, cs_ya σ b 1 y.toNatClampNeg, σ) := by
              unfold of_move
              rw [hx, cs_bq_s hc hb]
              exact (if_neg (fun q => q.elim (fun q => q b1) (fun q => q.elim c3 (fun q => q c4)))).trans (congrArg (fun z => ((0, z, σ) : cs_R)) ((if_neg c5).trans (if_pos c6)))
            rw [hr]
            exact ⟨rfl, rfl, Ca.of hR hc⟩
          · have c5 : ¬ z = (0 : Int32) := c5
            have c6 : ¬ z = (1 : Int32) := c6
            have c7 : z = (2 : Int32) := c7
            iterate 2 refine px_go hX ?_
            refine ⟨_, _, (hR.1 _ _ (hc.2.2.1 b hb).1), rfl, ?_⟩
            iterate 2 refine px_go hX ?_
            refine ⟨_, _, (hR.1 _ _ (hc.2.2.1 b hb).2.2.2), (by rcases px_ixx y 12 (by omega) with ⟨i, hi, rfl⟩ | h | h; exact vp_in_nI hi (by omega); exact absurd h b1.2.1; exact absurd h b1.2.2.2), ?_⟩
            refine px_go hX ?_
            have hr : of_move σ x y z = (0, cs_ya σ b 2 y.toNatClampNeg, σ) := by
              unfold of_move
              rw [hx, cs_bq_s hc hb]
              exact (if_neg (fun q => q.elim (fun q => q b1) (fun q => q.elim c3 (fun q => q c4)))).trans (congrArg (fun z => ((0, z, σ) : cs_R)) (((if_neg c5).trans (if_neg c6)).trans (if_pos c7)))
            rw [hr]
            exact ⟨rfl, rfl, Ca.of hR hc⟩
          · have c5 : ¬ z = (0 : Int32) := c5
            have c6 : ¬ z = (1 : Int32) := c6
            have c7 : ¬ z = (2 : Int32) := c7
            iterate 3 refine px_go hX ?_
            refine ⟨_, _, (hR.1 _ _ (hc.2.2.1 b hb).1), rfl, ?_⟩
            refine px_go hX ?_
            refine ⟨fun (c8 : cs_yf σ b 2 ≤ y) => ?_, fun (c8 : ¬ cs_yf σ b 2 ≤ y) => ?_⟩
            · iterate 2 refine px_go hX ?_
              have hr : of_move σ x y z = (0, (0 : Int32), σ) := by
                unfold of_move
                rw [hx, cs_bq_s hc hb]
                exact (if_neg (fun q => q.elim (fun q => q b1) (fun q => q.elim c3 (fun q => q c4)))).trans (congrArg (fun z => ((0, z, σ) : cs_R)) ((((if_neg c5).trans (if_neg c6)).trans (if_neg c7)).trans (if_pos c8)))
              rw [hr]
              exact ⟨rfl, rfl, Ca.of hR hc⟩
            · iterate 3 refine px_go hX ?_
              have hr : of_move σ x y z = (0, (1 : Int32), σ) := by
                unfold of_move
                rw [hx, cs_bq_s hc hb]
                exact (if_neg (fun q => q.elim (fun q => q b1) (fun q => q.elim c3 (fun q => q c4)))).trans (congrArg (fun z => ((0, z, σ) : cs_R)) ((((if_neg c5).trans (if_neg c6)).trans (if_neg c7)).trans (if_neg c8)))
              rw [hr]
              exact ⟨rfl, rfl, Ca.of hR hc⟩
        · refine px_go hX ?_
          have hr : of_move σ x y z = (1, 0, σ) := by
            unfold of_move
            rw [hx, cs_bq_s hc hb]
            exact if_pos (Or.inr (Or.inr c4))
          refine ⟨Nat.le_refl 1, Nat.le_refl 6, rfl, ?_⟩
          rw [hr]
          exact ⟨⟨rfl, rfl⟩, Ca.of hR hc⟩
    · refine px_go hX ?_
      refine ⟨fun (c9 : 0 = 0) => ?_, fun (c9 : ¬ 0 = 0) => absurd rfl c9⟩
      refine px_go hX ?_
      have hr : of_move σ x y z = (1, 0, σ) := by
        unfold of_move
        rw [hx, cs_bq_s hc hb]
        exact if_pos (Or.inl b1)
      refine ⟨Nat.le_refl 1, Nat.le_refl 6, rfl, ?_⟩
      rw [hr]
      exact ⟨⟨rfl, rfl⟩, Ca.of hR hc⟩
  · iterate 4 refine px_go hX ?_
    have hr : of_move σ x y z = (1, 0, σ) := by
      unfold of_move
      rw [cs_bq_n hx]
    refine ⟨Nat.le_refl 1, Nat.le_refl 6, rfl, ?_⟩
    rw [hr]
    exact ⟨⟨rfl, rfl⟩, Ca.of hR hc⟩
theorem ce_swap (hR : Rp ad K C) (hc : Cl ad σ K) (hB : cs_inb σ) (x y : Int32) : px_W ps_Y ps_P B sc (d + 3) 50 [.ref (ad 0), .int x, .int y] C 1 6 (px_oC ad K (of_swap σ x y)) (px_oE ad K (of_swap σ x y)) := by
  have h0 := hR.1 0 _ hc.1.1
  have hn := hc.2.2.2.2.2.2.2.2.2
  have hnb := hc.2.2.2.2.2.2.1
  refine ⟨pm_Mo_swap, rfl, Nat.le_of_ble_eq_true rfl, fun X hw hX => ?_⟩
  iterate 3 refine px_go hX ?_
  refine ⟨_, h0, 0, 0, _, Nat.le_of_ble_eq_true rfl, Nat.le_of_ble_eq_true rfl, Nat.le_of_ble_eq_true rfl, cc_boxAt hR hc _, ?_⟩
  rintro _ C ⟨rfl, ⟨j, hj, hx, rfl⟩ | ⟨hx, rfl⟩⟩
  · iterate 4 refine px_go hX ?_
    refine ⟨_, h0, 0, 0, _, Nat.le_of_ble_eq_true rfl, Nat.le_of_ble_eq_true rfl, Nat.le_of_ble_eq_true rfl, cc_boxAt hR hc _, ?_⟩
    rintro _ C ⟨rfl, ⟨k, hk, hy, rfl⟩ | ⟨hy, rfl⟩⟩
    · iterate 8 refine px_go hX ?_
      refine ⟨fun (c1 : x = y) => ?_, fun (c1 : ¬ x = y) => ?_⟩
      · iterate 2 refine px_go hX ?_
        have hr : of_swap σ x y = (0, 0, σ) := by
          have h3 : cs_xq σ x = some j := by rw [hx]; exact cs_xq_s hc hj
          have h4 : cs_xq σ y = some k := by rw [hy]; exact cs_xq_s hc hk
          unfold of_swap
          rw [h3, h4]
          exact if_pos (Or.inl c1)
        rw [hr]
        exact ⟨rfl, rfl, Ca.of hR hc⟩
      · iterate 2 refine px_go hX ?_
        refine ⟨_, _, (hR.1 _ _ (hc.2.2.2.1 j hj)), rfl, ?_⟩
        iterate 2 refine px_go hX ?_
        refine ⟨_, _, (hR.1 _ _ (hc.2.2.2.1 k hk)), rfl, ?_⟩
        refine px_go hX ?_
        refine ⟨fun (c2 : ¬ cs_bf σ j 0 = cs_bf σ k 0) => ?_, fun (c2 : cs_bf σ j 0 = cs_bf σ k 0) => ?_⟩
        · iterate 2 refine px_go hX ?_
          have hr : of_swap σ x y = (0, 0, σ) := by
            have h3 : cs_xq σ x = some j := by rw [hx]; exact cs_xq_s hc hj
            have h4 : cs_xq σ y = some k := by rw [hy]; exact cs_xq_s hc hk
            unfold of_swap
            rw [h3, h4]
            exact if_pos (Or.inr (Or.inl c2))
          rw [hr]
          exact ⟨rfl, rfl, Ca.of hR hc⟩
        · iterate 2 refine px_go hX ?_
          refine ⟨_, (hR.1 _ _ (hc.2.2.2.1 j hj)), 0, 0, _, Nat.le_of_ble_eq_true rfl, Nat.le_of_ble_eq_true rfl, Nat.le_of_ble_eq_true rfl, cc_liesInStack hR hc hj, ?_⟩
          rintro _ C ⟨rfl, ⟨b3, rfl⟩ | ⟨b3, rfl⟩⟩
          · refine px_go hX ?_
            refine ⟨fun (c4 : 1 = 0) => absurd c4 (by decide), fun (c4 : ¬ 1 = 0) => ?_⟩
            iterate 2 refine px_go hX ?_
            refine ⟨_, (hR.1 _ _ (hc.2.2.2.1 k hk)), 0, 0, _, Nat.le_of_ble_eq_true rfl, Nat.le_of_ble_eq_true rfl, Nat.le_of_ble_eq_true rfl, cc_liesInStack hR hc hk, ?_⟩
            rintro _ C ⟨rfl, ⟨b5, rfl⟩ | ⟨b5, rfl⟩⟩
            · refine px_go hX ?_
              refine ⟨fun (c6 : ¬ 1 = 0) => ?_, fun (c6 : 1 = 0) => absurd c6 (by decide)⟩
              iterate 4 refine px_go hX ?_
              refine ⟨_, h0, 0, 0, _, Nat.le_of_ble_eq_true rfl, Nat.le_of_ble_eq_true rfl, Nat.le_of_ble_eq_true rfl, (by rw [hx]; exact cc_hasNeeds hR hc hj), ?_⟩
              rintro _ C ⟨rfl, ⟨b7, rfl⟩ | ⟨b7, rfl⟩⟩
              · refine px_go hX ?_
                refine ⟨fun (c8 : ¬ 1 = 0) => ?_, fun (c8 : 1 = 0) => absurd c8 (by decide)⟩
                iterate 2 refine px_go hX ?_
                have hr : of_swap σ x y = (0, 0, σ) := by
                  have h3 : cs_xq σ x = some j := by rw [hx]; exact cs_xq_s hc hj
                  have h4 : cs_xq σ y = some k := by rw [hy]; exact cs_xq_s hc hk
                  unfold of_swap
                  rw [h3, h4]
                  exact if_pos (Or.inr (Or.inr (Or.inr (Or.inr (Or.inl b7)))))
                rw [hr]
                exact ⟨rfl, rfl, Ca.of hR hc⟩
              · refine px_go hX ?_
                refine ⟨fun (c9 : ¬ 0 = 0) => absurd rfl c9, fun (c9 : 0 = 0) => ?_⟩
                iterate 4 refine px_go hX ?_
                refine ⟨_, h0, 0, 0, _, Nat.le_of_ble_eq_true rfl, Nat.le_of_ble_eq_true rfl, Nat.le_of_ble_eq_true rfl, (by rw [hy]; exact cc_hasNeeds hR hc hk), ?_⟩
                rintro _ C ⟨rfl, ⟨b10, rfl⟩ | ⟨b10, rfl⟩⟩
                · refine px_go hX ?_
                  refine ⟨fun (c11 : 1 = 0) => absurd c11 (by decide), fun (c11 : ¬ 1 = 0) => ?_⟩
                  iterate 2 refine px_go hX ?_
                  have hr : of_swap σ x y = (0, 0, σ) := by
                    have h3 : cs_xq σ x = some j := by rw [hx]; exact cs_xq_s hc hj
                    have h4 : cs_xq σ y = some k := by rw [hy]; exact cs_xq_s hc hk
                    unfold of_swap
                    rw [h3, h4]
                    exact if_pos (Or.inr (Or.inr (Or.inr (Or.inr (Or.inr b10)))))
                  rw [hr]
                  exact ⟨rfl, rfl, Ca.of hR hc⟩
                · refine px_go hX ?_
                  refine ⟨fun (c12 : 0 = 0) => ?_, fun (c12 : ¬ 0 = 0) => absurd rfl c12⟩
                  obtain ⟨bj, hbj1, hbj⟩ := hB j hj
                  obtain ⟨bk, hbk1, hbk⟩ := hB k hk
                  iterate 3 refine px_go hX ?_
                  refine ⟨_, _, (hR.1 _ _ (hc.2.2.2.1 j hj)), rfl, ?_⟩
                  refine px_go hX ?_
                  refine ⟨_, h0, 0, 0, _, Nat.le_of_ble_eq_true rfl, Nat.le_of_ble_eq_true rfl, Nat.le_of_ble_eq_true rfl, (by rw [show cs_bf σ j 1 = nI bj from hbj]; exact cc_forgetPlanOf hR hc hbj1), ?_⟩
                  rintro _ C ⟨rfl, K1, hR1, hc1, hK1⟩
                  iterate 3 refine px_go hX ?_
                  refine ⟨_, _, (hR1.1 _ _ (hc1.2.2.2.1 k hk)), rfl, ?_⟩
                  refine px_go hX ?_
                  refine ⟨_, (hR1.1 0 _ hc1.1.1), 0, 0, _, Nat.le_of_ble_eq_true rfl, Nat.le_of_ble_eq_true rfl, Nat.le_of_ble_eq_true rfl, (by rw [show cs_bf (cs_fp σ bj) k 1 = nI bk from hbk]; exact cc_forgetPlanOf hR1 hc1 hbk1), ?_⟩
                  rintro _ C ⟨rfl, K2, hR2, hc2, hK2⟩
                  iterate 3 refine px_go hX ?_
                  refine ⟨_, (hR2.1 _ _ (hc2.2.2.2.1 j hj)), 0, 0, _, Nat.le_of_ble_eq_true rfl, Nat.le_of_ble_eq_true rfl, Nat.le_of_ble_eq_true rfl, cc_changePlaces hR2 hc2 hj hk (fun w => c1 (by rw [hx, hy, w])), ?_⟩
                  rintro _ C ⟨rfl, K3, hR3, hc3, hK3⟩
                  iterate 2 refine px_go hX ?_
                  have hr : of_swap σ x y = (0, 1, cs_sw (cs_fp (cs_fp σ bj) bk) j k) := by
                    have h3 : cs_xq σ x = some j := by rw [hx]; exact cs_xq_s hc hj
                    have h4 : cs_xq σ y = some k := by rw [hy]; exact cs_xq_s hc hk
                    unfold of_swap
                    rw [h3, h4]
                    refine (if_neg ?_).trans ?_
                    · rintro (q | q | q | q | q | q)
                      · exact c1 q
                      · exact q c2
                      · exact b3 q
                      · exact b5 q
                      · exact b7 q
                      · exact b10 q
                    · rw [hbj, hbk, nI_clamp (by omega), nI_clamp (by omega)]
                  rw [hr]
                  exact ⟨rfl, rfl, Ck.ca ⟨K3, hR3, hc3, fun i hi => by rw [hK3 i hi, hK2 i hi, hK1 i hi]⟩⟩
            · refine px_go hX ?_
              refine ⟨fun (c13 : ¬ 0 = 0) => absurd rfl c13, fun (c13 : 0 = 0) => ?_⟩
              iterate 2 refine px_go hX ?_
              have hr : of_swap σ x y = (0, 0, σ) := by
                have h3 : cs_xq σ x = some j := by rw [hx]; exact cs_xq_s hc hj
                have h4 : cs_xq σ y = some k := by rw [hy]; exact cs_xq_s hc hk
                unfold of_swap
                rw [h3, h4]
                exact if_pos (Or.inr (Or.inr (Or.inr (Or.inl (Classical.not_not.mp b5)))))
              rw [hr]
              exact ⟨rfl, rfl, Ca.of hR hc⟩
          · refine px_go hX ?_
            refine ⟨fun (c14 : 0 = 0) => ?_, fun (c14 : ¬ 0 = 0) => absurd rfl c14⟩
            iterate 2 refine px_go hX ?_
            have hr : of_swap σ x y = (0, 0, σ) := by
              have h3 : cs_xq σ x = some j := by rw [hx]; exact cs_xq_s hc hj
              have h4 : cs_xq σ y = some k := by rw [hy]; exact cs_xq_s hc hk
              unfold of_swap
              rw [h3, h4]
              exact if_pos (Or.inr (Or.inr (Or.inl (Classical.not_not.mp b3))))
            rw [hr]
            exact ⟨rfl, rfl, Ca.of hR hc⟩
    · iterate 6 refine px_go hX ?_
      have hr : of_swap σ x y = (1, 0, σ) := by
        unfold of_swap
        rw [hx, cs_xq_s hc hj, cs_xq_n hy]
      refine ⟨Nat.le_refl 1, Nat.le_refl 6, rfl, ?_⟩
      rw [hr]
      exact ⟨Or.inl ⟨rfl, rfl⟩, Ca.of hR hc⟩
  · iterate 4 refine px_go hX ?_
    refine ⟨_, h0, 0, 0, _, Nat.le_of_ble_eq_true rfl, Nat.le_of_ble_eq_true rfl, Nat.le_of_ble_eq_true rfl, cc_boxAt hR hc _, ?_⟩
    rintro _ C ⟨rfl, ⟨k, hk, hy, rfl⟩ | ⟨hy, rfl⟩⟩
    · iterate 4 refine px_go hX ?_
      have hr : of_swap σ x y = (1, 0, σ) := by
        unfold of_swap
        rw [cs_xq_n hx]
      refine ⟨Nat.le_refl 1, Nat.le_refl 6, rfl, ?_⟩
      rw [hr]
      exact ⟨Or.inl ⟨rfl, rfl⟩, Ca.of hR hc⟩
    · iterate 4 refine px_go hX ?_
      have hr : of_swap σ x y = (1, 0, σ) := by
        unfold of_swap
        rw [cs_xq_n hx]
      refine ⟨Nat.le_refl 1, Nat.le_refl 6, rfl, ?_⟩
      rw [hr]
      exact ⟨Or.inl ⟨rfl, rfl⟩, Ca.of hR hc⟩
theorem ce_work (hR : Rp ad K C) (hc : Cl ad σ K) (x : Int32) : px_W ps_Y ps_P B sc (d + 3) 51 [.ref (ad 0), .int x] C 1 6 (px_oC ad K (of_work σ x)) (px_oE ad K (of_work σ x)) := by
  have h0 := hR.1 0 _ hc.1.1
  have hn := hc.2.2.2.2.2.2.2.2.2
  have hnb := hc.2.2.2.2.2.2.1
  refine ⟨pm_Mo_work, rfl, Nat.le_of_ble_eq_true rfl, fun X hw hX => ?_⟩
  iterate 3 refine px_go hX ?_
  refine ⟨_, h0, 0, 0, _, Nat.le_of_ble_eq_true rfl, Nat.le_of_ble_eq_true rfl, Nat.le_of_ble_eq_true rfl, cc_bayAt hR hc _, ?_⟩
  rintro _ C ⟨rfl, ⟨b, hb, hx, rfl⟩ | ⟨hx, rfl⟩⟩
  · iterate 5 refine px_go hX ?_
    refine ⟨_, _, (hR.1 _ _ (hc.2.2.1 b hb).1), rfl, ?_⟩
    iterate 4 refine px_go hX ?_
    refine ⟨_, (hR.1 _ _ (hc.2.2.1 b hb).1), 0, 0, _, Nat.le_of_ble_eq_true rfl, Nat.le_of_ble_eq_true rfl, Nat.le_of_ble_eq_true rfl, cc_hasMove hR hc hb _, ?_⟩
    rintro _ C ⟨rfl, ⟨b1, rfl⟩ | ⟨b1, rfl⟩⟩
    · refine px_go hX ?_
      refine ⟨fun (c2 : 1 = 0) => absurd c2 (by decide), fun (c2 : ¬ 1 = 0) => ?_⟩
      iterate 3 refine px_go hX ?_
      refine ⟨_, _, (hR.1 _ _ (hc.2.2.1 b hb).1), rfl, ?_⟩
      iterate 2 refine px_go hX ?_
      refine ⟨_, _, (hR.1 _ _ (hc.2.2.1 b hb).2.1), (px_inm (y := cs_yf σ b 2) b1.2.1 b1.2.2.2), ?_⟩
      refine px_go hX ?_
      refine ⟨_, h0, 0, 0, _, Nat.le_of_ble_eq_true rfl, Nat.le_of_ble_eq_true rfl, Nat.le_of_ble_eq_true rfl, cc_boxAt hR hc _, ?_⟩
      rintro _ C ⟨rfl, ⟨j, hj, hy, rfl⟩ | ⟨hy, rfl⟩⟩
      · iterate 6 refine px_go hX ?_
        refine ⟨_, _, (hR.1 _ _ (hc.2.2.1 b hb).1), rfl, ?_⟩
        iterate 2 refine px_go hX ?_
        refine ⟨_, _, (hR.1 _ _ (hc.2.2.1 b hb).2.2.2), (px_inm (y := cs_yf σ b 2) b1.2.1 b1.2.2.2), ?_⟩
        iterate 5 refine px_go hX ?_
        refine ⟨fun (c3 : (3 : Int32) ≤ cs_ya σ b 2 (cs_yf σ b 2).toNatClampNeg) => ?_, fun (c3 : ¬ (3 : Int32) ≤ cs_ya σ b 2 (cs_yf σ b 2).toNatClampNeg) => ?_⟩
        · iterate 2 refine px_go hX ?_
          refine ⟨_, (hR.1 _ _ (hc.2.2.2.1 j hj)), Nat.le_of_ble_eq_true rfl, rfl, rfl, ?_⟩
          iterate 3 refine px_go hX ?_
          refine ⟨_, (px_up_s _ _ _), Nat.le_of_ble_eq_true rfl, rfl, rfl, ?_⟩
          iterate 3 refine px_go hX ?_
          refine ⟨_, _, ((px_up_n _ _ (hR.ne (hc.2.2.1 b hb).1 (hc.2.2.2.1 j hj) (by omega))).trans ((px_up_n _ _ (hR.ne (hc.2.2.1 b hb).1 (hc.2.2.2.1 j hj) (by omega))).trans (hR.1 _ _ (hc.2.2.1 b hb).1))), rfl, ?_⟩
          iterate 3 refine px_go hX ?_
          refine ⟨_, ((px_up_n _ _ (hR.ne (hc.2.2.1 b hb).1 (hc.2.2.2.1 j hj) (by omega))).trans ((px_up_n _ _ (hR.ne (hc.2.2.1 b hb).1 (hc.2.2.2.1 j hj) (by omega))).trans (hR.1 _ _ (hc.2.2.1 b hb).1))), Nat.le_of_ble_eq_true rfl, rfl, rfl, ?_⟩
          iterate 3 refine px_go hX ?_
          refine ⟨_, _, ((px_up_n _ _ (hR.ne hc.1.1 (hc.2.2.1 b hb).1 (by omega))).trans ((px_up_n _ _ (hR.ne hc.1.1 (hc.2.2.2.1 j hj) (by omega))).trans ((px_up_n _ _ (hR.ne hc.1.1 (hc.2.2.2.1 j hj) (by omega))).trans h0))), rfl, ?_⟩
          iterate 3 refine px_go hX ?_
          refine ⟨_, ((px_up_n _ _ (hR.ne hc.1.1 (hc.2.2.1 b hb).1 (by omega))).trans ((px_up_n _ _ (hR.ne hc.1.1 (hc.2.2.2.1 j hj) (by omega))).trans ((px_up_n _ _ (hR.ne hc.1.1 (hc.2.2.2.1 j hj) (by omega))).trans h0))), Nat.le_of_ble_eq_true rfl, rfl, rfl, ?_⟩
          have hR1 := ((((hR.put (i := 40 + j) (hc.2.2.2.1 j hj) (px_o 2 [.int (cs_bf σ j 0), .int (cs_bf σ j 1), .int (cs_bf σ j 2), .int ((-1 : Int32)), .int (cs_bf σ j 4)])).put (i := 40 + j) (rp_up_s _ _ _) (px_o 2 [.int (cs_bf σ j 0), .int (cs_bf σ j 1), .int (cs_ya σ b 2 (cs_yf σ b 2).toNatClampNeg), .int ((-1 : Int32)), .int (cs_bf σ j 4)])).put (i := 20 + 4 * b) ((rp_up_n _ _ (by omega)).trans ((rp_up_n _ _ (by omega)).trans (hc.2.2.1 b hb).1)) (px_o 1 [.ref (ad (21 + 4 * b)), .ref (ad (22 + 4 * b)), .ref (ad (23 + 4 * b)), .int (cs_yf σ b 0), .int (cs_yf σ b 1), .int ((cs_yf σ b 2) + ((1 : Int32))), .int (cs_yf σ b 3)])).put (i := 0) ((rp_up_n _ _ (by omega)).trans ((rp_up_n _ _ (by omega)).trans ((rp_up_n _ _ (by omega)).trans hc.1.1))) (px_o 0 [.int (nI (cs_ti σ)), .ref (ad 1), .ref (ad 2), .ref (ad 3), .int (nI (cs_n σ)), .int ((cs_mw σ) + ((1 : Int32))), .int (cs_lg σ)]))
          have hc1 : Cl ad (cs_w1 σ b j (-1) (cs_ya σ b 2 (cs_yf σ b 2).toNatClampNeg)) (rp_up (rp_up (rp_up (rp_up (K) (40 + j) (px_o 2 [.int (cs_bf σ j 0), .int (cs_bf σ j 1), .int (cs_bf σ j 2), .int ((-1 : Int32)), .int (cs_bf σ j 4)])) (40 + j) (px_o 2 [.int (cs_bf σ j 0), .int (cs_bf σ j 1), .int (cs_ya σ b 2 (cs_yf σ b 2).toNatClampNeg), .int ((-1 : Int32)), .int (cs_bf σ j 4)])) (20 + 4 * b) (px_o 1 [.ref (ad (21 + 4 * b)), .ref (ad (22 + 4 * b)), .ref (ad (23 + 4 * b)), .int (cs_yf σ b 0), .int (cs_yf σ b 1), .int ((cs_yf σ b 2) + ((1 : Int32))), .int (cs_yf σ b 3)])) (0) (px_o 0 [.int (nI (cs_ti σ)), .ref (ad 1), .ref (ad 2), .ref (ad 3), .int (nI (cs_n σ)), .int ((cs_mw σ) + ((1 : Int32))), .int (cs_lg σ)])) := by
            rw [rp_up_up]
            exact ((hc.sB hj _).sY (b := b) hb _).sM _ _
          have hK1 : ∀ i, 100 ≤ i → (rp_up (rp_up (rp_up (rp_up (K) (40 + j) (px_o 2 [.int (cs_bf σ j 0), .int (cs_bf σ j 1), .int (cs_bf σ j 2), .int ((-1 : Int32)), .int (cs_bf σ j 4)])) (40 + j) (px_o 2 [.int (cs_bf σ j 0), .int (cs_bf σ j 1), .int (cs_ya σ b 2 (cs_yf σ b 2).toNatClampNeg), .int ((-1 : Int32)), .int (cs_bf σ j 4)])) (20 + 4 * b) (px_o 1 [.ref (ad (21 + 4 * b)), .ref (ad (22 + 4 * b)), .ref (ad (23 + 4 * b)), .int (cs_yf σ b 0), .int (cs_yf σ b 1), .int ((cs_yf σ b 2) + ((1 : Int32))), .int (cs_yf σ b 3)])) (0) (px_o 0 [.int (nI (cs_ti σ)), .ref (ad 1), .ref (ad 2), .ref (ad 3), .int (nI (cs_n σ)), .int ((cs_mw σ) + ((1 : Int32))), .int (cs_lg σ)])) i = (K) i := fun i hi => by rw [rp_up_n _ _ (by omega), rp_up_n _ _ (by omega), rp_up_n _ _ (by omega), rp_up_n _ _ (by omega)]
          iterate 3 refine px_go hX ?_
          refine ⟨fun (c4 : ¬ cs_ya σ b 2 (cs_yf σ b 2).toNatClampNeg = (3 : Int32)) => ?_, fun (c4 : cs_ya σ b 2 (cs_yf σ b 2).toNatClampNeg = (3 : Int32)) => ?_⟩
          · iterate 2 refine px_go hX ?_
            refine ⟨_, ((px_up_n _ _ (hR.ne (hc.2.2.1 b hb).1 hc.1.1 (by omega))).trans (px_up_s _ _ _)), 0, 0, _, Nat.le_of_ble_eq_true rfl, Nat.le_of_ble_eq_true rfl, Nat.le_of_ble_eq_true rfl, cc_movesLeft hR1 hc1 hb, ?_⟩
            rintro _ C ⟨rfl, ⟨b2, rfl⟩ | ⟨b2, rfl⟩⟩
            · refine px_go hX ?_
              have ht : cs_wt σ x (cs_ya σ b 2 (cs_yf σ b 2).toNatClampNeg) = -1 := if_pos c3
              rw [of_work_3 hc hx hb b1 hj hy, show of_wk σ x b j (cs_ya σ b 2 (cs_yf σ b 2).toNatClampNeg) = (0, cs_lft (cs_w1 σ b j (-1) (cs_ya σ b 2 (cs_yf σ b 2).toNatClampNeg)) b, cs_w1 σ b j (-1) (cs_ya σ b 2 (cs_yf σ b 2).toNatClampNeg)) from by rw [← ht]; exact if_neg (fun q => c4 q.1)]
              exact ⟨rfl, congrArg (fun z => some (Value.int z)) (if_pos b2).symm, Ck.ca ⟨_, hR1, hc1, fun i hi => hK1 i hi⟩⟩
            · refine px_go hX ?_
              have ht : cs_wt σ x (cs_ya σ b 2 (cs_yf σ b 2).toNatClampNeg) = -1 := if_pos c3
              rw [of_work_3 hc hx hb b1 hj hy, show of_wk σ x b j (cs_ya σ b 2 (cs_yf σ b 2).toNatClampNeg) = (0, cs_lft (cs_w1 σ b j (-1) (cs_ya σ b 2 (cs_yf σ b 2).toNatClampNeg)) b, cs_w1 σ b j (-1) (cs_ya σ b 2 (cs_yf σ b 2).toNatClampNeg)) from by rw [← ht]; exact if_neg (fun q => c4 q.1)]
              exact ⟨rfl, congrArg (fun z => some (Value.int z)) (if_neg b2).symm, Ck.ca ⟨_, hR1, hc1, fun i hi => hK1 i hi⟩⟩
          · iterate 2 refine px_go hX ?_
            refine ⟨_, _, ((px_up_n _ _ (hR.ne (hc.2.2.1 b hb).1 hc.1.1 (by omega))).trans (px_up_s _ _ _)), rfl, ?_⟩
            refine px_go hX ?_
            refine ⟨fun (c5 : cs_yf σ b 3 ≤ 0) => ?_, fun (c5 : ¬ cs_yf σ b 3 ≤ 0) => ?_⟩
            · iterate 2 refine px_go hX ?_
              refine ⟨_, ((px_up_n _ _ (hR.ne (hc.2.2.1 b hb).1 hc.1.1 (by omega))).trans (px_up_s _ _ _)), 0, 0, _, Nat.le_of_ble_eq_true rfl, Nat.le_of_ble_eq_true rfl, Nat.le_of_ble_eq_true rfl, cc_movesLeft hR1 hc1 hb, ?_⟩
              rintro _ C ⟨rfl, ⟨b2, rfl⟩ | ⟨b2, rfl⟩⟩
              · refine px_go hX ?_
                have ht : cs_wt σ x (cs_ya σ b 2 (cs_yf σ b 2).toNatClampNeg) = -1 := if_pos c3
                rw [of_work_3 hc hx hb b1 hj hy, show of_wk σ x b j (cs_ya σ b 2 (cs_yf σ b 2).toNatClampNeg) = (0, cs_lft (cs_w1 σ b j (-1) (cs_ya σ b 2 (cs_yf σ b 2).toNatClampNeg)) b, cs_w1 σ b j (-1) (cs_ya σ b 2 (cs_yf σ b 2).toNatClampNeg)) from by rw [← ht]; exact if_neg (fun q => absurd q.2 (Int32.not_lt.mpr c5))]
                exact ⟨rfl, congrArg (fun z => some (Value.int z)) (if_pos b2).symm, Ck.ca ⟨_, hR1, hc1, fun i hi => hK1 i hi⟩⟩
              · refine px_go hX ?_
                have ht : cs_wt σ x (cs_ya σ b 2 (cs_yf σ b 2).toNatClampNeg) = -1 := if_pos c3
                rw [of_work_3 hc hx hb b1 hj hy, show of_wk σ x b j (cs_ya σ b 2 (cs_yf σ b 2).toNatClampNeg) = (0, cs_lft (cs_w1 σ b j (-1) (cs_ya σ b 2 (cs_yf σ b 2).toNatClampNeg)) b, cs_w1 σ b j (-1) (cs_ya σ b 2 (cs_yf σ b 2).toNatClampNeg)) from by rw [← ht]; exact if_neg (fun q => absurd q.2 (Int32.not_lt.mpr c5))]
                exact ⟨rfl, congrArg (fun z => some (Value.int z)) (if_neg b2).symm, Ck.ca ⟨_, hR1, hc1, fun i hi => hK1 i hi⟩⟩
            · iterate 3 refine px_go hX ?_
              refine ⟨_, _, ((px_up_n _ _ (hR.ne (hc.2.2.1 b hb).1 hc.1.1 (by omega))).trans (px_up_s _ _ _)), rfl, ?_⟩
              iterate 3 refine px_go hX ?_
              refine ⟨_, ((px_up_n _ _ (hR.ne (hc.2.2.1 b hb).1 hc.1.1 (by omega))).trans (px_up_s _ _ _)), Nat.le_of_ble_eq_true rfl, rfl, rfl, ?_⟩
              iterate 3 refine px_go hX ?_
              refine ⟨_, _, ((px_up_n _ _ (hR.ne hc.1.1 (hc.2.2.1 b hb).1 (by omega))).trans (px_up_s _ _ _)), rfl, ?_⟩
              iterate 3 refine px_go hX ?_
              refine ⟨_, ((px_up_n _ _ (hR.ne hc.1.1 (hc.2.2.1 b hb).1 (by omega))).trans (px_up_s _ _ _)), Nat.le_of_ble_eq_true rfl, rfl, rfl, ?_⟩
              have hR2 := ((hR1.put (i := 20 + 4 * b) (hc1.2.2.1 b hb).1 (px_o 1 [.ref (ad (21 + 4 * b)), .ref (ad (22 + 4 * b)), .ref (ad (23 + 4 * b)), .int (cs_yf σ b 0), .int (cs_yf σ b 1), .int ((cs_yf σ b 2) + ((1 : Int32))), .int ((cs_yf σ b 3) - ((1 : Int32)))])).put (i := 0) ((rp_up_n _ _ (by omega)).trans hc1.1.1) (px_o 0 [.int (nI (cs_ti σ)), .ref (ad 1), .ref (ad 2), .ref (ad 3), .int (nI (cs_n σ)), .int ((cs_mw σ) + ((1 : Int32))), .int ((cs_lg σ) + ((1 : Int32)))]))
              have hc2 : Cl ad (cs_w2 σ b j (-1) (cs_ya σ b 2 (cs_yf σ b 2).toNatClampNeg)) (rp_up (rp_up (rp_up (rp_up (rp_up (rp_up (K) (40 + j) (px_o 2 [.int (cs_bf σ j 0), .int (cs_bf σ j 1), .int (cs_bf σ j 2), .int ((-1 : Int32)), .int (cs_bf σ j 4)])) (40 + j) (px_o 2 [.int (cs_bf σ j 0), .int (cs_bf σ j 1), .int (cs_ya σ b 2 (cs_yf σ b 2).toNatClampNeg), .int ((-1 : Int32)), .int (cs_bf σ j 4)])) (20 + 4 * b) (px_o 1 [.ref (ad (21 + 4 * b)), .ref (ad (22 + 4 * b)), .ref (ad (23 + 4 * b)), .int (cs_yf σ b 0), .int (cs_yf σ b 1), .int ((cs_yf σ b 2) + ((1 : Int32))), .int (cs_yf σ b 3)])) (0) (px_o 0 [.int (nI (cs_ti σ)), .ref (ad 1), .ref (ad 2), .ref (ad 3), .int (nI (cs_n σ)), .int ((cs_mw σ) + ((1 : Int32))), .int (cs_lg σ)])) (20 + 4 * b) (px_o 1 [.ref (ad (21 + 4 * b)), .ref (ad (22 + 4 * b)), .ref (ad (23 + 4 * b)), .int (cs_yf σ b 0), .int (cs_yf σ b 1), .int ((cs_yf σ b 2) + ((1 : Int32))), .int ((cs_yf σ b 3) - ((1 : Int32)))])) (0) (px_o 0 [.int (nI (cs_ti σ)), .ref (ad 1), .ref (ad 2), .ref (ad 3), .int (nI (cs_n σ)), .int ((cs_mw σ) + ((1 : Int32))), .int ((cs_lg σ) + ((1 : Int32)))])) := by
                exact (hc1.sY (b := b) hb _).sM _ _
              have hK2 : ∀ i, 100 ≤ i → (rp_up (rp_up (rp_up (rp_up (rp_up (rp_up (K) (40 + j) (px_o 2 [.int (cs_bf σ j 0), .int (cs_bf σ j 1), .int (cs_bf σ j 2), .int ((-1 : Int32)), .int (cs_bf σ j 4)])) (40 + j) (px_o 2 [.int (cs_bf σ j 0), .int (cs_bf σ j 1), .int (cs_ya σ b 2 (cs_yf σ b 2).toNatClampNeg), .int ((-1 : Int32)), .int (cs_bf σ j 4)])) (20 + 4 * b) (px_o 1 [.ref (ad (21 + 4 * b)), .ref (ad (22 + 4 * b)), .ref (ad (23 + 4 * b)), .int (cs_yf σ b 0), .int (cs_yf σ b 1), .int ((cs_yf σ b 2) + ((1 : Int32))), .int (cs_yf σ b 3)])) (0) (px_o 0 [.int (nI (cs_ti σ)), .ref (ad 1), .ref (ad 2), .ref (ad 3), .int (nI (cs_n σ)), .int ((cs_mw σ) + ((1 : Int32))), .int (cs_lg σ)])) (20 + 4 * b) (px_o 1 [.ref (ad (21 + 4 * b)), .ref (ad (22 + 4 * b)), .ref (ad (23 + 4 * b)), .int (cs_yf σ b 0), .int (cs_yf σ b 1), .int ((cs_yf σ b 2) + ((1 : Int32))), .int ((cs_yf σ b 3) - ((1 : Int32)))])) (0) (px_o 0 [.int (nI (cs_ti σ)), .ref (ad 1), .ref (ad 2), .ref (ad 3), .int (nI (cs_n σ)), .int ((cs_mw σ) + ((1 : Int32))), .int ((cs_lg σ) + ((1 : Int32)))])) i = (rp_up (rp_up (rp_up (rp_up (K) (40 + j) (px_o 2 [.int (cs_bf σ j 0), .int (cs_bf σ j 1), .int (cs_bf σ j 2), .int ((-1 : Int32)), .int (cs_bf σ j 4)])) (40 + j) (px_o 2 [.int (cs_bf σ j 0), .int (cs_bf σ j 1), .int (cs_ya σ b 2 (cs_yf σ b 2).toNatClampNeg), .int ((-1 : Int32)), .int (cs_bf σ j 4)])) (20 + 4 * b) (px_o 1 [.ref (ad (21 + 4 * b)), .ref (ad (22 + 4 * b)), .ref (ad (23 + 4 * b)), .int (cs_yf σ b 0), .int (cs_yf σ b 1), .int ((cs_yf σ b 2) + ((1 : Int32))), .int (cs_yf σ b 3)])) (0) (px_o 0 [.int (nI (cs_ti σ)), .ref (ad 1), .ref (ad 2), .ref (ad 3), .int (nI (cs_n σ)), .int ((cs_mw σ) + ((1 : Int32))), .int (cs_lg σ)])) i := fun i hi => by rw [rp_up_n _ _ (by omega), rp_up_n _ _ (by omega)]
              iterate 2 refine px_go hX ?_
              refine ⟨_, ((px_up_n _ _ (hR.ne (hc.2.2.1 b hb).1 hc.1.1 (by omega))).trans (px_up_s _ _ _)), 0, 0, _, Nat.le_of_ble_eq_true rfl, Nat.le_of_ble_eq_true rfl, Nat.le_of_ble_eq_true rfl, cc_movesLeft hR2 hc2 hb, ?_⟩
              rintro _ C ⟨rfl, ⟨b2, rfl⟩ | ⟨b2, rfl⟩⟩
              · refine px_go hX ?_
                have ht : cs_wt σ x (cs_ya σ b 2 (cs_yf σ b 2).toNatClampNeg) = -1 := if_pos c3
                rw [of_work_3 hc hx hb b1 hj hy, show of_wk σ x b j (cs_ya σ b 2 (cs_yf σ b 2).toNatClampNeg) = (0, cs_lft (cs_w2 σ b j (-1) (cs_ya σ b 2 (cs_yf σ b 2).toNatClampNeg)) b, cs_w2 σ b j (-1) (cs_ya σ b 2 (cs_yf σ b 2).toNatClampNeg)) from by rw [← ht]; exact if_pos ⟨c4, Int32.not_le.mp c5⟩]
                exact ⟨rfl, congrArg (fun z => some (Value.int z)) (if_pos b2).symm, Ck.ca ⟨_, hR2, hc2, fun i hi => (hK2 i hi).trans (hK1 i hi)⟩⟩
              · refine px_go hX ?_
                have ht : cs_wt σ x (cs_ya σ b 2 (cs_yf σ b 2).toNatClampNeg) = -1 := if_pos c3
                rw [of_work_3 hc hx hb b1 hj hy, show of_wk σ x b j (cs_ya σ b 2 (cs_yf σ b 2).toNatClampNeg) = (0, cs_lft (cs_w2 σ b j (-1) (cs_ya σ b 2 (cs_yf σ b 2).toNatClampNeg)) b, cs_w2 σ b j (-1) (cs_ya σ b 2 (cs_yf σ b 2).toNatClampNeg)) from by rw [← ht]; exact if_pos ⟨c4, Int32.not_le.mp c5⟩]
                exact ⟨rfl, congrArg (fun z => some (Value.int z)) (if_neg b2).symm, Ck.ca ⟨_, hR2, hc2, fun i hi => (hK2 i hi).trans (hK1 i hi)⟩⟩
        · iterate 4 refine px_go hX ?_
          refine ⟨_, h0, 0, 0, _, Nat.le_of_ble_eq_true rfl, Nat.le_of_ble_eq_true rfl, Nat.le_of_ble_eq_true rfl, cc_heightOf hR hc _ _, ?_⟩
          rintro _ C ⟨rfl, rfl⟩
          iterate 2 refine px_go hX ?_
          refine ⟨_, (hR.1 _ _ (hc.2.2.2.1 j hj)), Nat.le_of_ble_eq_true rfl, rfl, rfl, ?_⟩
          iterate 3 refine px_go hX ?_
          refine ⟨_, (px_up_s _ _ _), Nat.le_of_ble_eq_true rfl, rfl, rfl, ?_⟩
          iterate 3 refine px_go hX ?_
          refine ⟨_, _, ((px_up_n _ _ (hR.ne (hc.2.2.1 b hb).1 (hc.2.2.2.1 j hj) (by omega))).trans ((px_up_n _ _ (hR.ne (hc.2.2.1 b hb).1 (hc.2.2.2.1 j hj) (by omega))).trans (hR.1 _ _ (hc.2.2.1 b hb).1))), rfl, ?_⟩
          iterate 3 refine px_go hX ?_
          refine ⟨_, ((px_up_n _ _ (hR.ne (hc.2.2.1 b hb).1 (hc.2.2.2.1 j hj) (by omega))).trans ((px_up_n _ _ (hR.ne (hc.2.2.1 b hb).1 (hc.2.2.2.1 j hj) (by omega))).trans (hR.1 _ _ (hc.2.2.1 b hb).1))), Nat.le_of_ble_eq_true rfl, rfl, rfl, ?_⟩
          iterate 3 refine px_go hX ?_
          refine ⟨_, _, ((px_up_n _ _ (hR.ne hc.1.1 (hc.2.2.1 b hb).1 (by omega))).trans ((px_up_n _ _ (hR.ne hc.1.1 (hc.2.2.2.1 j hj) (by omega))).trans ((px_up_n _ _ (hR.ne hc.1.1 (hc.2.2.2.1 j hj) (by omega))).trans h0))), rfl, ?_⟩
          iterate 3 refine px_go hX ?_
          refine ⟨_, ((px_up_n _ _ (hR.ne hc.1.1 (hc.2.2.1 b hb).1 (by omega))).trans ((px_up_n _ _ (hR.ne hc.1.1 (hc.2.2.2.1 j hj) (by omega))).trans ((px_up_n _ _ (hR.ne hc.1.1 (hc.2.2.2.1 j hj) (by omega))).trans h0))), Nat.le_of_ble_eq_true rfl, rfl, rfl, ?_⟩
          have hR1 := ((((hR.put (i := 40 + j) (hc.2.2.2.1 j hj) (px_o 2 [.int (cs_bf σ j 0), .int (cs_bf σ j 1), .int (cs_bf σ j 2), .int (cs_hgt σ x (cs_ya σ b 2 (cs_yf σ b 2).toNatClampNeg)), .int (cs_bf σ j 4)])).put (i := 40 + j) (rp_up_s _ _ _) (px_o 2 [.int (cs_bf σ j 0), .int (cs_bf σ j 1), .int (cs_ya σ b 2 (cs_yf σ b 2).toNatClampNeg), .int (cs_hgt σ x (cs_ya σ b 2 (cs_yf σ b 2).toNatClampNeg)), .int (cs_bf σ j 4)])).put (i := 20 + 4 * b) ((rp_up_n _ _ (by omega)).trans ((rp_up_n _ _ (by omega)).trans (hc.2.2.1 b hb).1)) (px_o 1 [.ref (ad (21 + 4 * b)), .ref (ad (22 + 4 * b)), .ref (ad (23 + 4 * b)), .int (cs_yf σ b 0), .int (cs_yf σ b 1), .int ((cs_yf σ b 2) + ((1 : Int32))), .int (cs_yf σ b 3)])).put (i := 0) ((rp_up_n _ _ (by omega)).trans ((rp_up_n _ _ (by omega)).trans ((rp_up_n _ _ (by omega)).trans hc.1.1))) (px_o 0 [.int (nI (cs_ti σ)), .ref (ad 1), .ref (ad 2), .ref (ad 3), .int (nI (cs_n σ)), .int ((cs_mw σ) + ((1 : Int32))), .int (cs_lg σ)]))
          have hc1 : Cl ad (cs_w1 σ b j (cs_hgt σ x (cs_ya σ b 2 (cs_yf σ b 2).toNatClampNeg)) (cs_ya σ b 2 (cs_yf σ b 2).toNatClampNeg)) (rp_up (rp_up (rp_up (rp_up (K) (40 + j) (px_o 2 [.int (cs_bf σ j 0), .int (cs_bf σ j 1), .int (cs_bf σ j 2), .int (cs_hgt σ x (cs_ya σ b 2 (cs_yf σ b 2).toNatClampNeg)), .int (cs_bf σ j 4)])) (40 + j) (px_o 2 [.int (cs_bf σ j 0), .int (cs_bf σ j 1), .int (cs_ya σ b 2 (cs_yf σ b 2).toNatClampNeg), .int (cs_hgt σ x (cs_ya σ b 2 (cs_yf σ b 2).toNatClampNeg)), .int (cs_bf σ j 4)])) (20 + 4 * b) (px_o 1 [.ref (ad (21 + 4 * b)), .ref (ad (22 + 4 * b)), .ref (ad (23 + 4 * b)), .int (cs_yf σ b 0), .int (cs_yf σ b 1), .int ((cs_yf σ b 2) + ((1 : Int32))), .int (cs_yf σ b 3)])) (0) (px_o 0 [.int (nI (cs_ti σ)), .ref (ad 1), .ref (ad 2), .ref (ad 3), .int (nI (cs_n σ)), .int ((cs_mw σ) + ((1 : Int32))), .int (cs_lg σ)])) := by
            rw [rp_up_up]
            exact ((hc.sB hj _).sY (b := b) hb _).sM _ _
          have hK1 : ∀ i, 100 ≤ i → (rp_up (rp_up (rp_up (rp_up (K) (40 + j) (px_o 2 [.int (cs_bf σ j 0), .int (cs_bf σ j 1), .int (cs_bf σ j 2), .int (cs_hgt σ x (cs_ya σ b 2 (cs_yf σ b 2).toNatClampNeg)), .int (cs_bf σ j 4)])) (40 + j) (px_o 2 [.int (cs_bf σ j 0), .int (cs_bf σ j 1), .int (cs_ya σ b 2 (cs_yf σ b 2).toNatClampNeg), .int (cs_hgt σ x (cs_ya σ b 2 (cs_yf σ b 2).toNatClampNeg)), .int (cs_bf σ j 4)])) (20 + 4 * b) (px_o 1 [.ref (ad (21 + 4 * b)), .ref (ad (22 + 4 * b)), .ref (ad (23 + 4 * b)), .int (cs_yf σ b 0), .int (cs_yf σ b 1), .int ((cs_yf σ b 2) + ((1 : Int32))), .int (cs_yf σ b 3)])) (0) (px_o 0 [.int (nI (cs_ti σ)), .ref (ad 1), .ref (ad 2), .ref (ad 3), .int (nI (cs_n σ)), .int ((cs_mw σ) + ((1 : Int32))), .int (cs_lg σ)])) i = (K) i := fun i hi => by rw [rp_up_n _ _ (by omega), rp_up_n _ _ (by omega), rp_up_n _ _ (by omega), rp_up_n _ _ (by omega)]
          iterate 3 refine px_go hX ?_
          refine ⟨fun (c6 : ¬ cs_ya σ b 2 (cs_yf σ b 2).toNatClampNeg = (3 : Int32)) => ?_, fun (c6 : cs_ya σ b 2 (cs_yf σ b 2).toNatClampNeg = (3 : Int32)) => ?_⟩
          · iterate 2 refine px_go hX ?_
            refine ⟨_, ((px_up_n _ _ (hR.ne (hc.2.2.1 b hb).1 hc.1.1 (by omega))).trans (px_up_s _ _ _)), 0, 0, _, Nat.le_of_ble_eq_true rfl, Nat.le_of_ble_eq_true rfl, Nat.le_of_ble_eq_true rfl, cc_movesLeft hR1 hc1 hb, ?_⟩
            rintro _ C ⟨rfl, ⟨b2, rfl⟩ | ⟨b2, rfl⟩⟩
            · refine px_go hX ?_
              have ht : cs_wt σ x (cs_ya σ b 2 (cs_yf σ b 2).toNatClampNeg) = cs_hgt σ x (cs_ya σ b 2 (cs_yf σ b 2).toNatClampNeg) := if_neg c3
              rw [of_work_3 hc hx hb b1 hj hy, show of_wk σ x b j (cs_ya σ b 2 (cs_yf σ b 2).toNatClampNeg) = (0, cs_lft (cs_w1 σ b j (cs_hgt σ x (cs_ya σ b 2 (cs_yf σ b 2).toNatClampNeg)) (cs_ya σ b 2 (cs_yf σ b 2).toNatClampNeg)) b, cs_w1 σ b j (cs_hgt σ x (cs_ya σ b 2 (cs_yf σ b 2).toNatClampNeg)) (cs_ya σ b 2 (cs_yf σ b 2).toNatClampNeg)) from by rw [← ht]; exact if_neg (fun q => c6 q.1)]
              exact ⟨rfl, congrArg (fun z => some (Value.int z)) (if_pos b2).symm, Ck.ca ⟨_, hR1, hc1, fun i hi => hK1 i hi⟩⟩
            · refine px_go hX ?_
              have ht : cs_wt σ x (cs_ya σ b 2 (cs_yf σ b 2).toNatClampNeg) = cs_hgt σ x (cs_ya σ b 2 (cs_yf σ b 2).toNatClampNeg) := if_neg c3
              rw [of_work_3 hc hx hb b1 hj hy, show of_wk σ x b j (cs_ya σ b 2 (cs_yf σ b 2).toNatClampNeg) = (0, cs_lft (cs_w1 σ b j (cs_hgt σ x (cs_ya σ b 2 (cs_yf σ b 2).toNatClampNeg)) (cs_ya σ b 2 (cs_yf σ b 2).toNatClampNeg)) b, cs_w1 σ b j (cs_hgt σ x (cs_ya σ b 2 (cs_yf σ b 2).toNatClampNeg)) (cs_ya σ b 2 (cs_yf σ b 2).toNatClampNeg)) from by rw [← ht]; exact if_neg (fun q => c6 q.1)]
              exact ⟨rfl, congrArg (fun z => some (Value.int z)) (if_neg b2).symm, Ck.ca ⟨_, hR1, hc1, fun i hi => hK1 i hi⟩⟩
          · iterate 2 refine px_go hX ?_
            refine ⟨_, _, ((px_up_n _ _ (hR.ne (hc.2.2.1 b hb).1 hc.1.1 (by omega))).trans (px_up_s _ _ _)), rfl, ?_⟩
            refine px_go hX ?_
            refine ⟨fun (c7 : cs_yf σ b 3 ≤ 0) => ?_, fun (c7 : ¬ cs_yf σ b 3 ≤ 0) => ?_⟩
            · iterate 2 refine px_go hX ?_
              refine ⟨_, ((px_up_n _ _ (hR.ne (hc.2.2.1 b hb).1 hc.1.1 (by omega))).trans (px_up_s _ _ _)), 0, 0, _, Nat.le_of_ble_eq_true rfl, Nat.le_of_ble_eq_true rfl, Nat.le_of_ble_eq_true rfl, cc_movesLeft hR1 hc1 hb, ?_⟩
              rintro _ C ⟨rfl, ⟨b2, rfl⟩ | ⟨b2, rfl⟩⟩
              · refine px_go hX ?_
                have ht : cs_wt σ x (cs_ya σ b 2 (cs_yf σ b 2).toNatClampNeg) = cs_hgt σ x (cs_ya σ b 2 (cs_yf σ b 2).toNatClampNeg) := if_neg c3
                rw [of_work_3 hc hx hb b1 hj hy, show of_wk σ x b j (cs_ya σ b 2 (cs_yf σ b 2).toNatClampNeg) = (0, cs_lft (cs_w1 σ b j (cs_hgt σ x (cs_ya σ b 2 (cs_yf σ b 2).toNatClampNeg)) (cs_ya σ b 2 (cs_yf σ b 2).toNatClampNeg)) b, cs_w1 σ b j (cs_hgt σ x (cs_ya σ b 2 (cs_yf σ b 2).toNatClampNeg)) (cs_ya σ b 2 (cs_yf σ b 2).toNatClampNeg)) from by rw [← ht]; exact if_neg (fun q => absurd q.2 (Int32.not_lt.mpr c7))]
                exact ⟨rfl, congrArg (fun z => some (Value.int z)) (if_pos b2).symm, Ck.ca ⟨_, hR1, hc1, fun i hi => hK1 i hi⟩⟩
              · refine px_go hX ?_
                have ht : cs_wt σ x (cs_ya σ b 2 (cs_yf σ b 2).toNatClampNeg) = cs_hgt σ x (cs_ya σ b 2 (cs_yf σ b 2).toNatClampNeg) := if_neg c3
                rw [of_work_3 hc hx hb b1 hj hy, show of_wk σ x b j (cs_ya σ b 2 (cs_yf σ b 2).toNatClampNeg) = (0, cs_lft (cs_w1 σ b j (cs_hgt σ x (cs_ya σ b 2 (cs_yf σ b 2).toNatClampNeg)) (cs_ya σ b 2 (cs_yf σ b 2).toNatClampNeg)) b, cs_w1 σ b j (cs_hgt σ x (cs_ya σ b 2 (cs_yf σ b 2).toNatClampNeg)) (cs_ya σ b 2 (cs_yf σ b 2).toNatClampNeg)) from by rw [← ht]; exact if_neg (fun q => absurd q.2 (Int32.not_lt.mpr c7))]
                exact ⟨rfl, congrArg (fun z => some (Value.int z)) (if_neg b2).symm, Ck.ca ⟨_, hR1, hc1, fun i hi => hK1 i hi⟩⟩
            · iterate 3 refine px_go hX ?_
              refine ⟨_, _, ((px_up_n _ _ (hR.ne (hc.2.2.1 b hb).1 hc.1.1 (by omega))).trans (px_up_s _ _ _)), rfl, ?_⟩
              iterate 3 refine px_go hX ?_
              refine ⟨_, ((px_up_n _ _ (hR.ne (hc.2.2.1 b hb).1 hc.1.1 (by omega))).trans (px_up_s _ _ _)), Nat.le_of_ble_eq_true rfl, rfl, rfl, ?_⟩
              iterate 3 refine px_go hX ?_
              refine ⟨_, _, ((px_up_n _ _ (hR.ne hc.1.1 (hc.2.2.1 b hb).1 (by omega))).trans (px_up_s _ _ _)), rfl, ?_⟩
              iterate 3 refine px_go hX ?_
              refine ⟨_, ((px_up_n _ _ (hR.ne hc.1.1 (hc.2.2.1 b hb).1 (by omega))).trans (px_up_s _ _ _)), Nat.le_of_ble_eq_true rfl, rfl, rfl, ?_⟩
              have hR2 := ((hR1.put (i := 20 + 4 * b) (hc1.2.2.1 b hb).1 (px_o 1 [.ref (ad (21 + 4 * b)), .ref (ad (22 + 4 * b)), .ref (ad (23 + 4 * b)), .int (cs_yf σ b 0), .int (cs_yf σ b 1), .int ((cs_yf σ b 2) + ((1 : Int32))), .int ((cs_yf σ b 3) - ((1 : Int32)))])).put (i := 0) ((rp_up_n _ _ (by omega)).trans hc1.1.1) (px_o 0 [.int (nI (cs_ti σ)), .ref (ad 1), .ref (ad 2), .ref (ad 3), .int (nI (cs_n σ)), .int ((cs_mw σ) + ((1 : Int32))), .int ((cs_lg σ) + ((1 : Int32)))]))
              have hc2 : Cl ad (cs_w2 σ b j (cs_hgt σ x (cs_ya σ b 2 (cs_yf σ b 2).toNatClampNeg)) (cs_ya σ b 2 (cs_yf σ b 2).toNatClampNeg)) (rp_up (rp_up (rp_up (rp_up (rp_up (rp_up (K) (40 + j) (px_o 2 [.int (cs_bf σ j 0), .int (cs_bf σ j 1), .int (cs_bf σ j 2), .int (cs_hgt σ x (cs_ya σ b 2 (cs_yf σ b 2).toNatClampNeg)), .int (cs_bf σ j 4)])) (40 + j) (px_o 2 [.int (cs_bf σ j 0), .int (cs_bf σ j 1), .int (cs_ya σ b 2 (cs_yf σ b 2).toNatClampNeg), .int (cs_hgt σ x (cs_ya σ b 2 (cs_yf σ b 2).toNatClampNeg)), .int (cs_bf σ j 4)])) (20 + 4 * b) (px_o 1 [.ref (ad (21 + 4 * b)), .ref (ad (22 + 4 * b)), .ref (ad (23 + 4 * b)), .int (cs_yf σ b 0), .int (cs_yf σ b 1), .int ((cs_yf σ b 2) + ((1 : Int32))), .int (cs_yf σ b 3)])) (0) (px_o 0 [.int (nI (cs_ti σ)), .ref (ad 1), .ref (ad 2), .ref (ad 3), .int (nI (cs_n σ)), .int ((cs_mw σ) + ((1 : Int32))), .int (cs_lg σ)])) (20 + 4 * b) (px_o 1 [.ref (ad (21 + 4 * b)), .ref (ad (22 + 4 * b)), .ref (ad (23 + 4 * b)), .int (cs_yf σ b 0), .int (cs_yf σ b 1), .int ((cs_yf σ b 2) + ((1 : Int32))), .int ((cs_yf σ b 3) - ((1 : Int32)))])) (0) (px_o 0 [.int (nI (cs_ti σ)), .ref (ad 1), .ref (ad 2), .ref (ad 3), .int (nI (cs_n σ)), .int ((cs_mw σ) + ((1 : Int32))), .int ((cs_lg σ) + ((1 : Int32)))])) := by
                exact (hc1.sY (b := b) hb _).sM _ _
              have hK2 : ∀ i, 100 ≤ i → (rp_up (rp_up (rp_up (rp_up (rp_up (rp_up (K) (40 + j) (px_o 2 [.int (cs_bf σ j 0), .int (cs_bf σ j 1), .int (cs_bf σ j 2), .int (cs_hgt σ x (cs_ya σ b 2 (cs_yf σ b 2).toNatClampNeg)), .int (cs_bf σ j 4)])) (40 + j) (px_o 2 [.int (cs_bf σ j 0), .int (cs_bf σ j 1), .int (cs_ya σ b 2 (cs_yf σ b 2).toNatClampNeg), .int (cs_hgt σ x (cs_ya σ b 2 (cs_yf σ b 2).toNatClampNeg)), .int (cs_bf σ j 4)])) (20 + 4 * b) (px_o 1 [.ref (ad (21 + 4 * b)), .ref (ad (22 + 4 * b)), .ref (ad (23 + 4 * b)), .int (cs_yf σ b 0), .int (cs_yf σ b 1), .int ((cs_yf σ b 2) + ((1 : Int32))), .int (cs_yf σ b 3)])) (0) (px_o 0 [.int (nI (cs_ti σ)), .ref (ad 1), .ref (ad 2), .ref (ad 3), .int (nI (cs_n σ)), .int ((cs_mw σ) + ((1 : Int32))), .int (cs_lg σ)])) (20 + 4 * b) (px_o 1 [.ref (ad (21 + 4 * b)), .ref (ad (22 + 4 * b)), .ref (ad (23 + 4 * b)), .int (cs_yf σ b 0), .int (cs_yf σ b 1), .int ((cs_yf σ b 2) + ((1 : Int32))), .int ((cs_yf σ b 3) - ((1 : Int32)))])) (0) (px_o 0 [.int (nI (cs_ti σ)), .ref (ad 1), .ref (ad 2), .ref (ad 3), .int (nI (cs_n σ)), .int ((cs_mw σ) + ((1 : Int32))), .int ((cs_lg σ) + ((1 : Int32)))])) i = (rp_up (rp_up (rp_up (rp_up (K) (40 + j) (px_o 2 [.int (cs_bf σ j 0), .int (cs_bf σ j 1), .int (cs_bf σ j 2), .int (cs_hgt σ x (cs_ya σ b 2 (cs_yf σ b 2).toNatClampNeg)), .int (cs_bf σ j 4)])) (40 + j) (px_o 2 [.int (cs_bf σ j 0), .int (cs_bf σ j 1), .int (cs_ya σ b 2 (cs_yf σ b 2).toNatClampNeg), .int (cs_hgt σ x (cs_ya σ b 2 (cs_yf σ b 2).toNatClampNeg)), .int (cs_bf σ j 4)])) (20 + 4 * b) (px_o 1 [.ref (ad (21 + 4 * b)), .ref (ad (22 + 4 * b)), .ref (ad (23 + 4 * b)), .int (cs_yf σ b 0), .int (cs_yf σ b 1), .int ((cs_yf σ b 2) + ((1 : Int32))), .int (cs_yf σ b 3)])) (0) (px_o 0 [.int (nI (cs_ti σ)), .ref (ad 1), .ref (ad 2), .ref (ad 3), .int (nI (cs_n σ)), .int ((cs_mw σ) + ((1 : Int32))), .int (cs_lg σ)])) i := fun i hi => by rw [rp_up_n _ _ (by omega), rp_up_n _ _ (by omega)]
              iterate 2 refine px_go hX ?_
              refine ⟨_, ((px_up_n _ _ (hR.ne (hc.2.2.1 b hb).1 hc.1.1 (by omega))).trans (px_up_s _ _ _)), 0, 0, _, Nat.le_of_ble_eq_true rfl, Nat.le_of_ble_eq_true rfl, Nat.le_of_ble_eq_true rfl, cc_movesLeft hR2 hc2 hb, ?_⟩
              rintro _ C ⟨rfl, ⟨b2, rfl⟩ | ⟨b2, rfl⟩⟩
              · refine px_go hX ?_
                have ht : cs_wt σ x (cs_ya σ b 2 (cs_yf σ b 2).toNatClampNeg) = cs_hgt σ x (cs_ya σ b 2 (cs_yf σ b 2).toNatClampNeg) := if_neg c3
                rw [of_work_3 hc hx hb b1 hj hy, show of_wk σ x b j (cs_ya σ b 2 (cs_yf σ b 2).toNatClampNeg) = (0, cs_lft (cs_w2 σ b j (cs_hgt σ x (cs_ya σ b 2 (cs_yf σ b 2).toNatClampNeg)) (cs_ya σ b 2 (cs_yf σ b 2).toNatClampNeg)) b, cs_w2 σ b j (cs_hgt σ x (cs_ya σ b 2 (cs_yf σ b 2).toNatClampNeg)) (cs_ya σ b 2 (cs_yf σ b 2).toNatClampNeg)) from by rw [← ht]; exact if_pos ⟨c6, Int32.not_le.mp c7⟩]
                exact ⟨rfl, congrArg (fun z => some (Value.int z)) (if_pos b2).symm, Ck.ca ⟨_, hR2, hc2, fun i hi => (hK2 i hi).trans (hK1 i hi)⟩⟩
              · refine px_go hX ?_
                have ht : cs_wt σ x (cs_ya σ b 2 (cs_yf σ b 2).toNatClampNeg) = cs_hgt σ x (cs_ya σ b 2 (cs_yf σ b 2).toNatClampNeg) := if_neg c3
                rw [of_work_3 hc hx hb b1 hj hy, show of_wk σ x b j (cs_ya σ b 2 (cs_yf σ b 2).toNatClampNeg) = (0, cs_lft (cs_w2 σ b j (cs_hgt σ x (cs_ya σ b 2 (cs_yf σ b 2).toNatClampNeg)) (cs_ya σ b 2 (cs_yf σ b 2).toNatClampNeg)) b, cs_w2 σ b j (cs_hgt σ x (cs_ya σ b 2 (cs_yf σ b 2).toNatClampNeg)) (cs_ya σ b 2 (cs_yf σ b 2).toNatClampNeg)) from by rw [← ht]; exact if_pos ⟨c6, Int32.not_le.mp c7⟩]
                exact ⟨rfl, congrArg (fun z => some (Value.int z)) (if_neg b2).symm, Ck.ca ⟨_, hR2, hc2, fun i hi => (hK2 i hi).trans (hK1 i hi)⟩⟩
      · iterate 5 refine px_go hX ?_
        refine ⟨Nat.le_refl 1, Nat.le_refl 6, rfl, ?_⟩
        rw [of_work_2 hc hx hb (Or.inr hy)]
        exact ⟨Or.inr ⟨rfl, rfl⟩, Ca.of hR hc⟩
    · refine px_go hX ?_
      refine ⟨fun (c8 : 0 = 0) => ?_, fun (c8 : ¬ 0 = 0) => absurd rfl c8⟩
      iterate 5 refine px_go hX ?_
      refine ⟨Nat.le_refl 1, Nat.le_refl 6, rfl, ?_⟩
      rw [of_work_2 hc hx hb (Or.inl b1)]
      exact ⟨Or.inr ⟨rfl, rfl⟩, Ca.of hR hc⟩
  · iterate 4 refine px_go hX ?_
    have hr : of_work σ x = (1, 0, σ) := by
      unfold of_work
      rw [cs_bq_n hx]
    refine ⟨Nat.le_refl 1, Nat.le_refl 6, rfl, ?_⟩
    rw [hr]
    exact ⟨Or.inl ⟨rfl, rfl⟩, Ca.of hR hc⟩
theorem ce_box (hR : Rp ad K C) (hc : Cl ad σ K) (x y z : Int32) : px_W ps_Y ps_P B sc (d + 3) 15 [.ref (ad 0), .int x, .int y, .int z] C 1 6 (px_oC ad K (of_box σ x y z)) (px_oE ad K (of_box σ x y z)) := by
  have h0 := hR.1 0 _ hc.1.1
  have hn := hc.2.2.2.2.2.2.2.2.2
  have h2 := hR.1 2 _ hc.1.2.2.1
  have hnb := hc.2.2.2.2.2.2.1
  refine ⟨pm_Mo_box, rfl, Nat.le_of_ble_eq_true rfl, fun X hw hX => ?_⟩
  iterate 3 refine px_go hX ?_
  refine ⟨_, h0, 0, 0, _, Nat.le_of_ble_eq_true rfl, Nat.le_of_ble_eq_true rfl, Nat.le_of_ble_eq_true rfl, cc_bayAt hR hc _, ?_⟩
  rintro _ C ⟨rfl, ⟨b, hb, hx, rfl⟩ | ⟨hx, rfl⟩⟩
  · iterate 5 refine px_go hX ?_
    refine ⟨fun (c1 : y < 0) => ?_, fun (c1 : ¬ y < 0) => ?_⟩
    · refine px_go hX ?_
      have hr : of_box σ x y z = (1, 0, σ) := by
        unfold of_box
        rw [show cs_bq σ x = some b from by rw [hx]; exact cs_bq_s hc hb]
        exact if_pos (Or.inl c1)
      refine ⟨Nat.le_refl 1, Nat.le_refl 6, rfl, ?_⟩
      rw [hr]
      exact ⟨Or.inl ⟨rfl, rfl⟩, Ca.of hR hc⟩
    · iterate 3 refine px_go hX ?_
      refine ⟨fun (c2 : (3 : Int32) ≤ y) => ?_, fun (c2 : ¬ (3 : Int32) ≤ y) => ?_⟩
      · refine px_go hX ?_
        have hr : of_box σ x y z = (1, 0, σ) := by
          unfold of_box
          rw [show cs_bq σ x = some b from by rw [hx]; exact cs_bq_s hc hb]
          exact if_pos (Or.inr (Or.inl c2))
        refine ⟨Nat.le_refl 1, Nat.le_refl 6, rfl, ?_⟩
        rw [hr]
        exact ⟨Or.inl ⟨rfl, rfl⟩, Ca.of hR hc⟩
      · iterate 2 refine px_go hX ?_
        refine ⟨fun (c3 : z < 0) => ?_, fun (c3 : ¬ z < 0) => ?_⟩
        · refine px_go hX ?_
          have hr : of_box σ x y z = (1, 0, σ) := by
            unfold of_box
            rw [show cs_bq σ x = some b from by rw [hx]; exact cs_bq_s hc hb]
            exact if_pos (Or.inr (Or.inr (Or.inl c3)))
          refine ⟨Nat.le_refl 1, Nat.le_refl 6, rfl, ?_⟩
          rw [hr]
          exact ⟨Or.inl ⟨rfl, rfl⟩, Ca.of hR hc⟩
        · iterate 3 refine px_go hX ?_
          refine ⟨fun (c4 : z ≤ (5 : Int32)) => ?_, fun (c4 : ¬ z ≤ (5 : Int32)) => ?_⟩
          · iterate 4 refine px_go hX ?_
            refine ⟨_, h0, 0, 0, _, Nat.le_of_ble_eq_true rfl, Nat.le_of_ble_eq_true rfl, Nat.le_of_ble_eq_true rfl, cc_heightOf hR hc _ _, ?_⟩
            rintro _ C ⟨rfl, rfl⟩
            iterate 3 refine px_go hX ?_
            refine ⟨_, _, h0, rfl, ?_⟩
            iterate 2 refine px_go hX ?_
            refine ⟨fun (c5 : (16 : Int32) ≤ nI (cs_n σ)) => ?_, fun (c5 : ¬ (16 : Int32) ≤ nI (cs_n σ)) => ?_⟩
            · refine px_go hX ?_
              have hr : of_box σ x y z = (2, 0, σ) := by
                unfold of_box
                rw [show cs_bq σ x = some b from by rw [hx]; exact cs_bq_s hc hb]
                exact (if_neg (fun q => q.elim c1 (fun q => q.elim c2 (fun q => q.elim c3 (fun q => q c4))))).trans (if_pos (Or.inl c5))
              refine ⟨Nat.le_refl 1, Nat.le_refl 6, rfl, ?_⟩
              rw [hr]
              exact ⟨Or.inr ⟨rfl, rfl⟩, Ca.of hR hc⟩
            · iterate 3 refine px_go hX ?_
              refine ⟨_, h0, 0, 0, _, Nat.le_of_ble_eq_true rfl, Nat.le_of_ble_eq_true rfl, Nat.le_of_ble_eq_true rfl, cc_boxesIn hR hc _, ?_⟩
              rintro _ C ⟨rfl, rfl⟩
              iterate 2 refine px_go hX ?_
              refine ⟨fun (c6 : (4 : Int32) ≤ cs_bin σ x) => ?_, fun (c6 : ¬ (4 : Int32) ≤ cs_bin σ x) => ?_⟩
              · refine px_go hX ?_
                have hr : of_box σ x y z = (2, 0, σ) := by
                  unfold of_box
                  rw [show cs_bq σ x = some b from by rw [hx]; exact cs_bq_s hc hb]
                  exact (if_neg (fun q => q.elim c1 (fun q => q.elim c2 (fun q => q.elim c3 (fun q => q c4))))).trans (if_pos (Or.inr (Or.inl c6)))
                refine ⟨Nat.le_refl 1, Nat.le_refl 6, rfl, ?_⟩
                rw [hr]
                exact ⟨Or.inr ⟨rfl, rfl⟩, Ca.of hR hc⟩
              · iterate 3 refine px_go hX ?_
                refine ⟨_, _, h0, rfl, ?_⟩
                refine px_go hX ?_
                refine ⟨fun (c7 : cs_hgt σ x y < nI (cs_ti σ)) => ?_, fun (c7 : ¬ cs_hgt σ x y < nI (cs_ti σ)) => ?_⟩
                · have hlt : cs_n σ < 16 := by
                    rcases Nat.lt_or_ge (cs_n σ) 16 with h | h
                    · exact h
                    · exact absurd (nI_le h (by omega) : nI 16 ≤ nI (cs_n σ)) c5
                  iterate 2 refine px_go hX ?_
                  refine ⟨_, _, h0, rfl, ?_⟩
                  iterate 3 refine px_go hX ?_
                  refine ⟨_, _, h0, rfl, ?_⟩
                  iterate 2 refine px_go hX ?_
                  refine ⟨Nat.le_of_ble_eq_true rfl, Nat.le_of_ble_eq_true rfl, fun q1 hq1n hq1b => ?_⟩
                  iterate 6 refine px_go hX ?_
                  refine ⟨0, 0, _, Nat.le_of_ble_eq_true rfl, Nat.le_of_ble_eq_true rfl, Nat.le_of_ble_eq_true rfl, cc_Box_init (px_up_s _ _ _) _ _ _ _, ?_⟩
                  rintro _ C ⟨rfl, rfl⟩
                  rw [px_up_up]
                  refine px_go hX ?_
                  refine ⟨_, _, _, _, ((px_up_n _ _ (px_nq h2 hq1n)).trans h2), ⟨Nat.le_of_ble_eq_true rfl, Nat.le_of_ble_eq_true rfl⟩, vp_in_nI hlt (by omega), (px_up_s _ _ _), ?_⟩
                  rw [nI_clamp (by omega)]
                  iterate 3 refine px_go hX ?_
                  refine ⟨_, _, ((px_up_n _ _ (hR.ne hc.1.1 hc.1.2.2.1 (by omega))).trans ((px_up_n _ _ (px_nq h0 hq1n)).trans h0)), rfl, ?_⟩
                  iterate 3 refine px_go hX ?_
                  refine ⟨_, ((px_up_n _ _ (hR.ne hc.1.1 hc.1.2.2.1 (by omega))).trans ((px_up_n _ _ (px_nq h0 hq1n)).trans h0)), Nat.le_of_ble_eq_true rfl, rfl, rfl, ?_⟩
                  have hR1 := ((hR.new (hc.2.2.2.2.1 _ (Nat.le_refl _) hlt) hq1n (px_o 2 [.int z, .int x, .int y, .int (cs_hgt σ x y), .int 0])).put (i := 2) ((rp_up_n _ _ (by omega)).trans hc.1.2.2.1) (px_r 4 16 (va_up (fun j => if j < cs_n σ then some (ad (40 + j)) else none) (cs_n σ) (some q1)))).put (i := 0) ((rp_up_n _ _ (by omega)).trans ((rp_up_n _ _ (by omega)).trans hc.1.1)) (px_o 0 [.int (nI (cs_ti σ)), .ref (ad 1), .ref (ad 2), .ref (ad 3), .int (nI (cs_n σ + 1)), .int (cs_mw σ), .int (cs_lg σ)])
                  rw [show va_up ad (40 + cs_n σ) q1 2 = ad 2 from va_up_ne _ _ (by omega), show va_up ad (40 + cs_n σ) q1 0 = ad 0 from va_up_ne _ _ (by omega), nI_succ] at hR1
                  have hc1 := hc.new hlt (fun q => match q with | 0 => z | 1 => x | 2 => y | 3 => cs_hgt σ x y | _ => 0) q1
                  rw [nI_succ] at hc1
                  iterate 2 refine px_go hX ?_
                  refine ⟨_, ((px_up_n _ _ (hR.ne (hc.2.2.1 b hb).1 hc.1.1 (by omega))).trans ((px_up_n _ _ (hR.ne (hc.2.2.1 b hb).1 hc.1.2.2.1 (by omega))).trans ((px_up_n _ _ (px_nq (hR.1 _ _ (hc.2.2.1 b hb).1) hq1n)).trans (hR.1 _ _ (hc.2.2.1 b hb).1)))), 0, 0, _, Nat.le_of_ble_eq_true rfl, Nat.le_of_ble_eq_true rfl, Nat.le_of_ble_eq_true rfl, (by rw [← show va_up ad (40 + cs_n σ) q1 (20 + 4 * b) = ad (20 + 4 * b) from va_up_ne _ _ (by omega)]; exact cc_forgetPlan hR1 hc1 hb), ?_⟩
                  rintro _ C ⟨rfl, K2, hR2, hc2, hK2⟩
                  iterate 2 refine px_go hX ?_
                  have hr : of_box σ x y z = (0, nI (cs_n σ), cs_fp (cs_nw σ (fun q => match q with | 0 => z | 1 => x | 2 => y | 3 => cs_hgt σ x y | _ => 0)) b) := by
                    unfold of_box
                    rw [show cs_bq σ x = some b from by rw [hx]; exact cs_bq_s hc hb]
                    exact (if_neg (fun q => q.elim c1 (fun q => q.elim c2 (fun q => q.elim c3 (fun q => q c4))))).trans (if_neg (fun q => q.elim c5 (fun q => q.elim c6 (fun q => q c7))))
                  rw [hr]
                  exact ⟨rfl, rfl, ⟨_, K2, hR2, hc2, fun i hi => ⟨(hK2 i hi).trans (by rw [rp_up_n _ _ (by omega), rp_up_n _ _ (by omega), rp_up_n _ _ (by omega)]), va_up_ne _ _ (by omega)⟩, va_up_ne _ _ (by omega)⟩⟩
                · refine px_go hX ?_
                  have hr : of_box σ x y z = (2, 0, σ) := by
                    unfold of_box
                    rw [show cs_bq σ x = some b from by rw [hx]; exact cs_bq_s hc hb]
                    exact (if_neg (fun q => q.elim c1 (fun q => q.elim c2 (fun q => q.elim c3 (fun q => q c4))))).trans (if_pos (Or.inr (Or.inr c7)))
                  refine ⟨Nat.le_refl 1, Nat.le_refl 6, rfl, ?_⟩
                  rw [hr]
                  exact ⟨Or.inr ⟨rfl, rfl⟩, Ca.of hR hc⟩
          · refine px_go hX ?_
            have hr : of_box σ x y z = (1, 0, σ) := by
              unfold of_box
              rw [show cs_bq σ x = some b from by rw [hx]; exact cs_bq_s hc hb]
              exact if_pos (Or.inr (Or.inr (Or.inr c4)))
            refine ⟨Nat.le_refl 1, Nat.le_refl 6, rfl, ?_⟩
            rw [hr]
            exact ⟨Or.inl ⟨rfl, rfl⟩, Ca.of hR hc⟩
  · iterate 4 refine px_go hX ?_
    have hr : of_box σ x y z = (1, 0, σ) := by
      unfold of_box
      rw [cs_bq_n hx]
    refine ⟨Nat.le_refl 1, Nat.le_refl 6, rfl, ?_⟩
    rw [hr]
    exact ⟨Or.inl ⟨rfl, rfl⟩, Ca.of hR hc⟩
end TA
theorem Cl.fr {ad : Nat → Nat} {σ : ck_S} {K K' : rp_K} (h : Cl ad σ K) (hK : ∀ i, i < 100 → K' i = K i) : Cl ad σ K' := by
  obtain ⟨⟨a0, a1, a2, a3⟩, ⟨b4, b5, b6, b7, b8, b9, b10, b11⟩, hy, hx, hn, q1, q2, q3, q4, q5⟩ := h
  refine ⟨⟨?_, ?_, ?_, ?_⟩, ⟨?_, ?_, ?_, ?_, ?_, ?_, ?_, ?_⟩, fun c hc => ?_, fun j hj => ?_, fun j hj hj2 => ?_, q1, q2, q3, q4, q5⟩
  iterate 12 (first | (rw [hK _ (by omega)]; assumption))
  · obtain ⟨y0, y1, y2, y3⟩ := hy c hc
    exact ⟨by rw [hK _ (by omega)]; exact y0, by rw [hK _ (by omega)]; exact y1, by rw [hK _ (by omega)]; exact y2, by rw [hK _ (by omega)]; exact y3⟩
  · rw [hK _ (by omega)]
    exact hx j hj
  · rw [hK _ (by omega)]
    exact hn j hj hj2
theorem Rl.fr {ad ad' : Nat → Nat} {ρ : rs_S} {K K' : rp_K} (h : Rl ad ρ K) (hK : ∀ i, 100 ≤ i → i < 118 → K' i = K i ∧ ad' i = ad i) : Rl ad' ρ K' := by
  refine ⟨?_, fun q h1 h2 h3 => by rw [(hK _ (by omega) (by omega)).1]; exact h.2.1 q h1 h2 h3, by rw [(hK _ (by omega) (by omega)).1]; exact h.2.2⟩
  rw [(hK 100 (by omega) (by omega)).1, h.1]
  show some (rr_o ad ρ.1 (rs_sc ρ)) = some (rr_o ad' ρ.1 (rs_sc ρ))
  unfold rr_o
  rw [(hK 101 (by omega) (by omega)).2, (hK 102 (by omega) (by omega)).2, (hK 103 (by omega) (by omega)).2, (hK 104 (by omega) (by omega)).2, (hK 105 (by omega) (by omega)).2, (hK 106 (by omega) (by omega)).2, (hK 107 (by omega) (by omega)).2, (hK 108 (by omega) (by omega)).2, (hK 109 (by omega) (by omega)).2, (hK 110 (by omega) (by omega)).2, (hK 111 (by omega) (by omega)).2, (hK 112 (by omega) (by omega)).2, (hK 113 (by omega) (by omega)).2, (hK 114 (by omega) (by omega)).2, (hK 115 (by omega) (by omega)).2, (hK 116 (by omega) (by omega)).2, (hK 117 (by omega) (by omega)).2]
/-- behind a call of the class by the law: what it answered stands in the law's long -/
def Cv (ad : Nat → Nat) (σ : ck_S) (K : rp_K) (C : px_P) (g : Nat → Int64) : Prop := ∃ ad' K', Rp ad' K' C ∧ Cl ad' σ K' ∧ (∀ i, 100 ≤ i → i ≠ 200 → K' i = K i) ∧ (∀ i, 100 ≤ i → ad' i = ad i) ∧ ad' 0 = ad 0 ∧ K' 200 = some (px_j 1 g)
theorem Cv.of {ad : Nat → Nat} {σ : ck_S} {K : rp_K} {C : px_P} {g : Nat → Int64} (h : Ca ad σ K C) (hO : K 200 = some (px_j 1 g)) : Cv ad σ K C g := by
  obtain ⟨ad', K', h1, h2, h3, h4⟩ := h
  exact ⟨ad', K', h1, h2, fun i hi _ => (h3 i hi).1, fun i hi => (h3 i hi).2, h4, (h3 200 (by omega)).1.trans hO⟩
theorem Cv.put {ad : Nat → Nat} {σ : ck_S} {K : rp_K} {C : px_P} {g : Nat → Int64} (h : Ca ad σ K C) (hO : K 200 = some (px_j 1 g)) (g' : Nat → Int64) : Cv ad σ K (px_up C (ad 200) (px_j 1 g')) g' := by
  obtain ⟨ad', K', h1, h2, h3, h4⟩ := h
  have hk := (h3 200 (by omega)).1.trans hO
  refine ⟨ad', rp_up K' 200 (px_j 1 g'), ?_, h2.fr (fun i hi => rp_up_n _ _ (by omega)), fun i hi h2 => (rp_up_n _ _ h2).trans (h3 i hi).1, fun i hi => (h3 i hi).2, h4, rp_up_s _ _ _⟩
  have := h1.put hk (px_j 1 g')
  rwa [(h3 200 (by omega)).2] at this
theorem Ca.o {ad : Nat → Nat} {σ : ck_S} {K : rp_K} {C : px_P} {g : Nat → Int64} (h : Ca ad σ K C) (hO : K 200 = some (px_j 1 g)) : C (ad 200) = some (px_j 1 g) := by
  obtain ⟨ad', K', h1, h2, h3, h4⟩ := h
  have := h1.1 200 _ ((h3 200 (by omega)).1.trans hO)
  rwa [(h3 200 (by omega)).2] at this
def px_oW (ad : Nat → Nat) (K : rp_K) (r : cs_R) : Option Value → px_P → Prop := fun v C' => v = some (.int (nI r.1)) ∧ ∃ g, Cv ad r.2.2 K C' g ∧ (r.1 = 0 → g 0 = r.2.1.toInt64)
theorem of_dual_2 (σ : ck_S) (x : Int32) : ¬ (of_dual σ x).1 = 2 := by
  unfold of_dual
  split <;> (intro h; cases h)
theorem of_least_2 (σ : ck_S) (x : Int32) : ¬ (of_least σ x).1 = 2 := by
  unfold of_least
  split <;> (intro h; cases h)
theorem of_swap_2 (σ : ck_S) (x y : Int32) : ¬ (of_swap σ x y).1 = 2 := by
  unfold of_swap
  split
  · split <;> (intro h; cases h)
  · intro h; cases h
section TB
variable {B : Nat} {sc : Option (Nat × Nat × (Nat → Int32))} {d : Nat} {ad : Nat → Nat} {σ : ck_S} {K : rp_K} {C : px_P}
theorem ww_box (hR : Rp ad K C) (hc : Cl ad σ K) {g : Nat → Int64} (hO : K 200 = some (px_j 1 g)) (x y z : Int32) : px_W ps_Y ps_P B sc (d + 4) 52 [.ref (ad 0), .int x, .int y, .int z, .ref (ad 200)] C 1 6 (px_oW ad K (of_box σ x y z)) px_no := by
  refine ⟨pm_Law_box, rfl, Nat.le_of_ble_eq_true rfl, fun X hw hX => ?_⟩
  iterate 7 refine px_go hX ?_
  refine ⟨_, hR.1 0 _ hc.1.1, 1, 6, _, _, Nat.le_of_ble_eq_true rfl, Nat.le_of_ble_eq_true rfl, Nat.le_of_ble_eq_true rfl, ce_box hR hc x y z, ?_, ?_⟩
  · rintro v C1 ⟨h0, rfl, hA⟩
    iterate 2 refine px_go hX ?_
    refine ⟨_, _, hA.o hO, (vp_in_nI (n := 0) (by omega) (by omega)), ?_⟩
    iterate 3 refine px_go hX ?_
    refine ⟨by rw [h0]; rfl, _, Cv.put hA hO _, fun _ => ?_⟩
    exact pk_uLs
  · intro kd C1 q hT
    obtain ⟨⟨rfl, h1⟩ | ⟨rfl, h1⟩, hA⟩ := hT
    · iterate 3 refine px_go hX ?_
      exact ⟨by rw [h1]; rfl, g, Cv.of hA hO, fun w => absurd (h1.symm.trans w) (by decide)⟩
    · iterate 3 refine px_go hX ?_
      exact ⟨by rw [h1]; rfl, g, Cv.of hA hO, fun w => absurd (h1.symm.trans w) (by decide)⟩
theorem ww_dual (hR : Rp ad K C) (hc : Cl ad σ K) {g : Nat → Int64} (hO : K 200 = some (px_j 1 g)) (hpl : cs_pl σ) (x : Int32) : px_W ps_Y ps_P B sc (d + 4) 54 [.ref (ad 0), .int x, .ref (ad 200)] C 1 6 (px_oW ad K (of_dual σ x)) px_no := by
  refine ⟨pm_Law_dual, rfl, Nat.le_of_ble_eq_true rfl, fun X hw hX => ?_⟩
  iterate 5 refine px_go hX ?_
  refine ⟨_, hR.1 0 _ hc.1.1, 1, 6, _, _, Nat.le_of_ble_eq_true rfl, Nat.le_of_ble_eq_true rfl, Nat.le_of_ble_eq_true rfl, ce_dual hR hc hpl x, ?_, ?_⟩
  · rintro v C1 ⟨h0, rfl, hA⟩
    iterate 2 refine px_go hX ?_
    refine ⟨_, _, hA.o hO, (vp_in_nI (n := 0) (by omega) (by omega)), ?_⟩
    iterate 3 refine px_go hX ?_
    refine ⟨by rw [h0]; rfl, _, Cv.put hA hO _, fun _ => ?_⟩
    exact pk_uLs
  · intro kd C1 q hT
    obtain ⟨⟨rfl, h1⟩ | ⟨rfl, h1⟩, hA⟩ := hT
    · iterate 3 refine px_go hX ?_
      exact ⟨by rw [h1]; rfl, g, Cv.of hA hO, fun w => absurd (h1.symm.trans w) (by decide)⟩
    · exact absurd h1 (of_dual_2 σ x)
theorem ww_move (hR : Rp ad K C) (hc : Cl ad σ K) {g : Nat → Int64} (hO : K 200 = some (px_j 1 g)) (x y z : Int32) : px_W ps_Y ps_P B sc (d + 3) 80 [.ref (ad 0), .int x, .int y, .int z, .ref (ad 200)] C 1 6 (px_oW ad K (of_move σ x y z)) px_no := by
  refine ⟨pm_Law_move, rfl, Nat.le_of_ble_eq_true rfl, fun X hw hX => ?_⟩
  iterate 7 refine px_go hX ?_
  refine ⟨_, hR.1 0 _ hc.1.1, 1, 6, _, _, Nat.le_of_ble_eq_true rfl, Nat.le_of_ble_eq_true rfl, Nat.le_of_ble_eq_true rfl, ce_move hR hc x y z, ?_, ?_⟩
  · rintro v C1 ⟨h0, rfl, hA⟩
    iterate 2 refine px_go hX ?_
    refine ⟨_, _, hA.o hO, (vp_in_nI (n := 0) (by omega) (by omega)), ?_⟩
    iterate 3 refine px_go hX ?_
    refine ⟨by rw [h0]; rfl, _, Cv.put hA hO _, fun _ => ?_⟩
    exact pk_uLs
  · intro kd C1 q hT
    obtain ⟨⟨rfl, h1⟩, hA⟩ := hT
    iterate 3 refine px_go hX ?_
    exact ⟨by rw [h1]; rfl, g, Cv.of hA hO, fun w => absurd (h1.symm.trans w) (by decide)⟩
theorem ww_work (hR : Rp ad K C) (hc : Cl ad σ K) {g : Nat → Int64} (hO : K 200 = some (px_j 1 g)) (x : Int32) : px_W ps_Y ps_P B sc (d + 4) 82 [.ref (ad 0), .int x, .ref (ad 200)] C 1 6 (px_oW ad K (of_work σ x)) px_no := by
  refine ⟨pm_Law_work, rfl, Nat.le_of_ble_eq_true rfl, fun X hw hX => ?_⟩
  iterate 5 refine px_go hX ?_
  refine ⟨_, hR.1 0 _ hc.1.1, 1, 6, _, _, Nat.le_of_ble_eq_true rfl, Nat.le_of_ble_eq_true rfl, Nat.le_of_ble_eq_true rfl, ce_work hR hc x, ?_, ?_⟩
  · rintro v C1 ⟨h0, rfl, hA⟩
    iterate 2 refine px_go hX ?_
    refine ⟨_, _, hA.o hO, (vp_in_nI (n := 0) (by omega) (by omega)), ?_⟩
    iterate 3 refine px_go hX ?_
    refine ⟨by rw [h0]; rfl, _, Cv.put hA hO _, fun _ => ?_⟩
    exact pk_uLs
  · intro kd C1 q hT
    obtain ⟨⟨rfl, h1⟩ | ⟨rfl, h1⟩, hA⟩ := hT
    · iterate 3 refine px_go hX ?_
      exact ⟨by rw [h1]; rfl, g, Cv.of hA hO, fun w => absurd (h1.symm.trans w) (by decide)⟩
    · iterate 3 refine px_go hX ?_
      exact ⟨by rw [h1]; rfl, g, Cv.of hA hO, fun w => absurd (h1.symm.trans w) (by decide)⟩
theorem ww_least (hR : Rp ad K C) (hc : Cl ad σ K) {g : Nat → Int64} (hO : K 200 = some (px_j 1 g)) (x : Int32) : px_W ps_Y ps_P B sc (d + 4) 84 [.ref (ad 0), .int x, .ref (ad 200)] C 1 6 (px_oW ad K (of_least σ x)) px_no := by
  refine ⟨pm_Law_least, rfl, Nat.le_of_ble_eq_true rfl, fun X hw hX => ?_⟩
  iterate 5 refine px_go hX ?_
  refine ⟨_, hR.1 0 _ hc.1.1, 1, 6, _, _, Nat.le_of_ble_eq_true rfl, Nat.le_of_ble_eq_true rfl, Nat.le_of_ble_eq_true rfl, ce_least hR hc x, ?_, ?_⟩
  · rintro v C1 ⟨h0, rfl, hA⟩
    iterate 2 refine px_go hX ?_
    refine ⟨_, _, hA.o hO, (vp_in_nI (n := 0) (by omega) (by omega)), ?_⟩
    iterate 3 refine px_go hX ?_
    refine ⟨by rw [h0]; rfl, _, Cv.put hA hO _, fun _ => ?_⟩
    exact pk_uLs
  · intro kd C1 q hT
    obtain ⟨⟨rfl, h1⟩ | ⟨rfl, h1⟩, hA⟩ := hT
    · iterate 3 refine px_go hX ?_
      exact ⟨by rw [h1]; rfl, g, Cv.of hA hO, fun w => absurd (h1.symm.trans w) (by decide)⟩
    · exact absurd h1 (of_least_2 σ x)
theorem ww_loads (hR : Rp ad K C) (hc : Cl ad σ K) {g : Nat → Int64} (hO : K 200 = some (px_j 1 g)) (x y : Int32) : px_W ps_Y ps_P B sc (d + 3) 87 [.ref (ad 0), .int x, .int y, .ref (ad 200)] C 1 6 (px_oW ad K (of_loads σ x y)) px_no := by
  refine ⟨pm_Law_loads, rfl, Nat.le_of_ble_eq_true rfl, fun X hw hX => ?_⟩
  iterate 6 refine px_go hX ?_
  refine ⟨_, hR.1 0 _ hc.1.1, 1, 6, _, _, Nat.le_of_ble_eq_true rfl, Nat.le_of_ble_eq_true rfl, Nat.le_of_ble_eq_true rfl, ce_loads hR hc x y, ?_, ?_⟩
  · rintro v C1 ⟨h0, rfl, hA⟩
    iterate 2 refine px_go hX ?_
    refine ⟨_, _, hA.o hO, (vp_in_nI (n := 0) (by omega) (by omega)), ?_⟩
    iterate 3 refine px_go hX ?_
    refine ⟨by rw [h0]; rfl, _, Cv.put hA hO _, fun _ => ?_⟩
    exact pk_uLs
  · intro kd C1 q hT
    obtain ⟨⟨rfl, h1⟩ | ⟨rfl, h1⟩, hA⟩ := hT
    · iterate 3 refine px_go hX ?_
      exact ⟨by rw [h1]; rfl, g, Cv.of hA hO, fun w => absurd (h1.symm.trans w) (by decide)⟩
    · iterate 3 refine px_go hX ?_
      exact ⟨by rw [h1]; rfl, g, Cv.of hA hO, fun w => absurd (h1.symm.trans w) (by decide)⟩
theorem ww_swap (hR : Rp ad K C) (hc : Cl ad σ K) {g : Nat → Int64} (hO : K 200 = some (px_j 1 g)) (hB : cs_inb σ) (x y : Int32) : px_W ps_Y ps_P B sc (d + 4) 90 [.ref (ad 0), .int x, .int y, .ref (ad 200)] C 1 6 (px_oW ad K (of_swap σ x y)) px_no := by
  refine ⟨pm_Law_swap, rfl, Nat.le_of_ble_eq_true rfl, fun X hw hX => ?_⟩
  iterate 6 refine px_go hX ?_
  refine ⟨_, hR.1 0 _ hc.1.1, 1, 6, _, _, Nat.le_of_ble_eq_true rfl, Nat.le_of_ble_eq_true rfl, Nat.le_of_ble_eq_true rfl, ce_swap hR hc hB x y, ?_, ?_⟩
  · rintro v C1 ⟨h0, rfl, hA⟩
    iterate 2 refine px_go hX ?_
    refine ⟨_, _, hA.o hO, (vp_in_nI (n := 0) (by omega) (by omega)), ?_⟩
    iterate 3 refine px_go hX ?_
    refine ⟨by rw [h0]; rfl, _, Cv.put hA hO _, fun _ => ?_⟩
    exact pk_uLs
  · intro kd C1 q hT
    obtain ⟨⟨rfl, h1⟩ | ⟨rfl, h1⟩, hA⟩ := hT
    · iterate 3 refine px_go hX ?_
      exact ⟨by rw [h1]; rfl, g, Cv.of hA hO, fun w => absurd (h1.symm.trans w) (by decide)⟩
    · exact absurd h1 (of_swap_2 σ x y)
theorem ww_look (hR : Rp ad K C) (hc : Cl ad σ K) {g : Nat → Int64} (hO : K 200 = some (px_j 1 g)) (x y : Int32) : px_W ps_Y ps_P B sc (d + 3) 93 [.ref (ad 0), .int x, .int y, .ref (ad 200)] C 1 6 (px_oW ad K (of_look σ x y)) px_no := by
  refine ⟨pm_Law_look, rfl, Nat.le_of_ble_eq_true rfl, fun X hw hX => ?_⟩
  iterate 6 refine px_go hX ?_
  refine ⟨_, hR.1 0 _ hc.1.1, 1, 6, _, _, Nat.le_of_ble_eq_true rfl, Nat.le_of_ble_eq_true rfl, Nat.le_of_ble_eq_true rfl, ce_look hR hc x y, ?_, ?_⟩
  · rintro v C1 ⟨h0, rfl, hA⟩
    iterate 2 refine px_go hX ?_
    refine ⟨_, _, hA.o hO, (vp_in_nI (n := 0) (by omega) (by omega)), ?_⟩
    iterate 3 refine px_go hX ?_
    refine ⟨by rw [h0]; rfl, _, Cv.put hA hO _, fun _ => ?_⟩
    exact pk_uLs
  · intro kd C1 q hT
    obtain ⟨⟨rfl, h1⟩, hA⟩ := hT
    iterate 3 refine px_go hX ?_
    exact ⟨by rw [h1]; rfl, g, Cv.of hA hO, fun w => absurd (h1.symm.trans w) (by decide)⟩
end TB
