/-! The reference: least, dual, move, count. -/
section SC
variable {B : Nat} {sc : Option (Nat × Nat × (Nat → Int32))} {d : Nat} {ad : Nat → Nat} {σ : ck_S} {ρ : rs_S} {K : rp_K} {C : px_P}
theorem rr_isAbove (hR : Rp ad K C) (hr : Rl ad ρ K) (hs : Sim σ ρ) (hn : cs_n σ ≤ 16) {j : Nat} (hj : j < cs_n σ) : px_W ps_Y ps_P B sc (d + 1) 85 [.ref (ad 100), .int (nI j)] C 0 0 (px_bo (cs_abv σ j) C) px_no := by
  obtain ⟨p, fs, fa, fw⟩ := ρ
  obtain rfl : p = σ.1 := hs.1.1
  have hA1 : C (ad 101) = some (px_i 16 (fa 1)) := hR.1 101 _ (hr.2.1 1 (by decide) (by decide) (by decide))
  have hA2 : C (ad 102) = some (px_i 16 (fa 2)) := hR.1 102 _ (hr.2.1 2 (by decide) (by decide) (by decide))
  have hA3 : C (ad 103) = some (px_i 16 (fa 3)) := hR.1 103 _ (hr.2.1 3 (by decide) (by decide) (by decide))
  have hA4 : C (ad 104) = some (px_i 16 (fa 4)) := hR.1 104 _ (hr.2.1 4 (by decide) (by decide) (by decide))
  refine ⟨pm_Ref_isAbove, rfl, Nat.le_of_ble_eq_true rfl, fun X hw hX => ?_⟩
  have loop : ∀ kk i (fl : Int32), i + kk = cs_n σ → ((fl = 1 ∧ ∃ q, q < i ∧ (cs_bf σ q 0 = 0 ∧ (cs_bf σ q 1 = cs_bf σ j 1 ∧ cs_bf σ q 2 = cs_bf σ j 2 ∧ ¬ cs_bf σ j 3 ≤ cs_bf σ q 3))) ∨ (fl = 0 ∧ ∀ q, q < i → ¬ (cs_bf σ q 0 = 0 ∧ (cs_bf σ q 1 = cs_bf σ j 1 ∧ cs_bf σ q 2 = cs_bf σ j 2 ∧ ¬ cs_bf σ j 3 ≤ cs_bf σ q 3)))) → X (4, [(0, .ref (ad 100)), (1, .int (nI j)), (2, .int (fl)), (3, .int (nI i))], [], C, 0, 0) := by
    intro kk
    induction kk with
    | zero =>
      intro i fl hi hfl
      have hlt : i = cs_n σ := hi
      iterate 3 refine px_go hX ?_
      refine ⟨_, _, (hR.1 100 _ hr.1), rfl, ?_⟩
      refine px_go hX ?_
      refine ⟨fun (c1 : nI (cs_n σ) ≤ nI i) => ?_, fun (c1 : ¬ nI (cs_n σ) ≤ nI i) => absurd (nI_le (by omega) (by omega)) c1⟩
      iterate 2 refine px_go hX ?_
      refine ⟨fun (c2 : fl = 0) => ?_, fun (c2 : ¬ fl = 0) => ?_⟩
      · iterate 2 refine px_go hX ?_
        rw [hlt] at hfl
        exact ⟨Or.inl rfl, rfl, Or.inr ⟨fun ⟨_, q, hq, hq2⟩ => hfl.elim (fun ⟨h, _⟩ => absurd (h.symm.trans c2) (by decide)) (fun ⟨_, h⟩ => h q hq hq2), rfl⟩⟩
      · iterate 2 refine px_go hX ?_
        refine ⟨_, _, (hR.1 100 _ hr.1), rfl, ?_⟩
        iterate 2 refine px_go hX ?_
        refine ⟨_, _, hA3, (vp_in_nI (by omega) (by omega)), ?_⟩
        rw [nI_clamp (by omega), show fa 3 j = cs_bf σ j 2 from (hs.2.1 j hj).2.2.1]
        iterate 2 refine px_go hX ?_
        refine ⟨fun (c3 : (3 : Int32) ≤ cs_bf σ j 2) => ?_, fun (c3 : ¬ (3 : Int32) ≤ cs_bf σ j 2) => ?_⟩
        · iterate 2 refine px_go hX ?_
          exact ⟨Or.inl rfl, rfl, Or.inr ⟨fun q => q.1 c3, rfl⟩⟩
        · iterate 3 refine px_go hX ?_
          rw [hlt] at hfl
          exact ⟨Or.inr rfl, rfl, Or.inl ⟨⟨c3, hfl.elim (fun ⟨_, h⟩ => h) (fun ⟨h, _⟩ => absurd h c2)⟩, rfl⟩⟩
    | succ kk ih =>
      intro i fl hi hfl
      have hlt : i < cs_n σ := by omega
      iterate 3 refine px_go hX ?_
      refine ⟨_, _, (hR.1 100 _ hr.1), rfl, ?_⟩
      refine px_go hX ?_
      refine ⟨fun (c4 : nI (cs_n σ) ≤ nI i) => absurd c4 (nI_ge hlt (by omega)), fun (c4 : ¬ nI (cs_n σ) ≤ nI i) => ?_⟩
      iterate 2 refine px_go hX ?_
      refine ⟨fun (c5 : ¬ fl = 0) => ?_, fun (c5 : fl = 0) => ?_⟩
      · iterate 5 refine px_go hX ?_
        exact px_lw hw [(0, .ref (ad 100)), (1, .int (nI j)), (2, .int ((1 : Int32))), (3, .int (nI (i + 1)))] (ih (i + 1) _ (by omega) (Or.inl ⟨rfl, hfl.elim (fun ⟨_, q, hq, hq2⟩ => ⟨q, by omega, hq2⟩) (fun ⟨h, _⟩ => absurd h c5)⟩)) ⟨rfl, rfl, rfl, (congrArg (fun z => some (Value.int z)) (nI_succ _).symm), trivial⟩
      · iterate 2 refine px_go hX ?_
        refine ⟨_, _, (hR.1 100 _ hr.1), rfl, ?_⟩
        iterate 2 refine px_go hX ?_
        refine ⟨_, _, hA2, (vp_in_nI (by omega) (by omega)), ?_⟩
        rw [nI_clamp (by omega), show fa 2 i = cs_bf σ i 1 from (hs.2.1 i hlt).2.1]
        iterate 2 refine px_go hX ?_
        refine ⟨_, _, (hR.1 100 _ hr.1), rfl, ?_⟩
        iterate 2 refine px_go hX ?_
        refine ⟨_, _, hA2, (vp_in_nI (by omega) (by omega)), ?_⟩
        rw [nI_clamp (by omega), show fa 2 j = cs_bf σ j 1 from (hs.2.1 j hj).2.1]
        refine px_go hX ?_
        refine ⟨fun (c6 : ¬ cs_bf σ i 1 = cs_bf σ j 1) => ?_, fun (c6 : cs_bf σ i 1 = cs_bf σ j 1) => ?_⟩
        · iterate 4 refine px_go hX ?_
          exact px_lw hw [(0, .ref (ad 100)), (1, .int (nI j)), (2, .int ((0 : Int32))), (3, .int (nI (i + 1)))] (ih (i + 1) _ (by omega) (Or.inr ⟨rfl, pn_alls (hfl.elim (fun ⟨h, _⟩ => absurd (h.symm.trans c5) (by decide)) (fun ⟨_, h⟩ => h)) (fun z => c6 z.2.1)⟩)) ⟨rfl, rfl, rfl, (congrArg (fun z => some (Value.int z)) (nI_succ _).symm), trivial⟩
        · iterate 2 refine px_go hX ?_
          refine ⟨_, _, (hR.1 100 _ hr.1), rfl, ?_⟩
          iterate 2 refine px_go hX ?_
          refine ⟨_, _, hA3, (vp_in_nI (by omega) (by omega)), ?_⟩
          rw [nI_clamp (by omega), show fa 3 i = cs_bf σ i 2 from (hs.2.1 i hlt).2.2.1]
          iterate 2 refine px_go hX ?_
          refine ⟨_, _, (hR.1 100 _ hr.1), rfl, ?_⟩
          iterate 2 refine px_go hX ?_
          refine ⟨_, _, hA3, (vp_in_nI (by omega) (by omega)), ?_⟩
          rw [nI_clamp (by omega), show fa 3 j = cs_bf σ j 2 from (hs.2.1 j hj).2.2.1]
          refine px_go hX ?_
          refine ⟨fun (c7 : ¬ cs_bf σ i 2 = cs_bf σ j 2) => ?_, fun (c7 : cs_bf σ i 2 = cs_bf σ j 2) => ?_⟩
          · iterate 4 refine px_go hX ?_
            exact px_lw hw [(0, .ref (ad 100)), (1, .int (nI j)), (2, .int ((0 : Int32))), (3, .int (nI (i + 1)))] (ih (i + 1) _ (by omega) (Or.inr ⟨rfl, pn_alls (hfl.elim (fun ⟨h, _⟩ => absurd (h.symm.trans c5) (by decide)) (fun ⟨_, h⟩ => h)) (fun z => c7 z.2.2.1)⟩)) ⟨rfl, rfl, rfl, (congrArg (fun z => some (Value.int z)) (nI_succ _).symm), trivial⟩
          · iterate 2 refine px_go hX ?_
            refine ⟨_, _, (hR.1 100 _ hr.1), rfl, ?_⟩
            iterate 2 refine px_go hX ?_
            refine ⟨_, _, hA4, (vp_in_nI (by omega) (by omega)), ?_⟩
            rw [nI_clamp (by omega), show fa 4 i = cs_bf σ i 3 from (hs.2.1 i hlt).2.2.2]
            iterate 2 refine px_go hX ?_
            refine ⟨_, _, (hR.1 100 _ hr.1), rfl, ?_⟩
            iterate 2 refine px_go hX ?_
            refine ⟨_, _, hA4, (vp_in_nI (by omega) (by omega)), ?_⟩
            rw [nI_clamp (by omega), show fa 4 j = cs_bf σ j 3 from (hs.2.1 j hj).2.2.2]
            refine px_go hX ?_
            refine ⟨fun (c8 : cs_bf σ j 3 ≤ cs_bf σ i 3) => ?_, fun (c8 : ¬ cs_bf σ j 3 ≤ cs_bf σ i 3) => ?_⟩
            · iterate 4 refine px_go hX ?_
              exact px_lw hw [(0, .ref (ad 100)), (1, .int (nI j)), (2, .int ((0 : Int32))), (3, .int (nI (i + 1)))] (ih (i + 1) _ (by omega) (Or.inr ⟨rfl, pn_alls (hfl.elim (fun ⟨h, _⟩ => absurd (h.symm.trans c5) (by decide)) (fun ⟨_, h⟩ => h)) (fun z => z.2.2.2 c8)⟩)) ⟨rfl, rfl, rfl, (congrArg (fun z => some (Value.int z)) (nI_succ _).symm), trivial⟩
            · iterate 2 refine px_go hX ?_
              refine ⟨_, _, (hR.1 100 _ hr.1), rfl, ?_⟩
              iterate 2 refine px_go hX ?_
              refine ⟨_, _, hA1, (vp_in_nI (by omega) (by omega)), ?_⟩
              rw [nI_clamp (by omega), show fa 1 i = cs_bf σ i 0 from (hs.2.1 i hlt).1]
              refine px_go hX ?_
              refine ⟨fun (c9 : ¬ cs_bf σ i 0 = 0) => ?_, fun (c9 : cs_bf σ i 0 = 0) => ?_⟩
              · iterate 4 refine px_go hX ?_
                exact px_lw hw [(0, .ref (ad 100)), (1, .int (nI j)), (2, .int ((0 : Int32))), (3, .int (nI (i + 1)))] (ih (i + 1) _ (by omega) (Or.inr ⟨rfl, pn_alls (hfl.elim (fun ⟨h, _⟩ => absurd (h.symm.trans c5) (by decide)) (fun ⟨_, h⟩ => h)) (fun z => c9 z.1)⟩)) ⟨rfl, rfl, rfl, (congrArg (fun z => some (Value.int z)) (nI_succ _).symm), trivial⟩
              · iterate 5 refine px_go hX ?_
                exact px_lw hw [(0, .ref (ad 100)), (1, .int (nI j)), (2, .int ((1 : Int32))), (3, .int (nI (i + 1)))] (ih (i + 1) _ (by omega) (Or.inl ⟨rfl, i, Nat.lt_succ_self i, c9, c6, c7, c8⟩)) ⟨rfl, rfl, rfl, (congrArg (fun z => some (Value.int z)) (nI_succ _).symm), trivial⟩
  iterate 4 refine px_go hX ?_
  exact px_lw hw [(0, .ref (ad 100)), (1, .int (nI j)), (2, .int ((0 : Int32))), (3, .int (nI 0))] (loop (cs_n σ - 0) 0 _ (by omega) (Or.inr ⟨rfl, fun q hq => absurd hq (Nat.not_lt_zero q)⟩)) ⟨rfl, rfl, rfl, rfl, trivial⟩
theorem rr_least (hR : Rp ad K C) (hr : Rl ad ρ K) (hs : Sim σ ρ) (hn : cs_n σ ≤ 16) (hnb : cs_nb σ ≤ 4) (x : Int32) : px_W ps_Y ps_P B sc (d + 2) 86 [.ref (ad 100), .int x] C 0 0 (px_oR ad K (of_least σ x)) px_no := by
  obtain ⟨p, fs, fa, fw⟩ := ρ
  obtain rfl : p = σ.1 := hs.1.1
  have hr1q : ∀ b, b < cs_nb σ → x = nI b → of_least σ x = (0, nI (pn_ct (fun j => decide ((cs_bf σ j 1 = x ∧ ¬ cs_bf σ j 2 = 3) ∧ (cs_bf σ j 0 = 0 ∨ cs_abv σ j))) (cs_n σ)), σ) := fun b hb hx => by unfold of_least; rw [show cs_bq σ x = some b from by rw [hx]; exact cs_bq_s2 hnb hb]
  generalize hp : (fun j => decide ((cs_bf σ j 1 = x ∧ ¬ cs_bf σ j 2 = 3) ∧ (cs_bf σ j 0 = 0 ∨ cs_abv σ j))) = p at hr1q
  refine ⟨pm_Ref_least, rfl, Nat.le_of_ble_eq_true rfl, fun X hw hX => ?_⟩
  iterate 3 refine px_go hX ?_
  refine ⟨_, (hR.1 100 _ hr.1), 0, 0, _, Nat.le_of_ble_eq_true rfl, Nat.le_of_ble_eq_true rfl, Nat.le_of_ble_eq_true rfl, rr_isBay hR hr hs _, ?_⟩
  rintro _ C ⟨rfl, ⟨b0, rfl⟩ | ⟨b0, rfl⟩⟩
  · obtain ⟨b, hb, hx⟩ := px_ix2 b0 (by omega)
    refine px_go hX ?_
    refine ⟨fun (c1 : ¬ 1 = 0) => ?_, fun (c1 : 1 = 0) => absurd c1 (by decide)⟩
    iterate 3 refine px_go hX ?_
    refine ⟨_, (hR.1 100 _ hr.1), Nat.le_of_ble_eq_true rfl, rfl, rfl, ?_⟩
    iterate 4 refine px_go hX ?_
    have hR1 := (hR.put (i := 100) hr.1 (px_o 4 [.int ((0 : Int32)), .int (nI (cs_nb σ)), .int (nI (cs_ti σ)), .int (nI (cs_n σ)), .ref (ad 101), .ref (ad 102), .ref (ad 103), .ref (ad 104), .ref (ad 105), .ref (ad 106), .int (fs 1), .int (fs 2), .ref (ad 107), .ref (ad 108), .ref (ad 109), .ref (ad 110), .ref (ad 111), .ref (ad 112), .ref (ad 113), .ref (ad 114), .ref (ad 115), .int (fs 3), .ref (ad 116), .ref (ad 117), .int (fs 4)]))
    have hr1 : Rl ad (rs_th (σ.1, fs, fa, fw) 0) (rp_up (K) (100) (px_o 4 [.int ((0 : Int32)), .int (nI (cs_nb σ)), .int (nI (cs_ti σ)), .int (nI (cs_n σ)), .ref (ad 101), .ref (ad 102), .ref (ad 103), .ref (ad 104), .ref (ad 105), .ref (ad 106), .int (fs 1), .int (fs 2), .ref (ad 107), .ref (ad 108), .ref (ad 109), .ref (ad 110), .ref (ad 111), .ref (ad 112), .ref (ad 113), .ref (ad 114), .ref (ad 115), .int (fs 3), .ref (ad 116), .ref (ad 117), .int (fs 4)])) := hr.sO _ _
    have hK1 : ∀ zz, zz < 100 ∨ 118 ≤ zz → (rp_up (K) (100) (px_o 4 [.int ((0 : Int32)), .int (nI (cs_nb σ)), .int (nI (cs_ti σ)), .int (nI (cs_n σ)), .ref (ad 101), .ref (ad 102), .ref (ad 103), .ref (ad 104), .ref (ad 105), .ref (ad 106), .int (fs 1), .int (fs 2), .ref (ad 107), .ref (ad 108), .ref (ad 109), .ref (ad 110), .ref (ad 111), .ref (ad 112), .ref (ad 113), .ref (ad 114), .ref (ad 115), .int (fs 3), .ref (ad 116), .ref (ad 117), .int (fs 4)])) zz = (K) zz := fun zz hzz => by rw [rp_up_n _ _ (by omega)]
    have hs1 : Sim σ (rs_th (σ.1, fs, fa, fw) 0) := hs
    have hA1 : (px_up C (ad 100) (px_o 4 [.int ((0 : Int32)), .int (nI (cs_nb σ)), .int (nI (cs_ti σ)), .int (nI (cs_n σ)), .ref (ad 101), .ref (ad 102), .ref (ad 103), .ref (ad 104), .ref (ad 105), .ref (ad 106), .int (fs 1), .int (fs 2), .ref (ad 107), .ref (ad 108), .ref (ad 109), .ref (ad 110), .ref (ad 111), .ref (ad 112), .ref (ad 113), .ref (ad 114), .ref (ad 115), .int (fs 3), .ref (ad 116), .ref (ad 117), .int (fs 4)])) (ad 101) = some (px_i 16 (fa 1)) := hR1.1 101 _ (hr1.2.1 1 (by decide) (by decide) (by decide))
    have hA2 : (px_up C (ad 100) (px_o 4 [.int ((0 : Int32)), .int (nI (cs_nb σ)), .int (nI (cs_ti σ)), .int (nI (cs_n σ)), .ref (ad 101), .ref (ad 102), .ref (ad 103), .ref (ad 104), .ref (ad 105), .ref (ad 106), .int (fs 1), .int (fs 2), .ref (ad 107), .ref (ad 108), .ref (ad 109), .ref (ad 110), .ref (ad 111), .ref (ad 112), .ref (ad 113), .ref (ad 114), .ref (ad 115), .int (fs 3), .ref (ad 116), .ref (ad 117), .int (fs 4)])) (ad 102) = some (px_i 16 (fa 2)) := hR1.1 102 _ (hr1.2.1 2 (by decide) (by decide) (by decide))
    have hA3 : (px_up C (ad 100) (px_o 4 [.int ((0 : Int32)), .int (nI (cs_nb σ)), .int (nI (cs_ti σ)), .int (nI (cs_n σ)), .ref (ad 101), .ref (ad 102), .ref (ad 103), .ref (ad 104), .ref (ad 105), .ref (ad 106), .int (fs 1), .int (fs 2), .ref (ad 107), .ref (ad 108), .ref (ad 109), .ref (ad 110), .ref (ad 111), .ref (ad 112), .ref (ad 113), .ref (ad 114), .ref (ad 115), .int (fs 3), .ref (ad 116), .ref (ad 117), .int (fs 4)])) (ad 103) = some (px_i 16 (fa 3)) := hR1.1 103 _ (hr1.2.1 3 (by decide) (by decide) (by decide))
    have loop : ∀ kk i, i + kk = cs_n σ → X (23, [(0, .ref (ad 100)), (1, .int (x)), (2, .int (nI (pn_ct p i))), (3, .int (nI i))], [], px_up C (ad 100) (px_o 4 [.int ((0 : Int32)), .int (nI (cs_nb σ)), .int (nI (cs_ti σ)), .int (nI (cs_n σ)), .ref (ad 101), .ref (ad 102), .ref (ad 103), .ref (ad 104), .ref (ad 105), .ref (ad 106), .int (fs 1), .int (fs 2), .ref (ad 107), .ref (ad 108), .ref (ad 109), .ref (ad 110), .ref (ad 111), .ref (ad 112), .ref (ad 113), .ref (ad 114), .ref (ad 115), .int (fs 3), .ref (ad 116), .ref (ad 117), .int (fs 4)]), 0, 0) := by
      intro kk
      induction kk with
      | zero =>
        intro i hi
        have hlt : i = cs_n σ := hi
        iterate 3 refine px_go hX ?_
        refine ⟨_, _, (hR1.1 100 _ hr1.1), rfl, ?_⟩
        refine px_go hX ?_
        refine ⟨fun (c2 : nI (cs_n σ) ≤ nI i) => ?_, fun (c2 : ¬ nI (cs_n σ) ≤ nI i) => absurd (nI_le (by omega) (by omega)) c2⟩
        iterate 2 refine px_go hX ?_
        rw [hlt, hr1q b hb hx]
        exact ⟨_, _, ⟨_, hR1, hr1, hK1⟩, hs, rfl, rfl, fun _ => rfl⟩
      | succ kk ih =>
        intro i hi
        have hlt : i < cs_n σ := by omega
        iterate 3 refine px_go hX ?_
        refine ⟨_, _, (hR1.1 100 _ hr1.1), rfl, ?_⟩
        refine px_go hX ?_
        refine ⟨fun (c3 : nI (cs_n σ) ≤ nI i) => absurd c3 (nI_ge hlt (by omega)), fun (c3 : ¬ nI (cs_n σ) ≤ nI i) => ?_⟩
        iterate 2 refine px_go hX ?_
        refine ⟨_, _, (hR1.1 100 _ hr1.1), rfl, ?_⟩
        iterate 2 refine px_go hX ?_
        refine ⟨_, _, hA2, (vp_in_nI (by omega) (by omega)), ?_⟩
        rw [nI_clamp (by omega), show fa 2 i = cs_bf σ i 1 from (hs.2.1 i hlt).2.1]
        iterate 2 refine px_go hX ?_
        refine ⟨fun (c4 : ¬ cs_bf σ i 1 = x) => ?_, fun (c4 : cs_bf σ i 1 = x) => ?_⟩
        · iterate 5 refine px_go hX ?_
          refine ⟨fun (c5 : (0 : Int32) = 0) => ?_, fun (c5 : ¬ (0 : Int32) = 0) => absurd rfl c5⟩
          iterate 5 refine px_go hX ?_
          exact px_lw hw [(0, .ref (ad 100)), (1, .int (x)), (2, .int (nI (pn_ct p (i + 1)))), (3, .int (nI (i + 1)))] (ih (i + 1) (by omega)) ⟨rfl, rfl, (congrArg (fun z => some (Value.int z)) (by rw [pn_ct_f (by rw [← hp]; exact decide_eq_false (fun z => c4 z.1.1))]; exact Int32.add_zero _)), (congrArg (fun z => some (Value.int z)) (nI_succ _).symm), trivial⟩
        · iterate 2 refine px_go hX ?_
          refine ⟨_, _, (hR1.1 100 _ hr1.1), rfl, ?_⟩
          iterate 2 refine px_go hX ?_
          refine ⟨_, _, hA3, (vp_in_nI (by omega) (by omega)), ?_⟩
          rw [nI_clamp (by omega), show fa 3 i = cs_bf σ i 2 from (hs.2.1 i hlt).2.2.1]
          iterate 2 refine px_go hX ?_
          refine ⟨fun (c6 : cs_bf σ i 2 = (3 : Int32)) => ?_, fun (c6 : ¬ cs_bf σ i 2 = (3 : Int32)) => ?_⟩
          · iterate 5 refine px_go hX ?_
            refine ⟨fun (c7 : (0 : Int32) = 0) => ?_, fun (c7 : ¬ (0 : Int32) = 0) => absurd rfl c7⟩
            iterate 5 refine px_go hX ?_
            exact px_lw hw [(0, .ref (ad 100)), (1, .int (x)), (2, .int (nI (pn_ct p (i + 1)))), (3, .int (nI (i + 1)))] (ih (i + 1) (by omega)) ⟨rfl, rfl, (congrArg (fun z => some (Value.int z)) (by rw [pn_ct_f (by rw [← hp]; exact decide_eq_false (fun z => z.1.2 c6))]; exact Int32.add_zero _)), (congrArg (fun z => some (Value.int z)) (nI_succ _).symm), trivial⟩
          · iterate 6 refine px_go hX ?_
            refine ⟨fun (c8 : (1 : Int32) = 0) => absurd c8 (by decide), fun (c8 : ¬ (1 : Int32) = 0) => ?_⟩
            iterate 2 refine px_go hX ?_
            refine ⟨_, _, (hR1.1 100 _ hr1.1), rfl, ?_⟩
            iterate 2 refine px_go hX ?_
            refine ⟨_, _, hA1, (vp_in_nI (by omega) (by omega)), ?_⟩
            rw [nI_clamp (by omega), show fa 1 i = cs_bf σ i 0 from (hs.2.1 i hlt).1]
            refine px_go hX ?_
            refine ⟨fun (c9 : cs_bf σ i 0 = 0) => ?_, fun (c9 : ¬ cs_bf σ i 0 = 0) => ?_⟩
            · iterate 6 refine px_go hX ?_
              exact px_lw hw [(0, .ref (ad 100)), (1, .int (x)), (2, .int (nI (pn_ct p (i + 1)))), (3, .int (nI (i + 1)))] (ih (i + 1) (by omega)) ⟨rfl, rfl, (congrArg (fun z => some (Value.int z)) (by rw [pn_ct_t (by rw [← hp]; exact decide_eq_true ⟨⟨c4, c6⟩, Or.inl c9⟩)]; exact (nI_succ _).symm)), (congrArg (fun z => some (Value.int z)) (nI_succ _).symm), trivial⟩
            · iterate 3 refine px_go hX ?_
              refine ⟨_, (hR1.1 100 _ hr1.1), 0, 0, _, Nat.le_of_ble_eq_true rfl, Nat.le_of_ble_eq_true rfl, Nat.le_of_ble_eq_true rfl, rr_isAbove hR1 hr1 hs1 hn hlt, ?_⟩
              rintro _ C ⟨rfl, ⟨b10, rfl⟩ | ⟨b10, rfl⟩⟩
              · refine px_go hX ?_
                refine ⟨fun (c11 : 1 = 0) => absurd c11 (by decide), fun (c11 : ¬ 1 = 0) => ?_⟩
                iterate 6 refine px_go hX ?_
                exact px_lw hw [(0, .ref (ad 100)), (1, .int (x)), (2, .int (nI (pn_ct p (i + 1)))), (3, .int (nI (i + 1)))] (ih (i + 1) (by omega)) ⟨rfl, rfl, (congrArg (fun z => some (Value.int z)) (by rw [pn_ct_t (by rw [← hp]; exact decide_eq_true ⟨⟨c4, c6⟩, Or.inr b10⟩)]; exact (nI_succ _).symm)), (congrArg (fun z => some (Value.int z)) (nI_succ _).symm), trivial⟩
              · refine px_go hX ?_
                refine ⟨fun (c12 : 0 = 0) => ?_, fun (c12 : ¬ 0 = 0) => absurd rfl c12⟩
                iterate 5 refine px_go hX ?_
                exact px_lw hw [(0, .ref (ad 100)), (1, .int (x)), (2, .int (nI (pn_ct p (i + 1)))), (3, .int (nI (i + 1)))] (ih (i + 1) (by omega)) ⟨rfl, rfl, (congrArg (fun z => some (Value.int z)) (by rw [pn_ct_f (by rw [← hp]; exact decide_eq_false (fun z => z.2.elim c9 b10))]; exact Int32.add_zero _)), (congrArg (fun z => some (Value.int z)) (nI_succ _).symm), trivial⟩
    exact px_lw hw [(0, .ref (ad 100)), (1, .int (x)), (2, .int (nI (pn_ct p 0))), (3, .int (nI 0))] (loop (cs_n σ - 0) 0 (by omega)) ⟨rfl, rfl, rfl, rfl, trivial⟩
  · refine px_go hX ?_
    refine ⟨fun (c13 : ¬ 0 = 0) => absurd rfl c13, fun (c13 : 0 = 0) => ?_⟩
    iterate 3 refine px_go hX ?_
    refine ⟨_, (hR.1 100 _ hr.1), 0, 0, _, Nat.le_of_ble_eq_true rfl, Nat.le_of_ble_eq_true rfl, Nat.le_of_ble_eq_true rfl, rr_refuse hR hr hs _, ?_⟩
    rintro _ C ⟨rfl, hC1⟩
    refine px_go hX ?_
    have hq : of_least σ x = (1, 0, σ) := by
      unfold of_least
      rw [cs_bq_n (px_nix b0)]
    rw [hq]
    exact ⟨_, _, hC1, hs, rfl, rfl, fun h => absurd (show (1 : Nat) = 0 from h) (by decide)⟩
end SC
