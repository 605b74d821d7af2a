/-! The reference's small methods. -/
section SA
variable {B : Nat} {sc : Option (Nat × Nat × (Nat → Int32))} {d : Nat} {ad : Nat → Nat} {σ : ck_S} {ρ : rs_S} {K : rp_K} {C : px_P}
theorem rr_isBay (hR : Rp ad K C) (hr : Rl ad ρ K) (hs : Sim σ ρ) (x : Int32) : px_W ps_Y ps_P B sc (d + 1) 56 [.ref (ad 100), .int x] C 0 0 (px_bo (¬ x < 0 ∧ ¬ nI (cs_nb σ) ≤ x) C) px_no := by
  obtain ⟨p, fs, fa, fw⟩ := ρ
  obtain rfl : p = σ.1 := hs.1.1
  refine ⟨pm_Ref_isBay, rfl, Nat.le_of_ble_eq_true rfl, fun X hw hX => ?_⟩
  iterate 2 refine px_go hX ?_
  refine ⟨fun (c1 : x < 0) => ?_, fun (c1 : ¬ x < 0) => ?_⟩
  · iterate 2 refine px_go hX ?_
    exact ⟨Or.inl rfl, rfl, Or.inr ⟨fun q => q.1 c1, rfl⟩⟩
  · iterate 3 refine px_go hX ?_
    refine ⟨_, _, (hR.1 100 _ hr.1), rfl, ?_⟩
    refine px_go hX ?_
    refine ⟨fun (c2 : nI (cs_nb σ) ≤ x) => ?_, fun (c2 : ¬ nI (cs_nb σ) ≤ x) => ?_⟩
    · iterate 2 refine px_go hX ?_
      exact ⟨Or.inl rfl, rfl, Or.inr ⟨fun q => q.2 c2, rfl⟩⟩
    · iterate 3 refine px_go hX ?_
      exact ⟨Or.inr rfl, rfl, Or.inl ⟨⟨c1, c2⟩, rfl⟩⟩
theorem rr_isBox (hR : Rp ad K C) (hr : Rl ad ρ K) (hs : Sim σ ρ) (x : Int32) : px_W ps_Y ps_P B sc (d + 1) 64 [.ref (ad 100), .int x] C 0 0 (px_bo (¬ x < 0 ∧ ¬ nI (cs_n σ) ≤ x) C) px_no := by
  obtain ⟨p, fs, fa, fw⟩ := ρ
  obtain rfl : p = σ.1 := hs.1.1
  refine ⟨pm_Ref_isBox, rfl, Nat.le_of_ble_eq_true rfl, fun X hw hX => ?_⟩
  iterate 2 refine px_go hX ?_
  refine ⟨fun (c1 : x < 0) => ?_, fun (c1 : ¬ x < 0) => ?_⟩
  · iterate 2 refine px_go hX ?_
    exact ⟨Or.inl rfl, rfl, Or.inr ⟨fun q => q.1 c1, rfl⟩⟩
  · iterate 3 refine px_go hX ?_
    refine ⟨_, _, (hR.1 100 _ hr.1), rfl, ?_⟩
    refine px_go hX ?_
    refine ⟨fun (c2 : nI (cs_n σ) ≤ x) => ?_, fun (c2 : ¬ nI (cs_n σ) ≤ x) => ?_⟩
    · iterate 2 refine px_go hX ?_
      exact ⟨Or.inl rfl, rfl, Or.inr ⟨fun q => q.2 c2, rfl⟩⟩
    · iterate 3 refine px_go hX ?_
      exact ⟨Or.inr rfl, rfl, Or.inl ⟨⟨c1, c2⟩, rfl⟩⟩
theorem rr_in (x y z : Int32) : px_W ps_Y ps_P B sc (d + 1) 57 [.int x, .int y, .int z] C 0 0 (px_bo (¬ x < y ∧ ¬ z < x) C) px_no := by
  refine ⟨pm_Ref_in, rfl, Nat.le_of_ble_eq_true rfl, fun X hw hX => ?_⟩
  iterate 3 refine px_go hX ?_
  refine ⟨fun (c1 : x < y) => ?_, fun (c1 : ¬ x < y) => ?_⟩
  · iterate 2 refine px_go hX ?_
    exact ⟨Or.inl rfl, rfl, Or.inr ⟨fun q => q.1 c1, rfl⟩⟩
  · iterate 3 refine px_go hX ?_
    refine ⟨fun (c2 : z < x) => ?_, fun (c2 : ¬ z < x) => ?_⟩
    · iterate 2 refine px_go hX ?_
      exact ⟨Or.inl rfl, rfl, Or.inr ⟨fun q => q.2 c2, rfl⟩⟩
    · iterate 3 refine px_go hX ?_
      exact ⟨Or.inr rfl, rfl, Or.inl ⟨⟨c1, c2⟩, rfl⟩⟩
theorem rr_refuse (hR : Rp ad K C) (hr : Rl ad ρ K) (hs : Sim σ ρ) (t : Int32) : px_W ps_Y ps_P B sc (d + 1) 58 [.ref (ad 100), .int t] C 0 0 (fun v C' => v = some (.int 0) ∧ Cr ad (rs_th ρ t) K C') px_no := by
  obtain ⟨p, fs, fa, fw⟩ := ρ
  obtain rfl : p = σ.1 := hs.1.1
  refine ⟨pm_Ref_refuse, rfl, Nat.le_of_ble_eq_true rfl, fun X hw hX => ?_⟩
  iterate 3 refine px_go hX ?_
  refine ⟨_, (hR.1 100 _ hr.1), Nat.le_of_ble_eq_true rfl, rfl, rfl, ?_⟩
  iterate 2 refine px_go hX ?_
  have hR1 := (hR.put (i := 100) hr.1 (px_o 4 [.int (t), .int (nI (cs_nb σ)), .int (nI (cs_ti σ)), .int (nI (cs_n σ)), .ref (ad 101), .ref (ad 102), .ref (ad 103), .ref (ad 104), .ref (ad 105), .ref (ad 106), .int (fs 1), .int (fs 2), .ref (ad 107), .ref (ad 108), .ref (ad 109), .ref (ad 110), .ref (ad 111), .ref (ad 112), .ref (ad 113), .ref (ad 114), .ref (ad 115), .int (fs 3), .ref (ad 116), .ref (ad 117), .int (fs 4)]))
  have hr1 : Rl ad (rs_th (σ.1, fs, fa, fw) t) (rp_up (K) (100) (px_o 4 [.int (t), .int (nI (cs_nb σ)), .int (nI (cs_ti σ)), .int (nI (cs_n σ)), .ref (ad 101), .ref (ad 102), .ref (ad 103), .ref (ad 104), .ref (ad 105), .ref (ad 106), .int (fs 1), .int (fs 2), .ref (ad 107), .ref (ad 108), .ref (ad 109), .ref (ad 110), .ref (ad 111), .ref (ad 112), .ref (ad 113), .ref (ad 114), .ref (ad 115), .int (fs 3), .ref (ad 116), .ref (ad 117), .int (fs 4)])) := hr.sO _ _
  have hK1 : ∀ zz, zz < 100 ∨ 118 ≤ zz → (rp_up (K) (100) (px_o 4 [.int (t), .int (nI (cs_nb σ)), .int (nI (cs_ti σ)), .int (nI (cs_n σ)), .ref (ad 101), .ref (ad 102), .ref (ad 103), .ref (ad 104), .ref (ad 105), .ref (ad 106), .int (fs 1), .int (fs 2), .ref (ad 107), .ref (ad 108), .ref (ad 109), .ref (ad 110), .ref (ad 111), .ref (ad 112), .ref (ad 113), .ref (ad 114), .ref (ad 115), .int (fs 3), .ref (ad 116), .ref (ad 117), .int (fs 4)])) zz = (K) zz := fun zz hzz => by rw [rp_up_n _ _ (by omega)]
  exact ⟨rfl, _, hR1, hr1, hK1⟩
theorem rr_thrown (hR : Rp ad K C) (hr : Rl ad ρ K) : px_W ps_Y ps_P B sc (d + 1) 63 [.ref (ad 100)] C 0 0 (fun v C' => C' = C ∧ v = some (.int (rs_sc ρ 0))) px_no := by
  refine ⟨pm_Ref_thrown, rfl, Nat.le_of_ble_eq_true rfl, fun X hw hX => ?_⟩
  iterate 2 refine px_go hX ?_
  refine ⟨_, _, (hR.1 100 _ hr.1), rfl, ?_⟩
  refine px_go hX ?_
  exact ⟨rfl, rfl⟩
theorem rr_there (hR : Rp ad K C) (hr : Rl ad ρ K) (hs : Sim σ ρ) (hn : cs_n σ ≤ 16) (x : Int32) : px_W ps_Y ps_P B sc (d + 1) 59 [.ref (ad 100), .int x] C 0 0 (fun v C' => C' = C ∧ v = some (.int (cs_bin σ x))) px_no := by
  obtain ⟨p, fs, fa, fw⟩ := ρ
  obtain rfl : p = σ.1 := hs.1.1
  have hA2 : C (ad 102) = some (px_i 16 (fa 2)) := hR.1 102 _ (hr.2.1 2 (by decide) (by decide) (by decide))
  have hA3 : C (ad 103) = some (px_i 16 (fa 3)) := hR.1 103 _ (hr.2.1 3 (by decide) (by decide) (by decide))
  unfold cs_bin
  generalize hp : (fun j => decide (cs_bf σ j 1 = x ∧ ¬ cs_bf σ j 2 = 3)) = p
  refine ⟨pm_Ref_there, rfl, Nat.le_of_ble_eq_true rfl, fun X hw hX => ?_⟩
  have loop : ∀ kk i, i + kk = cs_n σ → X (4, [(0, .ref (ad 100)), (1, .int (x)), (2, .int (nI (pn_ct p i))), (3, .int (nI i))], [], C, 0, 0) := by
    intro kk
    induction kk with
    | zero =>
      intro i hi
      have hlt : i = cs_n σ := hi
      iterate 3 refine px_go hX ?_
      refine ⟨_, _, (hR.1 100 _ hr.1), rfl, ?_⟩
      refine px_go hX ?_
      refine ⟨fun (c1 : nI (cs_n σ) ≤ nI i) => ?_, fun (c1 : ¬ nI (cs_n σ) ≤ nI i) => absurd (nI_le (by omega) (by omega)) c1⟩
      iterate 2 refine px_go hX ?_
      rw [hlt]
      exact ⟨rfl, rfl⟩
    | succ kk ih =>
      intro i hi
      have hlt : i < cs_n σ := by omega
      iterate 3 refine px_go hX ?_
      refine ⟨_, _, (hR.1 100 _ hr.1), rfl, ?_⟩
      refine px_go hX ?_
      refine ⟨fun (c2 : nI (cs_n σ) ≤ nI i) => absurd c2 (nI_ge hlt (by omega)), fun (c2 : ¬ nI (cs_n σ) ≤ nI i) => ?_⟩
      iterate 3 refine px_go hX ?_
      refine ⟨_, _, (hR.1 100 _ hr.1), rfl, ?_⟩
      iterate 2 refine px_go hX ?_
      refine ⟨_, _, hA2, (vp_in_nI (by omega) (by omega)), ?_⟩
      rw [nI_clamp (by omega), show fa 2 i = cs_bf σ i 1 from (hs.2.1 i hlt).2.1]
      iterate 2 refine px_go hX ?_
      refine ⟨fun (c3 : ¬ cs_bf σ i 1 = x) => ?_, fun (c3 : cs_bf σ i 1 = x) => ?_⟩
      · iterate 5 refine px_go hX ?_
        exact px_lw hw [(0, .ref (ad 100)), (1, .int (x)), (2, .int (nI (pn_ct p (i + 1)))), (3, .int (nI (i + 1)))] (ih (i + 1) (by omega)) ⟨rfl, rfl, (congrArg (fun z => some (Value.int z)) (by rw [pn_ct_f (by rw [← hp]; exact decide_eq_false (by simp [c2, c3]))]; exact Int32.add_zero _)), (congrArg (fun z => some (Value.int z)) (nI_succ _).symm), trivial⟩
      · iterate 2 refine px_go hX ?_
        refine ⟨_, _, (hR.1 100 _ hr.1), rfl, ?_⟩
        iterate 2 refine px_go hX ?_
        refine ⟨_, _, hA3, (vp_in_nI (by omega) (by omega)), ?_⟩
        rw [nI_clamp (by omega), show fa 3 i = cs_bf σ i 2 from (hs.2.1 i hlt).2.2.1]
        iterate 2 refine px_go hX ?_
        refine ⟨fun (c4 : cs_bf σ i 2 = (3 : Int32)) => ?_, fun (c4 : ¬ cs_bf σ i 2 = (3 : Int32)) => ?_⟩
        · iterate 5 refine px_go hX ?_
          exact px_lw hw [(0, .ref (ad 100)), (1, .int (x)), (2, .int (nI (pn_ct p (i + 1)))), (3, .int (nI (i + 1)))] (ih (i + 1) (by omega)) ⟨rfl, rfl, (congrArg (fun z => some (Value.int z)) (by rw [pn_ct_f (by rw [← hp]; exact decide_eq_false (by simp [c2, c3, c4]))]; exact Int32.add_zero _)), (congrArg (fun z => some (Value.int z)) (nI_succ _).symm), trivial⟩
        · iterate 6 refine px_go hX ?_
          exact px_lw hw [(0, .ref (ad 100)), (1, .int (x)), (2, .int (nI (pn_ct p (i + 1)))), (3, .int (nI (i + 1)))] (ih (i + 1) (by omega)) ⟨rfl, rfl, (congrArg (fun z => some (Value.int z)) (by rw [pn_ct_t (by rw [← hp]; exact decide_eq_true (by simp [c2, c3, c4]))]; exact (nI_succ _).symm)), (congrArg (fun z => some (Value.int z)) (nI_succ _).symm), trivial⟩
  iterate 4 refine px_go hX ?_
  exact px_lw hw [(0, .ref (ad 100)), (1, .int (x)), (2, .int (nI (pn_ct p 0))), (3, .int (nI 0))] (loop (cs_n σ - 0) 0 (by omega)) ⟨rfl, rfl, rfl, rfl, trivial⟩
theorem rr_height (hR : Rp ad K C) (hr : Rl ad ρ K) (hs : Sim σ ρ) (hn : cs_n σ ≤ 16) (x y : Int32) : px_W ps_Y ps_P B sc (d + 1) 60 [.ref (ad 100), .int x, .int y] C 0 0 (fun v C' => C' = C ∧ v = some (.int (cs_hgt σ x y))) px_no := by
  obtain ⟨p, fs, fa, fw⟩ := ρ
  obtain rfl : p = σ.1 := hs.1.1
  have hA2 : C (ad 102) = some (px_i 16 (fa 2)) := hR.1 102 _ (hr.2.1 2 (by decide) (by decide) (by decide))
  have hA3 : C (ad 103) = some (px_i 16 (fa 3)) := hR.1 103 _ (hr.2.1 3 (by decide) (by decide) (by decide))
  unfold cs_hgt
  generalize hp : (fun j => decide (cs_bf σ j 1 = x) && decide (cs_bf σ j 2 = y)) = p
  refine ⟨pm_Ref_height, rfl, Nat.le_of_ble_eq_true rfl, fun X hw hX => ?_⟩
  have loop : ∀ kk i, i + kk = cs_n σ → X (5, [(0, .ref (ad 100)), (1, .int (x)), (2, .int (y)), (3, .int (nI (pn_ct p i))), (4, .int (nI i))], [], C, 0, 0) := by
    intro kk
    induction kk with
    | zero =>
      intro i hi
      have hlt : i = cs_n σ := hi
      iterate 3 refine px_go hX ?_
      refine ⟨_, _, (hR.1 100 _ hr.1), rfl, ?_⟩
      refine px_go hX ?_
      refine ⟨fun (c1 : nI (cs_n σ) ≤ nI i) => ?_, fun (c1 : ¬ nI (cs_n σ) ≤ nI i) => absurd (nI_le (by omega) (by omega)) c1⟩
      iterate 2 refine px_go hX ?_
      rw [hlt]
      exact ⟨rfl, rfl⟩
    | succ kk ih =>
      intro i hi
      have hlt : i < cs_n σ := by omega
      iterate 3 refine px_go hX ?_
      refine ⟨_, _, (hR.1 100 _ hr.1), rfl, ?_⟩
      refine px_go hX ?_
      refine ⟨fun (c2 : nI (cs_n σ) ≤ nI i) => absurd c2 (nI_ge hlt (by omega)), fun (c2 : ¬ nI (cs_n σ) ≤ nI i) => ?_⟩
      iterate 3 refine px_go hX ?_
      refine ⟨_, _, (hR.1 100 _ hr.1), rfl, ?_⟩
      iterate 2 refine px_go hX ?_
      refine ⟨_, _, hA2, (vp_in_nI (by omega) (by omega)), ?_⟩
      rw [nI_clamp (by omega), show fa 2 i = cs_bf σ i 1 from (hs.2.1 i hlt).2.1]
      iterate 2 refine px_go hX ?_
      refine ⟨fun (c3 : ¬ cs_bf σ i 1 = x) => ?_, fun (c3 : cs_bf σ i 1 = x) => ?_⟩
      · iterate 5 refine px_go hX ?_
        exact px_lw hw [(0, .ref (ad 100)), (1, .int (x)), (2, .int (y)), (3, .int (nI (pn_ct p (i + 1)))), (4, .int (nI (i + 1)))] (ih (i + 1) (by omega)) ⟨rfl, rfl, rfl, (congrArg (fun z => some (Value.int z)) (by rw [pn_ct_f (by rw [← hp]; exact by simp [c2, c3])]; exact Int32.add_zero _)), (congrArg (fun z => some (Value.int z)) (nI_succ _).symm), trivial⟩
      · iterate 2 refine px_go hX ?_
        refine ⟨_, _, (hR.1 100 _ hr.1), rfl, ?_⟩
        iterate 2 refine px_go hX ?_
        refine ⟨_, _, hA3, (vp_in_nI (by omega) (by omega)), ?_⟩
        rw [nI_clamp (by omega), show fa 3 i = cs_bf σ i 2 from (hs.2.1 i hlt).2.2.1]
        iterate 2 refine px_go hX ?_
        refine ⟨fun (c4 : ¬ cs_bf σ i 2 = y) => ?_, fun (c4 : cs_bf σ i 2 = y) => ?_⟩
        · iterate 5 refine px_go hX ?_
          exact px_lw hw [(0, .ref (ad 100)), (1, .int (x)), (2, .int (y)), (3, .int (nI (pn_ct p (i + 1)))), (4, .int (nI (i + 1)))] (ih (i + 1) (by omega)) ⟨rfl, rfl, rfl, (congrArg (fun z => some (Value.int z)) (by rw [pn_ct_f (by rw [← hp]; exact by simp [c2, c3, c4])]; exact Int32.add_zero _)), (congrArg (fun z => some (Value.int z)) (nI_succ _).symm), trivial⟩
        · iterate 6 refine px_go hX ?_
          exact px_lw hw [(0, .ref (ad 100)), (1, .int (x)), (2, .int (y)), (3, .int (nI (pn_ct p (i + 1)))), (4, .int (nI (i + 1)))] (ih (i + 1) (by omega)) ⟨rfl, rfl, rfl, (congrArg (fun z => some (Value.int z)) (by rw [pn_ct_t (by rw [← hp]; exact by simp [c2, c3, c4])]; exact (nI_succ _).symm)), (congrArg (fun z => some (Value.int z)) (nI_succ _).symm), trivial⟩
  iterate 4 refine px_go hX ?_
  exact px_lw hw [(0, .ref (ad 100)), (1, .int (x)), (2, .int (y)), (3, .int (nI (pn_ct p 0))), (4, .int (nI 0))] (loop (cs_n σ - 0) 0 (by omega)) ⟨rfl, rfl, rfl, rfl, rfl, trivial⟩
theorem rr_voids (hR : Rp ad K C) (hr : Rl ad ρ K) (hs : Sim σ ρ) {b : Nat} (hb : b < 4) : px_W ps_Y ps_P B sc (d + 1) 61 [.ref (ad 100), .int (nI b)] C 0 0 (fun v C' => v = none ∧ Cr ad (rs_sA ρ 7 (upd (rs_a ρ 7) b 0)) K C') px_no := by
  obtain ⟨p, fs, fa, fw⟩ := ρ
  obtain rfl : p = σ.1 := hs.1.1
  have hA7 : C (ad 107) = some (px_z 4 (fa 7)) := hR.1 107 _ (hr.2.1 7 (by decide) (by decide) (by decide))
  refine ⟨pm_Ref_voids, rfl, Nat.le_of_ble_eq_true rfl, fun X hw hX => ?_⟩
  iterate 2 refine px_go hX ?_
  refine ⟨_, _, (hR.1 100 _ hr.1), rfl, ?_⟩
  iterate 3 refine px_go hX ?_
  refine ⟨_, _, hA7, (vp_in_nI hb (by omega)), ?_⟩
  rw [nI_clamp (by omega), show vp_nar .boolean (px_ic 0) = 0 from by decide +kernel]
  refine px_go hX ?_
  have hR1 := (hR.put (i := 107) (hr.2.1 7 (by decide) (by decide) (by decide)) (px_z 4 (upd (fa 7) (b) (0))))
  have hr1 : Rl ad (rs_sA (σ.1, fs, fa, fw) 7 (upd (fa 7) b 0)) (rp_up (K) (107) (px_z 4 (upd (fa 7) (b) (0)))) := hr.sA (q := 7) (by decide) (by decide) (by decide) _
  have hK1 : ∀ zz, zz < 100 ∨ 118 ≤ zz → (rp_up (K) (107) (px_z 4 (upd (fa 7) (b) (0)))) zz = (K) zz := fun zz hzz => by rw [rp_up_n _ _ (by omega)]
  exact ⟨rfl, _, hR1, hr1, hK1⟩
end SA
