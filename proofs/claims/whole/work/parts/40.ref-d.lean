/-! The reference: dual, move, count. -/
section SD
variable {B : Nat} {sc : Option (Nat × Nat × (Nat → Int32))} {d : Nat} {ad : Nat → Nat} {σ : ck_S} {ρ : rs_S} {K : rp_K} {C : px_P}
theorem cs_cob_1b (hnb : cs_nb σ ≤ 4) {x : Int32} {b : Nat} (h1 : 20 ≤ x) (hb : b < cs_nb σ) (hx : x - 20 = nI b) : cs_cob σ x = cs_lft σ b := by
  unfold cs_cob
  rw [if_pos h1, hx, cs_bq_s2 hnb hb]
theorem cs_cob_3b (hnb : cs_nb σ ≤ 4) {x : Int32} {b : Nat} (h1 : ¬ 20 ≤ x) (h2 : 10 ≤ x) (hb : b < cs_nb σ) (hx : x - 10 = nI b) : cs_cob σ x = cs_yf σ b 3 := by
  unfold cs_cob
  rw [if_neg h1, if_pos h2, hx, cs_bq_s2 hnb hb]
theorem pn_ct_c {p q : Nat → Bool} : ∀ {n : Nat}, (∀ i, i < n → p i = q i) → pn_ct p n = pn_ct q n
  | 0, _ => rfl
  | n + 1, h => by
    show pn_ct p n + _ = pn_ct q n + _
    rw [pn_ct_c (fun i hi => h i (by omega)), h n (by omega)]
theorem ie_40 (b i : Nat) : (40 : Int32) * nI b + nI i = nI (40 * b + i) := by
  rw [show (40 : Int32) * nI b = nI (40 * b) from pk_mul 40 b, nI_add]
theorem rr_dual (hR : Rp ad K C) (hr : Rl ad ρ K) (hs : Sim σ ρ) (hnb : cs_nb σ ≤ 4) (x : Int32) : px_W ps_Y ps_P B sc (d + 2) 89 [.ref (ad 100), .int x] C 0 0 (px_oR ad K (of_dual σ x)) px_no := by
  obtain ⟨p, fs, fa, fw⟩ := ρ
  obtain rfl : p = σ.1 := hs.1.1
  refine ⟨pm_Ref_dual, rfl, Nat.le_of_ble_eq_true rfl, fun X hw hX => ?_⟩
  iterate 3 refine px_go hX ?_
  refine ⟨_, (hR.1 100 _ hr.1), 0, 0, _, Nat.le_of_ble_eq_true rfl, Nat.le_of_ble_eq_true rfl, Nat.le_of_ble_eq_true rfl, rr_isBay hR hr hs _, ?_⟩
  rintro _ C ⟨rfl, ⟨b1, rfl⟩ | ⟨b1, rfl⟩⟩
  · obtain ⟨b, hb, rfl⟩ := px_ix2 b1 (by omega)
    refine px_go hX ?_
    refine ⟨fun (c2 : ¬ 1 = 0) => ?_, fun (c2 : 1 = 0) => absurd c2 (by decide)⟩
    obtain ⟨h6, h7, hpl1, m, d0, hm, hd, hdm, hm12⟩ := hs.2.2.2 b hb
    have h6 : fa 6 b = cs_yf σ b 3 := h6
    have h7 : fa 7 b = cs_yf σ b 0 := h7
    have hm : fa 8 b = nI m := hm
    have hd : fa 9 b = nI d0 := hd
    generalize hp : (fun i => decide (fa 12 (40 * b + (d0 + i)) = 3)) = p
    iterate 3 refine px_go hX ?_
    refine ⟨_, (hR.1 100 _ hr.1), Nat.le_of_ble_eq_true rfl, rfl, rfl, ?_⟩
    have hR1 := (hR.put (i := 100) hr.1 (px_o 4 [.int ((0 : Int32)), .int (nI (cs_nb σ)), .int (nI (cs_ti σ)), .int (nI (cs_n σ)), .ref (ad 101), .ref (ad 102), .ref (ad 103), .ref (ad 104), .ref (ad 105), .ref (ad 106), .int (fs 1), .int (fs 2), .ref (ad 107), .ref (ad 108), .ref (ad 109), .ref (ad 110), .ref (ad 111), .ref (ad 112), .ref (ad 113), .ref (ad 114), .ref (ad 115), .int (fs 3), .ref (ad 116), .ref (ad 117), .int (fs 4)]))
    have hr1 : Rl ad (rs_th (σ.1, fs, fa, fw) 0) (rp_up (K) (100) (px_o 4 [.int ((0 : Int32)), .int (nI (cs_nb σ)), .int (nI (cs_ti σ)), .int (nI (cs_n σ)), .ref (ad 101), .ref (ad 102), .ref (ad 103), .ref (ad 104), .ref (ad 105), .ref (ad 106), .int (fs 1), .int (fs 2), .ref (ad 107), .ref (ad 108), .ref (ad 109), .ref (ad 110), .ref (ad 111), .ref (ad 112), .ref (ad 113), .ref (ad 114), .ref (ad 115), .int (fs 3), .ref (ad 116), .ref (ad 117), .int (fs 4)])) := hr.sO _ _
    have hK1 : ∀ zz, zz < 100 ∨ 118 ≤ zz → (rp_up (K) (100) (px_o 4 [.int ((0 : Int32)), .int (nI (cs_nb σ)), .int (nI (cs_ti σ)), .int (nI (cs_n σ)), .ref (ad 101), .ref (ad 102), .ref (ad 103), .ref (ad 104), .ref (ad 105), .ref (ad 106), .int (fs 1), .int (fs 2), .ref (ad 107), .ref (ad 108), .ref (ad 109), .ref (ad 110), .ref (ad 111), .ref (ad 112), .ref (ad 113), .ref (ad 114), .ref (ad 115), .int (fs 3), .ref (ad 116), .ref (ad 117), .int (fs 4)])) zz = (K) zz := fun zz hzz => by rw [rp_up_n _ _ (by omega)]
    have hA6 : (px_up C (ad 100) (px_o 4 [.int ((0 : Int32)), .int (nI (cs_nb σ)), .int (nI (cs_ti σ)), .int (nI (cs_n σ)), .ref (ad 101), .ref (ad 102), .ref (ad 103), .ref (ad 104), .ref (ad 105), .ref (ad 106), .int (fs 1), .int (fs 2), .ref (ad 107), .ref (ad 108), .ref (ad 109), .ref (ad 110), .ref (ad 111), .ref (ad 112), .ref (ad 113), .ref (ad 114), .ref (ad 115), .int (fs 3), .ref (ad 116), .ref (ad 117), .int (fs 4)])) (ad 106) = some (px_i 4 (fa 6)) := hR1.1 106 _ (hr1.2.1 6 (by decide) (by decide) (by decide))
    have hA7 : (px_up C (ad 100) (px_o 4 [.int ((0 : Int32)), .int (nI (cs_nb σ)), .int (nI (cs_ti σ)), .int (nI (cs_n σ)), .ref (ad 101), .ref (ad 102), .ref (ad 103), .ref (ad 104), .ref (ad 105), .ref (ad 106), .int (fs 1), .int (fs 2), .ref (ad 107), .ref (ad 108), .ref (ad 109), .ref (ad 110), .ref (ad 111), .ref (ad 112), .ref (ad 113), .ref (ad 114), .ref (ad 115), .int (fs 3), .ref (ad 116), .ref (ad 117), .int (fs 4)])) (ad 107) = some (px_z 4 (fa 7)) := hR1.1 107 _ (hr1.2.1 7 (by decide) (by decide) (by decide))
    have hA8 : (px_up C (ad 100) (px_o 4 [.int ((0 : Int32)), .int (nI (cs_nb σ)), .int (nI (cs_ti σ)), .int (nI (cs_n σ)), .ref (ad 101), .ref (ad 102), .ref (ad 103), .ref (ad 104), .ref (ad 105), .ref (ad 106), .int (fs 1), .int (fs 2), .ref (ad 107), .ref (ad 108), .ref (ad 109), .ref (ad 110), .ref (ad 111), .ref (ad 112), .ref (ad 113), .ref (ad 114), .ref (ad 115), .int (fs 3), .ref (ad 116), .ref (ad 117), .int (fs 4)])) (ad 108) = some (px_i 4 (fa 8)) := hR1.1 108 _ (hr1.2.1 8 (by decide) (by decide) (by decide))
    have hA9 : (px_up C (ad 100) (px_o 4 [.int ((0 : Int32)), .int (nI (cs_nb σ)), .int (nI (cs_ti σ)), .int (nI (cs_n σ)), .ref (ad 101), .ref (ad 102), .ref (ad 103), .ref (ad 104), .ref (ad 105), .ref (ad 106), .int (fs 1), .int (fs 2), .ref (ad 107), .ref (ad 108), .ref (ad 109), .ref (ad 110), .ref (ad 111), .ref (ad 112), .ref (ad 113), .ref (ad 114), .ref (ad 115), .int (fs 3), .ref (ad 116), .ref (ad 117), .int (fs 4)])) (ad 109) = some (px_i 4 (fa 9)) := hR1.1 109 _ (hr1.2.1 9 (by decide) (by decide) (by decide))
    have hA12 : (px_up C (ad 100) (px_o 4 [.int ((0 : Int32)), .int (nI (cs_nb σ)), .int (nI (cs_ti σ)), .int (nI (cs_n σ)), .ref (ad 101), .ref (ad 102), .ref (ad 103), .ref (ad 104), .ref (ad 105), .ref (ad 106), .int (fs 1), .int (fs 2), .ref (ad 107), .ref (ad 108), .ref (ad 109), .ref (ad 110), .ref (ad 111), .ref (ad 112), .ref (ad 113), .ref (ad 114), .ref (ad 115), .int (fs 3), .ref (ad 116), .ref (ad 117), .int (fs 4)])) (ad 112) = some (px_i 160 (fa 12)) := hR1.1 112 _ (hr1.2.1 12 (by decide) (by decide) (by decide))
    iterate 4 refine px_go hX ?_
    refine ⟨_, _, (hR1.1 100 _ hr1.1), rfl, ?_⟩
    iterate 2 refine px_go hX ?_
    refine ⟨_, _, hA9, (vp_in_nI (by omega) (by omega)), ?_⟩
    rw [nI_clamp (by omega), hd]
    iterate 1 refine px_go hX ?_
    have loop : ∀ kk i, i + kk = (m - d0) → X (28, [(0, .ref (ad 100)), (1, .int (nI b)), (2, .int (nI (pn_ct p i))), (3, .int (nI (d0 + i)))], [], px_up C (ad 100) (px_o 4 [.int (0), .int (nI (cs_nb σ)), .int (nI (cs_ti σ)), .int (nI (cs_n σ)), .ref (ad 101), .ref (ad 102), .ref (ad 103), .ref (ad 104), .ref (ad 105), .ref (ad 106), .int (fs 1), .int (fs 2), .ref (ad 107), .ref (ad 108), .ref (ad 109), .ref (ad 110), .ref (ad 111), .ref (ad 112), .ref (ad 113), .ref (ad 114), .ref (ad 115), .int (fs 3), .ref (ad 116), .ref (ad 117), .int (fs 4)]), 0, 0) := by
      intro kk
      induction kk with
      | zero =>
        intro i hi
        have hlt : i = (m - d0) := hi
        iterate 3 refine px_go hX ?_
        refine ⟨_, _, (hR1.1 100 _ hr1.1), rfl, ?_⟩
        iterate 2 refine px_go hX ?_
        refine ⟨_, _, hA8, (vp_in_nI (by omega) (by omega)), ?_⟩
        rw [nI_clamp (by omega), hm]
        refine px_go hX ?_
        refine ⟨fun (c3 : nI m ≤ nI (d0 + i)) => ?_, fun (c3 : ¬ nI m ≤ nI (d0 + i)) => absurd (nI_le (by omega) (by omega)) c3⟩
        iterate 2 refine px_go hX ?_
        refine ⟨_, _, (hR1.1 100 _ hr1.1), rfl, ?_⟩
        iterate 2 refine px_go hX ?_
        refine ⟨_, _, hA7, (vp_in_nI (by omega) (by omega)), ?_⟩
        rw [nI_clamp (by omega), h7]
        refine px_go hX ?_
        refine ⟨fun (c4 : ¬ cs_yf σ b 0 = 0) => ?_, fun (c4 : cs_yf σ b 0 = 0) => ?_⟩
        · iterate 3 refine px_go hX ?_
          refine ⟨_, _, (hR1.1 100 _ hr1.1), rfl, ?_⟩
          iterate 2 refine px_go hX ?_
          refine ⟨_, _, hA6, (vp_in_nI (by omega) (by omega)), ?_⟩
          rw [nI_clamp (by omega), h6]
          refine px_go hX ?_
          refine ⟨fun (c5 : cs_yf σ b 3 ≤ nI (pn_ct p i)) => ?_, fun (c5 : ¬ cs_yf σ b 3 ≤ nI (pn_ct p i)) => ?_⟩
          · iterate 2 refine px_go hX ?_
            refine ⟨_, _, (hR1.1 100 _ hr1.1), rfl, ?_⟩
            iterate 2 refine px_go hX ?_
            refine ⟨_, _, hA6, (vp_in_nI (by omega) (by omega)), ?_⟩
            rw [nI_clamp (by omega), h6]
            refine px_go hX ?_
            obtain ⟨w8, w9, w12⟩ := hpl1 c4
            have e1 : (cs_yf σ b 2).toNatClampNeg = d0 := by rw [← w9, show rs_a (σ.1, fs, fa, fw) 9 b = nI d0 from hd, nI_clamp (by omega)]
            have e2 : (cs_yf σ b 1).toNatClampNeg = m := by rw [← w8, show rs_a (σ.1, fs, fa, fw) 8 b = nI m from hm, nI_clamp (by omega)]
            have e3 : nI (pn_ct (fun i => decide (cs_ya σ b 2 ((cs_yf σ b 2).toNatClampNeg + i) = 3)) ((cs_yf σ b 1).toNatClampNeg - (cs_yf σ b 2).toNatClampNeg)) = nI (pn_ct p (m - d0)) := by
              rw [e1, e2, ← hp]
              exact congrArg nI (pn_ct_c (fun i hi => by rw [← (w12 (d0 + i) (by omega) (by rw [← w8, show rs_a (σ.1, fs, fa, fw) 8 b = nI m from hm]; exact nI_lt (by omega) (by omega))).2.2]))
            rw [hlt] at c5
            have hq : of_dual σ (nI b) = (0, cs_yf σ b 3, σ) := by
              unfold of_dual
              rw [cs_bq_s2 hnb hb]
              exact congrArg (fun z => ((0, z, σ) : cs_R)) ((if_neg c4).trans (by rw [e3]; exact if_neg (Int32.not_lt.mpr c5)))
            rw [hq]
            exact ⟨_, _, ⟨_, hR1, hr1, hK1⟩, hs, rfl, rfl, fun _ => rfl⟩
          · iterate 3 refine px_go hX ?_
            obtain ⟨w8, w9, w12⟩ := hpl1 c4
            have e1 : (cs_yf σ b 2).toNatClampNeg = d0 := by rw [← w9, show rs_a (σ.1, fs, fa, fw) 9 b = nI d0 from hd, nI_clamp (by omega)]
            have e2 : (cs_yf σ b 1).toNatClampNeg = m := by rw [← w8, show rs_a (σ.1, fs, fa, fw) 8 b = nI m from hm, nI_clamp (by omega)]
            have e3 : nI (pn_ct (fun i => decide (cs_ya σ b 2 ((cs_yf σ b 2).toNatClampNeg + i) = 3)) ((cs_yf σ b 1).toNatClampNeg - (cs_yf σ b 2).toNatClampNeg)) = nI (pn_ct p (m - d0)) := by
              rw [e1, e2, ← hp]
              exact congrArg nI (pn_ct_c (fun i hi => by rw [← (w12 (d0 + i) (by omega) (by rw [← w8, show rs_a (σ.1, fs, fa, fw) 8 b = nI m from hm]; exact nI_lt (by omega) (by omega))).2.2]))
            rw [hlt] at c5
            have hq : of_dual σ (nI b) = (0, nI (pn_ct p (m - d0)), σ) := by
              unfold of_dual
              rw [cs_bq_s2 hnb hb]
              exact congrArg (fun z => ((0, z, σ) : cs_R)) ((if_neg c4).trans (by rw [e3]; exact if_pos (Int32.not_le.mp c5)))
            rw [hq]
            rw [hlt]
            exact ⟨_, _, ⟨_, hR1, hr1, hK1⟩, hs, rfl, rfl, fun _ => rfl⟩
        · iterate 3 refine px_go hX ?_
          have hq : of_dual σ (nI b) = (0, -1, σ) := by
            unfold of_dual
            rw [cs_bq_s2 hnb hb]
            exact congrArg (fun z => ((0, z, σ) : cs_R)) (if_pos c4)
          rw [hq]
          exact ⟨_, _, ⟨_, hR1, hr1, hK1⟩, hs, rfl, rfl, fun _ => rfl⟩
      | succ kk ih =>
        intro i hi
        have hlt : i < (m - d0) := by omega
        iterate 3 refine px_go hX ?_
        refine ⟨_, _, (hR1.1 100 _ hr1.1), rfl, ?_⟩
        iterate 2 refine px_go hX ?_
        refine ⟨_, _, hA8, (vp_in_nI (by omega) (by omega)), ?_⟩
        rw [nI_clamp (by omega), hm]
        refine px_go hX ?_
        refine ⟨fun (c6 : nI m ≤ nI (d0 + i)) => absurd c6 (nI_ge (by omega) (by omega)), fun (c6 : ¬ nI m ≤ nI (d0 + i)) => ?_⟩
        iterate 3 refine px_go hX ?_
        refine ⟨_, _, (hR1.1 100 _ hr1.1), rfl, ?_⟩
        iterate 6 refine px_go hX ?_
        refine ⟨_, _, hA12, (by rw [show (px_ic 40 * nI b + nI (d0 + i)) = nI (40 * b + (d0 + i)) from ie_40 b (d0 + i)]; exact vp_in_nI (by omega) (by omega)), ?_⟩
        rw [show (px_ic 40 * nI b + nI (d0 + i)) = nI (40 * b + (d0 + i)) from ie_40 b (d0 + i), nI_clamp (by omega)]
        iterate 2 refine px_go hX ?_
        refine ⟨fun (c7 : ¬ fa 12 (40 * b + (d0 + i)) = (3 : Int32)) => ?_, fun (c7 : fa 12 (40 * b + (d0 + i)) = (3 : Int32)) => ?_⟩
        · iterate 5 refine px_go hX ?_
          exact px_lw hw [(0, .ref (ad 100)), (1, .int (nI b)), (2, .int (nI (pn_ct p (i + 1)))), (3, .int (nI (d0 + (i + 1))))] (ih (i + 1) (by omega)) ⟨rfl, rfl, (congrArg (fun z => some (Value.int z)) (by rw [pn_ct_f (by rw [← hp]; exact decide_eq_false c7)]; exact Int32.add_zero _)), (congrArg (fun z => some (Value.int z)) (nI_succ _).symm), trivial⟩
        · iterate 6 refine px_go hX ?_
          exact px_lw hw [(0, .ref (ad 100)), (1, .int (nI b)), (2, .int (nI (pn_ct p (i + 1)))), (3, .int (nI (d0 + (i + 1))))] (ih (i + 1) (by omega)) ⟨rfl, rfl, (congrArg (fun z => some (Value.int z)) (by rw [pn_ct_t (by rw [← hp]; exact decide_eq_true c7)]; exact (nI_succ _).symm)), (congrArg (fun z => some (Value.int z)) (nI_succ _).symm), trivial⟩
    exact px_lw hw [(0, .ref (ad 100)), (1, .int (nI b)), (2, .int (nI (pn_ct p 0))), (3, .int (nI (d0 + 0)))] (loop ((m - d0) - 0) 0 (by omega)) ⟨rfl, rfl, rfl, rfl, trivial⟩
  · refine px_go hX ?_
    refine ⟨fun (c8 : ¬ 0 = 0) => absurd rfl c8, fun (c8 : 0 = 0) => ?_⟩
    iterate 3 refine px_go hX ?_
    refine ⟨_, (hR.1 100 _ hr.1), 0, 0, _, Nat.le_of_ble_eq_true rfl, Nat.le_of_ble_eq_true rfl, Nat.le_of_ble_eq_true rfl, rr_refuse hR hr hs _, ?_⟩
    rintro _ C ⟨rfl, hC1⟩
    refine px_go hX ?_
    have hq : of_dual σ x = (1, 0, σ) := by
      unfold of_dual
      rw [cs_bq_n (px_nix b1)]
    rw [hq]
    exact ⟨_, _, hC1, hs, rfl, rfl, fun h => absurd (show (1 : Nat) = 0 from h) (by decide)⟩
theorem rr_move (hR : Rp ad K C) (hr : Rl ad ρ K) (hs : Sim σ ρ) (hnb : cs_nb σ ≤ 4) (hpl : cs_pl σ) (x y z : Int32) : px_W ps_Y ps_P B sc (d + 2) 81 [.ref (ad 100), .int x, .int y, .int z] C 0 0 (px_oR ad K (of_move σ x y z)) px_no := by
  obtain ⟨p, fs, fa, fw⟩ := ρ
  obtain rfl : p = σ.1 := hs.1.1
  have hA7 : C (ad 107) = some (px_z 4 (fa 7)) := hR.1 107 _ (hr.2.1 7 (by decide) (by decide) (by decide))
  have hA8 : C (ad 108) = some (px_i 4 (fa 8)) := hR.1 108 _ (hr.2.1 8 (by decide) (by decide) (by decide))
  have hA9 : C (ad 109) = some (px_i 4 (fa 9)) := hR.1 109 _ (hr.2.1 9 (by decide) (by decide) (by decide))
  have hA10 : C (ad 110) = some (px_i 160 (fa 10)) := hR.1 110 _ (hr.2.1 10 (by decide) (by decide) (by decide))
  have hA11 : C (ad 111) = some (px_i 160 (fa 11)) := hR.1 111 _ (hr.2.1 11 (by decide) (by decide) (by decide))
  have hA12 : C (ad 112) = some (px_i 160 (fa 12)) := hR.1 112 _ (hr.2.1 12 (by decide) (by decide) (by decide))
  refine ⟨pm_Ref_move, rfl, Nat.le_of_ble_eq_true rfl, fun X hw hX => ?_⟩
  iterate 3 refine px_go hX ?_
  refine ⟨_, (hR.1 100 _ hr.1), 0, 0, _, Nat.le_of_ble_eq_true rfl, Nat.le_of_ble_eq_true rfl, Nat.le_of_ble_eq_true rfl, rr_isBay hR hr hs _, ?_⟩
  rintro _ C ⟨rfl, ⟨b1, rfl⟩ | ⟨b1, rfl⟩⟩
  · obtain ⟨b, hb, rfl⟩ := px_ix2 b1 (by omega)
    refine px_go hX ?_
    refine ⟨fun (c2 : 1 = 0) => absurd c2 (by decide), fun (c2 : ¬ 1 = 0) => ?_⟩
    obtain ⟨h6, h7, hpl1, -⟩ := hs.2.2.2 b hb
    have h7 : fa 7 b = cs_yf σ b 0 := h7
    obtain ⟨m, w, hm, hw0, hwm, hm12, -⟩ := hpl b hb
    iterate 2 refine px_go hX ?_
    refine ⟨_, _, (hR.1 100 _ hr.1), rfl, ?_⟩
    iterate 3 refine px_go hX ?_
    refine ⟨_, (hR.1 100 _ hr.1), 0, 0, _, Nat.le_of_ble_eq_true rfl, Nat.le_of_ble_eq_true rfl, Nat.le_of_ble_eq_true rfl, rr_isBay hR hr hs _, ?_⟩
    rintro _ C ⟨rfl, ⟨bz, rfl⟩ | ⟨bz, rfl⟩⟩
    · refine px_go hX ?_
      refine ⟨fun (c3 : 1 = 0) => absurd c3 (by decide), fun (c3 : ¬ 1 = 0) => ?_⟩
      iterate 3 refine px_go hX ?_
      refine ⟨_, _, hA7, (vp_in_nI (by omega) (by omega)), ?_⟩
      rw [nI_clamp (by omega), h7]
      refine px_go hX ?_
      refine ⟨fun (c4 : cs_yf σ b 0 = 0) => ?_, fun (c4 : ¬ cs_yf σ b 0 = 0) => ?_⟩
      · iterate 3 refine px_go hX ?_
        refine ⟨_, (hR.1 100 _ hr.1), 0, 0, _, Nat.le_of_ble_eq_true rfl, Nat.le_of_ble_eq_true rfl, Nat.le_of_ble_eq_true rfl, rr_refuse hR hr hs _, ?_⟩
        rintro _ C ⟨rfl, hC1⟩
        refine px_go hX ?_
        have hq : of_move σ (nI b) y z = (1, 0, σ) := by
          unfold of_move
          rw [cs_bq_s2 hnb hb]
          exact if_pos (Or.inl (fun q => q.1 c4))
        rw [hq]
        exact ⟨_, _, hC1, hs, rfl, rfl, fun h => absurd (show (1 : Nat) = 0 from h) (by decide)⟩
      · obtain ⟨w8, w9, w12⟩ := hpl1 c4
        have w8 : fa 8 b = cs_yf σ b 1 := w8
        have w9 : fa 9 b = cs_yf σ b 2 := w9
        iterate 2 refine px_go hX ?_
        refine ⟨fun (c5 : y < 0) => ?_, fun (c5 : ¬ y < 0) => ?_⟩
        · iterate 3 refine px_go hX ?_
          refine ⟨_, (hR.1 100 _ hr.1), 0, 0, _, Nat.le_of_ble_eq_true rfl, Nat.le_of_ble_eq_true rfl, Nat.le_of_ble_eq_true rfl, rr_refuse hR hr hs _, ?_⟩
          rintro _ C ⟨rfl, hC1⟩
          refine px_go hX ?_
          have hq : of_move σ (nI b) y z = (1, 0, σ) := by
            unfold of_move
            rw [cs_bq_s2 hnb hb]
            exact if_pos (Or.inl (fun q => q.2.1 c5))
          rw [hq]
          exact ⟨_, _, hC1, hs, rfl, rfl, fun h => absurd (show (1 : Nat) = 0 from h) (by decide)⟩
        · iterate 3 refine px_go hX ?_
          refine ⟨_, _, (hR.1 100 _ hr.1), rfl, ?_⟩
          iterate 2 refine px_go hX ?_
          refine ⟨_, _, hA8, (vp_in_nI (by omega) (by omega)), ?_⟩
          rw [nI_clamp (by omega), w8]
          refine px_go hX ?_
          refine ⟨fun (c6 : cs_yf σ b 1 ≤ y) => ?_, fun (c6 : ¬ cs_yf σ b 1 ≤ y) => ?_⟩
          · iterate 3 refine px_go hX ?_
            refine ⟨_, (hR.1 100 _ hr.1), 0, 0, _, Nat.le_of_ble_eq_true rfl, Nat.le_of_ble_eq_true rfl, Nat.le_of_ble_eq_true rfl, rr_refuse hR hr hs _, ?_⟩
            rintro _ C ⟨rfl, hC1⟩
            refine px_go hX ?_
            have hq : of_move σ (nI b) y z = (1, 0, σ) := by
              unfold of_move
              rw [cs_bq_s2 hnb hb]
              exact if_pos (Or.inl (fun q => q.2.2.1 c6))
            rw [hq]
            exact ⟨_, _, hC1, hs, rfl, rfl, fun h => absurd (show (1 : Nat) = 0 from h) (by decide)⟩
          · iterate 4 refine px_go hX ?_
            refine ⟨Nat.le_of_ble_eq_true rfl, 0, 0, _, Nat.le_of_ble_eq_true rfl, Nat.le_of_ble_eq_true rfl, Nat.le_of_ble_eq_true rfl, rr_in _ _ _, ?_⟩
            rintro _ C ⟨rfl, ⟨b7, rfl⟩ | ⟨b7, rfl⟩⟩
            · refine px_go hX ?_
              refine ⟨fun (c8 : ¬ 1 = 0) => ?_, fun (c8 : 1 = 0) => absurd c8 (by decide)⟩
              have h12 : ¬ 12 ≤ y := fun q => c6 (by rw [hm]; exact Int32.le_trans (nI_le hm12 (by omega)) q)
              obtain ⟨i, hi, rfl⟩ := px_ix2 (n := 12) ⟨c5, h12⟩ (by omega)
              obtain ⟨v10, v11, v12⟩ := w12 i hi (Int32.not_le.mp c6)
              have v10 : fa 10 (40 * b + i) = cs_ya σ b 0 i := v10
              have v11 : fa 11 (40 * b + i) = cs_ya σ b 1 i := v11
              have v12 : fa 12 (40 * b + i) = cs_ya σ b 2 i := v12
              iterate 3 refine px_go hX ?_
              refine ⟨_, (hR.1 100 _ hr.1), Nat.le_of_ble_eq_true rfl, rfl, rfl, ?_⟩
              iterate 8 refine px_go hX ?_
              refine ⟨fun (c9 : ¬ z = 0) => ?_, fun (c9 : z = 0) => ?_⟩
              · iterate 3 refine px_go hX ?_
                refine ⟨fun (c10 : ¬ z = (1 : Int32)) => ?_, fun (c10 : z = (1 : Int32)) => ?_⟩
                · iterate 3 refine px_go hX ?_
                  refine ⟨fun (c11 : ¬ z = (2 : Int32)) => ?_, fun (c11 : z = (2 : Int32)) => ?_⟩
                  · iterate 3 refine px_go hX ?_
                    refine ⟨_, _, (px_up_s _ _ _), rfl, ?_⟩
                    iterate 2 refine px_go hX ?_
                    refine ⟨_, _, ((px_up_n _ _ (hR.ne (hr.2.1 9 (by decide) (by decide) (by decide)) hr.1 (by decide))).trans hA9), (vp_in_nI (by omega) (by omega)), ?_⟩
                    rw [nI_clamp (by omega), w9]
                    refine px_go hX ?_
                    refine ⟨fun (c12 : cs_yf σ b 2 ≤ nI i) => ?_, fun (c12 : ¬ cs_yf σ b 2 ≤ nI i) => ?_⟩
                    · iterate 2 refine px_go hX ?_
                      have hR1 := (hR.put (i := 100) hr.1 (px_o 4 [.int ((0 : Int32)), .int (nI (cs_nb σ)), .int (nI (cs_ti σ)), .int (nI (cs_n σ)), .ref (ad 101), .ref (ad 102), .ref (ad 103), .ref (ad 104), .ref (ad 105), .ref (ad 106), .int (fs 1), .int (fs 2), .ref (ad 107), .ref (ad 108), .ref (ad 109), .ref (ad 110), .ref (ad 111), .ref (ad 112), .ref (ad 113), .ref (ad 114), .ref (ad 115), .int (fs 3), .ref (ad 116), .ref (ad 117), .int (fs 4)]))
                      have hr1 : Rl ad (rs_th (σ.1, fs, fa, fw) 0) (rp_up (K) (100) (px_o 4 [.int ((0 : Int32)), .int (nI (cs_nb σ)), .int (nI (cs_ti σ)), .int (nI (cs_n σ)), .ref (ad 101), .ref (ad 102), .ref (ad 103), .ref (ad 104), .ref (ad 105), .ref (ad 106), .int (fs 1), .int (fs 2), .ref (ad 107), .ref (ad 108), .ref (ad 109), .ref (ad 110), .ref (ad 111), .ref (ad 112), .ref (ad 113), .ref (ad 114), .ref (ad 115), .int (fs 3), .ref (ad 116), .ref (ad 117), .int (fs 4)])) := hr.sO _ _
                      have hK1 : ∀ zz, zz < 100 ∨ 118 ≤ zz → (rp_up (K) (100) (px_o 4 [.int ((0 : Int32)), .int (nI (cs_nb σ)), .int (nI (cs_ti σ)), .int (nI (cs_n σ)), .ref (ad 101), .ref (ad 102), .ref (ad 103), .ref (ad 104), .ref (ad 105), .ref (ad 106), .int (fs 1), .int (fs 2), .ref (ad 107), .ref (ad 108), .ref (ad 109), .ref (ad 110), .ref (ad 111), .ref (ad 112), .ref (ad 113), .ref (ad 114), .ref (ad 115), .int (fs 3), .ref (ad 116), .ref (ad 117), .int (fs 4)])) zz = (K) zz := fun zz hzz => by rw [rp_up_n _ _ (by omega)]
                      have hq : of_move σ (nI b) (nI i) z = (0, (0 : Int32), σ) := by
                        unfold of_move
                        rw [cs_bq_s2 hnb hb]
                        exact (if_neg (fun q => q.elim (fun q => q ⟨c4, c5, c6, h12⟩) (px_yin b7))).trans (congrArg (fun z => ((0, z, σ) : cs_R)) ((((if_neg c9).trans (if_neg c10)).trans (if_neg c11)).trans (if_pos c12)))
                      rw [hq]
                      exact ⟨_, _, ⟨_, hR1, hr1, hK1⟩, hs, rfl, rfl, fun _ => rfl⟩
                    · iterate 3 refine px_go hX ?_
                      have hR1 := (hR.put (i := 100) hr.1 (px_o 4 [.int ((0 : Int32)), .int (nI (cs_nb σ)), .int (nI (cs_ti σ)), .int (nI (cs_n σ)), .ref (ad 101), .ref (ad 102), .ref (ad 103), .ref (ad 104), .ref (ad 105), .ref (ad 106), .int (fs 1), .int (fs 2), .ref (ad 107), .ref (ad 108), .ref (ad 109), .ref (ad 110), .ref (ad 111), .ref (ad 112), .ref (ad 113), .ref (ad 114), .ref (ad 115), .int (fs 3), .ref (ad 116), .ref (ad 117), .int (fs 4)]))
                      have hr1 : Rl ad (rs_th (σ.1, fs, fa, fw) 0) (rp_up (K) (100) (px_o 4 [.int ((0 : Int32)), .int (nI (cs_nb σ)), .int (nI (cs_ti σ)), .int (nI (cs_n σ)), .ref (ad 101), .ref (ad 102), .ref (ad 103), .ref (ad 104), .ref (ad 105), .ref (ad 106), .int (fs 1), .int (fs 2), .ref (ad 107), .ref (ad 108), .ref (ad 109), .ref (ad 110), .ref (ad 111), .ref (ad 112), .ref (ad 113), .ref (ad 114), .ref (ad 115), .int (fs 3), .ref (ad 116), .ref (ad 117), .int (fs 4)])) := hr.sO _ _
                      have hK1 : ∀ zz, zz < 100 ∨ 118 ≤ zz → (rp_up (K) (100) (px_o 4 [.int ((0 : Int32)), .int (nI (cs_nb σ)), .int (nI (cs_ti σ)), .int (nI (cs_n σ)), .ref (ad 101), .ref (ad 102), .ref (ad 103), .ref (ad 104), .ref (ad 105), .ref (ad 106), .int (fs 1), .int (fs 2), .ref (ad 107), .ref (ad 108), .ref (ad 109), .ref (ad 110), .ref (ad 111), .ref (ad 112), .ref (ad 113), .ref (ad 114), .ref (ad 115), .int (fs 3), .ref (ad 116), .ref (ad 117), .int (fs 4)])) zz = (K) zz := fun zz hzz => by rw [rp_up_n _ _ (by omega)]
                      have hq : of_move σ (nI b) (nI i) z = (0, (1 : Int32), σ) := by
                        unfold of_move
                        rw [cs_bq_s2 hnb hb]
                        exact (if_neg (fun q => q.elim (fun q => q ⟨c4, c5, c6, h12⟩) (px_yin b7))).trans (congrArg (fun z => ((0, z, σ) : cs_R)) ((((if_neg c9).trans (if_neg c10)).trans (if_neg c11)).trans (if_neg c12)))
                      rw [hq]
                      exact ⟨_, _, ⟨_, hR1, hr1, hK1⟩, hs, rfl, rfl, fun _ => rfl⟩
                  · iterate 2 refine px_go hX ?_
                    refine ⟨_, _, (px_up_s _ _ _), rfl, ?_⟩
                    iterate 2 refine px_go hX ?_
                    refine ⟨_, _, ((px_up_n _ _ (hR.ne (hr.2.1 12 (by decide) (by decide) (by decide)) hr.1 (by decide))).trans hA12), (by rw [show (px_ic 40 * nI b + nI i) = nI (40 * b + i) from ie_40 b i]; exact vp_in_nI (by omega) (by omega)), ?_⟩
                    rw [show (px_ic 40 * nI b + nI i) = nI (40 * b + i) from ie_40 b i, nI_clamp (by omega), v12]
                    iterate 2 refine px_go hX ?_
                    have hR1 := (hR.put (i := 100) hr.1 (px_o 4 [.int ((0 : Int32)), .int (nI (cs_nb σ)), .int (nI (cs_ti σ)), .int (nI (cs_n σ)), .ref (ad 101), .ref (ad 102), .ref (ad 103), .ref (ad 104), .ref (ad 105), .ref (ad 106), .int (fs 1), .int (fs 2), .ref (ad 107), .ref (ad 108), .ref (ad 109), .ref (ad 110), .ref (ad 111), .ref (ad 112), .ref (ad 113), .ref (ad 114), .ref (ad 115), .int (fs 3), .ref (ad 116), .ref (ad 117), .int (fs 4)]))
                    have hr1 : Rl ad (rs_th (σ.1, fs, fa, fw) 0) (rp_up (K) (100) (px_o 4 [.int ((0 : Int32)), .int (nI (cs_nb σ)), .int (nI (cs_ti σ)), .int (nI (cs_n σ)), .ref (ad 101), .ref (ad 102), .ref (ad 103), .ref (ad 104), .ref (ad 105), .ref (ad 106), .int (fs 1), .int (fs 2), .ref (ad 107), .ref (ad 108), .ref (ad 109), .ref (ad 110), .ref (ad 111), .ref (ad 112), .ref (ad 113), .ref (ad 114), .ref (ad 115), .int (fs 3), .ref (ad 116), .ref (ad 117), .int (fs 4)])) := hr.sO _ _
                    have hK1 : ∀ zz, zz < 100 ∨ 118 ≤ zz → (rp_up (K) (100) (px_o 4 [.int ((0 : Int32)), .int (nI (cs_nb σ)), .int (nI (cs_ti σ)), .int (nI (cs_n σ)), .ref (ad 101), .ref (ad 102), .ref (ad 103), .ref (ad 104), .ref (ad 105), .ref (ad 106), .int (fs 1), .int (fs 2), .ref (ad 107), .ref (ad 108), .ref (ad 109), .ref (ad 110), .ref (ad 111), .ref (ad 112), .ref (ad 113), .ref (ad 114), .ref (ad 115), .int (fs 3), .ref (ad 116), .ref (ad 117), .int (fs 4)])) zz = (K) zz := fun zz hzz => by rw [rp_up_n _ _ (by omega)]
                    have hq : of_move σ (nI b) (nI i) z = (0, cs_ya σ b 2 i, σ) := by
                      unfold of_move
                      rw [cs_bq_s2 hnb hb]
                      exact (if_neg (fun q => q.elim (fun q => q ⟨c4, c5, c6, h12⟩) (px_yin b7))).trans (congrArg (fun z => ((0, z, σ) : cs_R)) ((((if_neg c9).trans (if_neg c10)).trans (if_pos c11)).trans (by rw [nI_clamp (by omega)])))
                    rw [hq]
                    exact ⟨_, _, ⟨_, hR1, hr1, hK1⟩, hs, rfl, rfl, fun _ => rfl⟩
                · iterate 2 refine px_go hX ?_
                  refine ⟨_, _, (px_up_s _ _ _), rfl, ?_⟩
                  iterate 2 refine px_go hX ?_
                  refine ⟨_, _, ((px_up_n _ _ (hR.ne (hr.2.1 11 (by decide) (by decide) (by decide)) hr.1 (by decide))).trans hA11), (by rw [show (px_ic 40 * nI b + nI i) = nI (40 * b + i) from ie_40 b i]; exact vp_in_nI (by omega) (by omega)), ?_⟩
                  rw [show (px_ic 40 * nI b + nI i) = nI (40 * b + i) from ie_40 b i, nI_clamp (by omega), v11]
                  iterate 2 refine px_go hX ?_
                  have hR1 := (hR.put (i := 100) hr.1 (px_o 4 [.int ((0 : Int32)), .int (nI (cs_nb σ)), .int (nI (cs_ti σ)), .int (nI (cs_n σ)), .ref (ad 101), .ref (ad 102), .ref (ad 103), .ref (ad 104), .ref (ad 105), .ref (ad 106), .int (fs 1), .int (fs 2), .ref (ad 107), .ref (ad 108), .ref (ad 109), .ref (ad 110), .ref (ad 111), .ref (ad 112), .ref (ad 113), .ref (ad 114), .ref (ad 115), .int (fs 3), .ref (ad 116), .ref (ad 117), .int (fs 4)]))
                  have hr1 : Rl ad (rs_th (σ.1, fs, fa, fw) 0) (rp_up (K) (100) (px_o 4 [.int ((0 : Int32)), .int (nI (cs_nb σ)), .int (nI (cs_ti σ)), .int (nI (cs_n σ)), .ref (ad 101), .ref (ad 102), .ref (ad 103), .ref (ad 104), .ref (ad 105), .ref (ad 106), .int (fs 1), .int (fs 2), .ref (ad 107), .ref (ad 108), .ref (ad 109), .ref (ad 110), .ref (ad 111), .ref (ad 112), .ref (ad 113), .ref (ad 114), .ref (ad 115), .int (fs 3), .ref (ad 116), .ref (ad 117), .int (fs 4)])) := hr.sO _ _
                  have hK1 : ∀ zz, zz < 100 ∨ 118 ≤ zz → (rp_up (K) (100) (px_o 4 [.int ((0 : Int32)), .int (nI (cs_nb σ)), .int (nI (cs_ti σ)), .int (nI (cs_n σ)), .ref (ad 101), .ref (ad 102), .ref (ad 103), .ref (ad 104), .ref (ad 105), .ref (ad 106), .int (fs 1), .int (fs 2), .ref (ad 107), .ref (ad 108), .ref (ad 109), .ref (ad 110), .ref (ad 111), .ref (ad 112), .ref (ad 113), .ref (ad 114), .ref (ad 115), .int (fs 3), .ref (ad 116), .ref (ad 117), .int (fs 4)])) zz = (K) zz := fun zz hzz => by rw [rp_up_n _ _ (by omega)]
                  have hq : of_move σ (nI b) (nI i) z = (0, cs_ya σ b 1 i, σ) := by
                    unfold of_move
                    rw [cs_bq_s2 hnb hb]
                    exact (if_neg (fun q => q.elim (fun q => q ⟨c4, c5, c6, h12⟩) (px_yin b7))).trans (congrArg (fun z => ((0, z, σ) : cs_R)) (((if_neg c9).trans (if_pos c10)).trans (by rw [nI_clamp (by omega)])))
                  rw [hq]
                  exact ⟨_, _, ⟨_, hR1, hr1, hK1⟩, hs, rfl, rfl, fun _ => rfl⟩
              · iterate 2 refine px_go hX ?_
                refine ⟨_, _, (px_up_s _ _ _), rfl, ?_⟩
                iterate 2 refine px_go hX ?_
                refine ⟨_, _, ((px_up_n _ _ (hR.ne (hr.2.1 10 (by decide) (by decide) (by decide)) hr.1 (by decide))).trans hA10), (by rw [show (px_ic 40 * nI b + nI i) = nI (40 * b + i) from ie_40 b i]; exact vp_in_nI (by omega) (by omega)), ?_⟩
                rw [show (px_ic 40 * nI b + nI i) = nI (40 * b + i) from ie_40 b i, nI_clamp (by omega), v10]
                iterate 2 refine px_go hX ?_
                have hR1 := (hR.put (i := 100) hr.1 (px_o 4 [.int ((0 : Int32)), .int (nI (cs_nb σ)), .int (nI (cs_ti σ)), .int (nI (cs_n σ)), .ref (ad 101), .ref (ad 102), .ref (ad 103), .ref (ad 104), .ref (ad 105), .ref (ad 106), .int (fs 1), .int (fs 2), .ref (ad 107), .ref (ad 108), .ref (ad 109), .ref (ad 110), .ref (ad 111), .ref (ad 112), .ref (ad 113), .ref (ad 114), .ref (ad 115), .int (fs 3), .ref (ad 116), .ref (ad 117), .int (fs 4)]))
                have hr1 : Rl ad (rs_th (σ.1, fs, fa, fw) 0) (rp_up (K) (100) (px_o 4 [.int ((0 : Int32)), .int (nI (cs_nb σ)), .int (nI (cs_ti σ)), .int (nI (cs_n σ)), .ref (ad 101), .ref (ad 102), .ref (ad 103), .ref (ad 104), .ref (ad 105), .ref (ad 106), .int (fs 1), .int (fs 2), .ref (ad 107), .ref (ad 108), .ref (ad 109), .ref (ad 110), .ref (ad 111), .ref (ad 112), .ref (ad 113), .ref (ad 114), .ref (ad 115), .int (fs 3), .ref (ad 116), .ref (ad 117), .int (fs 4)])) := hr.sO _ _
                have hK1 : ∀ zz, zz < 100 ∨ 118 ≤ zz → (rp_up (K) (100) (px_o 4 [.int ((0 : Int32)), .int (nI (cs_nb σ)), .int (nI (cs_ti σ)), .int (nI (cs_n σ)), .ref (ad 101), .ref (ad 102), .ref (ad 103), .ref (ad 104), .ref (ad 105), .ref (ad 106), .int (fs 1), .int (fs 2), .ref (ad 107), .ref (ad 108), .ref (ad 109), .ref (ad 110), .ref (ad 111), .ref (ad 112), .ref (ad 113), .ref (ad 114), .ref (ad 115), .int (fs 3), .ref (ad 116), .ref (ad 117), .int (fs 4)])) zz = (K) zz := fun zz hzz => by rw [rp_up_n _ _ (by omega)]
                have hq : of_move σ (nI b) (nI i) z = (0, cs_ya σ b 0 i, σ) := by
                  unfold of_move
                  rw [cs_bq_s2 hnb hb]
                  exact (if_neg (fun q => q.elim (fun q => q ⟨c4, c5, c6, h12⟩) (px_yin b7))).trans (congrArg (fun z => ((0, z, σ) : cs_R)) ((if_pos c9).trans (by rw [nI_clamp (by omega)])))
                rw [hq]
                exact ⟨_, _, ⟨_, hR1, hr1, hK1⟩, hs, rfl, rfl, fun _ => rfl⟩
            · refine px_go hX ?_
              refine ⟨fun (c13 : ¬ 0 = 0) => absurd rfl c13, fun (c13 : 0 = 0) => ?_⟩
              iterate 3 refine px_go hX ?_
              refine ⟨_, (hR.1 100 _ hr.1), 0, 0, _, Nat.le_of_ble_eq_true rfl, Nat.le_of_ble_eq_true rfl, Nat.le_of_ble_eq_true rfl, rr_refuse hR hr hs _, ?_⟩
              rintro _ C ⟨rfl, hC1⟩
              refine px_go hX ?_
              have hq : of_move σ (nI b) y z = (1, 0, σ) := by
                unfold of_move
                rw [cs_bq_s2 hnb hb]
                exact if_pos (Or.inr (px_nin b7))
              rw [hq]
              exact ⟨_, _, hC1, hs, rfl, rfl, fun h => absurd (show (1 : Nat) = 0 from h) (by decide)⟩
    · exact absurd ⟨nI_pos (by omega), nI_ge hb (by omega)⟩ bz
  · refine px_go hX ?_
    refine ⟨fun (c14 : 0 = 0) => ?_, fun (c14 : ¬ 0 = 0) => absurd rfl c14⟩
    iterate 3 refine px_go hX ?_
    refine ⟨_, (hR.1 100 _ hr.1), 0, 0, _, Nat.le_of_ble_eq_true rfl, Nat.le_of_ble_eq_true rfl, Nat.le_of_ble_eq_true rfl, rr_refuse hR hr hs _, ?_⟩
    rintro _ C ⟨rfl, hC1⟩
    refine px_go hX ?_
    have hq : of_move σ x y z = (1, 0, σ) := by
      unfold of_move
      rw [cs_bq_n (px_nix b1)]
    rw [hq]
    exact ⟨_, _, hC1, hs, rfl, rfl, fun h => absurd (show (1 : Nat) = 0 from h) (by decide)⟩
theorem rr_count (hR : Rp ad K C) (hr : Rl ad ρ K) (hs : Sim σ ρ) (hn : cs_n σ ≤ 16) (hnb : cs_nb σ ≤ 4) (x : Int32) : px_W ps_Y ps_P B sc (d + 2) 95 [.ref (ad 100), .int x] C 0 0 (fun v C' => v = some (.int (cs_cnt σ x)) ∧ ∃ ρ', Cr ad ρ' K C' ∧ Sim σ ρ') px_no := by
  obtain ⟨p, fs, fa, fw⟩ := ρ
  obtain rfl : p = σ.1 := hs.1.1
  refine ⟨pm_Ref_count, rfl, Nat.le_of_ble_eq_true rfl, fun X hw hX => ?_⟩
  iterate 3 refine px_go hX ?_
  refine ⟨_, (hR.1 100 _ hr.1), Nat.le_of_ble_eq_true rfl, rfl, rfl, ?_⟩
  have hR1 := (hR.put (i := 100) hr.1 (px_o 4 [.int ((0 : Int32)), .int (nI (cs_nb σ)), .int (nI (cs_ti σ)), .int (nI (cs_n σ)), .ref (ad 101), .ref (ad 102), .ref (ad 103), .ref (ad 104), .ref (ad 105), .ref (ad 106), .int (fs 1), .int (fs 2), .ref (ad 107), .ref (ad 108), .ref (ad 109), .ref (ad 110), .ref (ad 111), .ref (ad 112), .ref (ad 113), .ref (ad 114), .ref (ad 115), .int (fs 3), .ref (ad 116), .ref (ad 117), .int (fs 4)]))
  have hr1 : Rl ad (rs_th (σ.1, fs, fa, fw) 0) (rp_up (K) (100) (px_o 4 [.int ((0 : Int32)), .int (nI (cs_nb σ)), .int (nI (cs_ti σ)), .int (nI (cs_n σ)), .ref (ad 101), .ref (ad 102), .ref (ad 103), .ref (ad 104), .ref (ad 105), .ref (ad 106), .int (fs 1), .int (fs 2), .ref (ad 107), .ref (ad 108), .ref (ad 109), .ref (ad 110), .ref (ad 111), .ref (ad 112), .ref (ad 113), .ref (ad 114), .ref (ad 115), .int (fs 3), .ref (ad 116), .ref (ad 117), .int (fs 4)])) := hr.sO _ _
  have hK1 : ∀ zz, zz < 100 ∨ 118 ≤ zz → (rp_up (K) (100) (px_o 4 [.int ((0 : Int32)), .int (nI (cs_nb σ)), .int (nI (cs_ti σ)), .int (nI (cs_n σ)), .ref (ad 101), .ref (ad 102), .ref (ad 103), .ref (ad 104), .ref (ad 105), .ref (ad 106), .int (fs 1), .int (fs 2), .ref (ad 107), .ref (ad 108), .ref (ad 109), .ref (ad 110), .ref (ad 111), .ref (ad 112), .ref (ad 113), .ref (ad 114), .ref (ad 115), .int (fs 3), .ref (ad 116), .ref (ad 117), .int (fs 4)])) zz = (K) zz := fun zz hzz => by rw [rp_up_n _ _ (by omega)]
  have hs1 : Sim σ (rs_th (σ.1, fs, fa, fw) 0) := hs
  have hA3 : (px_up C (ad 100) (px_o 4 [.int ((0 : Int32)), .int (nI (cs_nb σ)), .int (nI (cs_ti σ)), .int (nI (cs_n σ)), .ref (ad 101), .ref (ad 102), .ref (ad 103), .ref (ad 104), .ref (ad 105), .ref (ad 106), .int (fs 1), .int (fs 2), .ref (ad 107), .ref (ad 108), .ref (ad 109), .ref (ad 110), .ref (ad 111), .ref (ad 112), .ref (ad 113), .ref (ad 114), .ref (ad 115), .int (fs 3), .ref (ad 116), .ref (ad 117), .int (fs 4)])) (ad 103) = some (px_i 16 (fa 3)) := hR1.1 103 _ (hr1.2.1 3 (by decide) (by decide) (by decide))
  have hA6 : (px_up C (ad 100) (px_o 4 [.int ((0 : Int32)), .int (nI (cs_nb σ)), .int (nI (cs_ti σ)), .int (nI (cs_n σ)), .ref (ad 101), .ref (ad 102), .ref (ad 103), .ref (ad 104), .ref (ad 105), .ref (ad 106), .int (fs 1), .int (fs 2), .ref (ad 107), .ref (ad 108), .ref (ad 109), .ref (ad 110), .ref (ad 111), .ref (ad 112), .ref (ad 113), .ref (ad 114), .ref (ad 115), .int (fs 3), .ref (ad 116), .ref (ad 117), .int (fs 4)])) (ad 106) = some (px_i 4 (fa 6)) := hR1.1 106 _ (hr1.2.1 6 (by decide) (by decide) (by decide))
  have hA7 : (px_up C (ad 100) (px_o 4 [.int ((0 : Int32)), .int (nI (cs_nb σ)), .int (nI (cs_ti σ)), .int (nI (cs_n σ)), .ref (ad 101), .ref (ad 102), .ref (ad 103), .ref (ad 104), .ref (ad 105), .ref (ad 106), .int (fs 1), .int (fs 2), .ref (ad 107), .ref (ad 108), .ref (ad 109), .ref (ad 110), .ref (ad 111), .ref (ad 112), .ref (ad 113), .ref (ad 114), .ref (ad 115), .int (fs 3), .ref (ad 116), .ref (ad 117), .int (fs 4)])) (ad 107) = some (px_z 4 (fa 7)) := hR1.1 107 _ (hr1.2.1 7 (by decide) (by decide) (by decide))
  have hA8 : (px_up C (ad 100) (px_o 4 [.int ((0 : Int32)), .int (nI (cs_nb σ)), .int (nI (cs_ti σ)), .int (nI (cs_n σ)), .ref (ad 101), .ref (ad 102), .ref (ad 103), .ref (ad 104), .ref (ad 105), .ref (ad 106), .int (fs 1), .int (fs 2), .ref (ad 107), .ref (ad 108), .ref (ad 109), .ref (ad 110), .ref (ad 111), .ref (ad 112), .ref (ad 113), .ref (ad 114), .ref (ad 115), .int (fs 3), .ref (ad 116), .ref (ad 117), .int (fs 4)])) (ad 108) = some (px_i 4 (fa 8)) := hR1.1 108 _ (hr1.2.1 8 (by decide) (by decide) (by decide))
  have hA9 : (px_up C (ad 100) (px_o 4 [.int ((0 : Int32)), .int (nI (cs_nb σ)), .int (nI (cs_ti σ)), .int (nI (cs_n σ)), .ref (ad 101), .ref (ad 102), .ref (ad 103), .ref (ad 104), .ref (ad 105), .ref (ad 106), .int (fs 1), .int (fs 2), .ref (ad 107), .ref (ad 108), .ref (ad 109), .ref (ad 110), .ref (ad 111), .ref (ad 112), .ref (ad 113), .ref (ad 114), .ref (ad 115), .int (fs 3), .ref (ad 116), .ref (ad 117), .int (fs 4)])) (ad 109) = some (px_i 4 (fa 9)) := hR1.1 109 _ (hr1.2.1 9 (by decide) (by decide) (by decide))
  iterate 3 refine px_go hX ?_
  refine ⟨fun (c1 : x < (20 : Int32)) => ?_, fun (c1 : ¬ x < (20 : Int32)) => ?_⟩
  · iterate 3 refine px_go hX ?_
    refine ⟨fun (c2 : x < (10 : Int32)) => ?_, fun (c2 : ¬ x < (10 : Int32)) => ?_⟩
    · iterate 6 refine px_go hX ?_
      have c2q := c2
      generalize hp : (fun j => decide (cs_bf σ j 2 = 3)) = p
      generalize hp2 : (fun j => decide (cs_bf σ j 2 = 4)) = p2
      have loop : ∀ kk i, i + kk = cs_n σ → X (111, [(0, .ref (ad 100)), (1, .int (x)), (2, .int (nI (pn_ct p i))), (3, .int (nI (pn_ct p2 i))), (4, .int (nI i))], [], px_up C (ad 100) (px_o 4 [.int ((0 : Int32)), .int (nI (cs_nb σ)), .int (nI (cs_ti σ)), .int (nI (cs_n σ)), .ref (ad 101), .ref (ad 102), .ref (ad 103), .ref (ad 104), .ref (ad 105), .ref (ad 106), .int (fs 1), .int (fs 2), .ref (ad 107), .ref (ad 108), .ref (ad 109), .ref (ad 110), .ref (ad 111), .ref (ad 112), .ref (ad 113), .ref (ad 114), .ref (ad 115), .int (fs 3), .ref (ad 116), .ref (ad 117), .int (fs 4)]), 0, 0) := by
        intro kk
        induction kk with
        | zero =>
          intro i hi
          have hlt : i = cs_n σ := hi
          iterate 3 refine px_go hX ?_
          refine ⟨_, _, (hR1.1 100 _ hr1.1), rfl, ?_⟩
          refine px_go hX ?_
          refine ⟨fun (c3 : nI (cs_n σ) ≤ nI i) => ?_, fun (c3 : ¬ nI (cs_n σ) ≤ nI i) => absurd (nI_le (by omega) (by omega)) c3⟩
          iterate 2 refine px_go hX ?_
          refine ⟨fun c4 => ?_, fun c4 => ⟨fun c5 => ?_, fun c5 => ⟨fun c6 => ?_, fun c6 => ⟨fun c7 => ?_, fun c7 => ⟨fun c8 => ?_, fun c8 => ?_⟩⟩⟩⟩⟩
          · have c4 : x = (0 : Int32) := c4
            iterate 2 refine px_go hX ?_
            refine ⟨_, _, (hR1.1 100 _ hr1.1), rfl, ?_⟩
            refine px_go hX ?_
            have hq : cs_cnt σ x = nI (cs_n σ) := by
              unfold cs_cnt
              rw [if_pos c4]
            rw [hq]
            exact ⟨rfl, _, ⟨_, hR1, hr1, hK1⟩, hs1⟩
          · have c4 : ¬ x = (0 : Int32) := c4
            have c5 : x = (1 : Int32) := c5
            iterate 2 refine px_go hX ?_
            have hq : cs_cnt σ x = nI (pn_ct (fun j => decide (cs_bf σ j 2 = 3)) (cs_n σ)) := by
              unfold cs_cnt
              rw [if_neg c4, if_pos c5]
            rw [hq]
            rw [hlt, ← hp]
            exact ⟨rfl, _, ⟨_, hR1, hr1, hK1⟩, hs1⟩
          · have c4 : ¬ x = (0 : Int32) := c4
            have c5 : ¬ x = (1 : Int32) := c5
            have c6 : x = (2 : Int32) := c6
            iterate 2 refine px_go hX ?_
            have hq : cs_cnt σ x = nI (pn_ct (fun j => decide (cs_bf σ j 2 = 4)) (cs_n σ)) := by
              unfold cs_cnt
              rw [if_neg c4, if_neg c5, if_pos c6]
            rw [hq]
            rw [hlt, ← hp2]
            exact ⟨rfl, _, ⟨_, hR1, hr1, hK1⟩, hs1⟩
          · have c4 : ¬ x = (0 : Int32) := c4
            have c5 : ¬ x = (1 : Int32) := c5
            have c6 : ¬ x = (2 : Int32) := c6
            have c7 : x = (3 : Int32) := c7
            iterate 2 refine px_go hX ?_
            refine ⟨_, _, (hR1.1 100 _ hr1.1), rfl, ?_⟩
            refine px_go hX ?_
            have hq : cs_cnt σ x = cs_mw σ := by
              unfold cs_cnt
              rw [if_neg c4, if_neg c5, if_neg c6, if_pos c7]
            rw [hq]
            exact ⟨congrArg (fun z => some (Value.int z)) (hs.1.2.2 : fs 2 = cs_mw σ), _, ⟨_, hR1, hr1, hK1⟩, hs1⟩
          · have c4 : ¬ x = (0 : Int32) := c4
            have c5 : ¬ x = (1 : Int32) := c5
            have c6 : ¬ x = (2 : Int32) := c6
            have c7 : ¬ x = (3 : Int32) := c7
            have c8 : x = (4 : Int32) := c8
            iterate 2 refine px_go hX ?_
            refine ⟨_, _, (hR1.1 100 _ hr1.1), rfl, ?_⟩
            refine px_go hX ?_
            have hq : cs_cnt σ x = cs_lg σ := by
              unfold cs_cnt
              rw [if_neg c4, if_neg c5, if_neg c6, if_neg c7, if_pos c8]
            rw [hq]
            exact ⟨congrArg (fun z => some (Value.int z)) (hs.1.2.1 : fs 1 = cs_lg σ), _, ⟨_, hR1, hr1, hK1⟩, hs1⟩
          · have c4 : ¬ x = (0 : Int32) := c4
            have c5 : ¬ x = (1 : Int32) := c5
            have c6 : ¬ x = (2 : Int32) := c6
            have c7 : ¬ x = (3 : Int32) := c7
            have c8 : ¬ x = (4 : Int32) := c8
            iterate 2 refine px_go hX ?_
            have hq : cs_cnt σ x = -1 := by
              unfold cs_cnt
              rw [if_neg c4, if_neg c5, if_neg c6, if_neg c7, if_neg c8, cs_cob_5 (i32_nle c1) (i32_nle c2q)]
            rw [hq]
            exact ⟨rfl, _, ⟨_, hR1, hr1, hK1⟩, hs1⟩
        | succ kk ih =>
          intro i hi
          have hlt : i < cs_n σ := by omega
          iterate 3 refine px_go hX ?_
          refine ⟨_, _, (hR1.1 100 _ hr1.1), rfl, ?_⟩
          refine px_go hX ?_
          refine ⟨fun (c9 : nI (cs_n σ) ≤ nI i) => absurd c9 (nI_ge hlt (by omega)), fun (c9 : ¬ nI (cs_n σ) ≤ nI i) => ?_⟩
          iterate 3 refine px_go hX ?_
          refine ⟨_, _, (hR1.1 100 _ hr1.1), rfl, ?_⟩
          iterate 2 refine px_go hX ?_
          refine ⟨_, _, hA3, (vp_in_nI (by omega) (by omega)), ?_⟩
          rw [nI_clamp (by omega), show fa 3 i = cs_bf σ i 2 from (hs.2.1 i hlt).2.2.1]
          iterate 2 refine px_go hX ?_
          refine ⟨fun (c10 : ¬ cs_bf σ i 2 = (3 : Int32)) => ?_, fun (c10 : cs_bf σ i 2 = (3 : Int32)) => ?_⟩
          · iterate 6 refine px_go hX ?_
            refine ⟨_, _, (hR1.1 100 _ hr1.1), rfl, ?_⟩
            iterate 2 refine px_go hX ?_
            refine ⟨_, _, hA3, (vp_in_nI (by omega) (by omega)), ?_⟩
            rw [nI_clamp (by omega), show fa 3 i = cs_bf σ i 2 from (hs.2.1 i hlt).2.2.1]
            iterate 2 refine px_go hX ?_
            refine ⟨fun (c11 : ¬ cs_bf σ i 2 = (4 : Int32)) => ?_, fun (c11 : cs_bf σ i 2 = (4 : Int32)) => ?_⟩
            · iterate 5 refine px_go hX ?_
              exact px_lw hw [(0, .ref (ad 100)), (1, .int (x)), (2, .int (nI (pn_ct p (i + 1)))), (3, .int (nI (pn_ct p2 (i + 1)))), (4, .int (nI (i + 1)))] (ih (i + 1) (by omega)) ⟨rfl, rfl, (congrArg (fun z => some (Value.int z)) (by rw [pn_ct_f (by rw [← hp]; exact decide_eq_false c10)]; exact Int32.add_zero _)), (congrArg (fun z => some (Value.int z)) (by rw [pn_ct_f (by rw [← hp2]; exact decide_eq_false c11)]; exact Int32.add_zero _)), (congrArg (fun z => some (Value.int z)) (nI_succ _).symm), trivial⟩
            · iterate 6 refine px_go hX ?_
              exact px_lw hw [(0, .ref (ad 100)), (1, .int (x)), (2, .int (nI (pn_ct p (i + 1)))), (3, .int (nI (pn_ct p2 (i + 1)))), (4, .int (nI (i + 1)))] (ih (i + 1) (by omega)) ⟨rfl, rfl, (congrArg (fun z => some (Value.int z)) (by rw [pn_ct_f (by rw [← hp]; exact decide_eq_false c10)]; exact Int32.add_zero _)), (congrArg (fun z => some (Value.int z)) (by rw [pn_ct_t (by rw [← hp2]; exact decide_eq_true c11)]; exact (nI_succ _).symm)), (congrArg (fun z => some (Value.int z)) (nI_succ _).symm), trivial⟩
          · iterate 7 refine px_go hX ?_
            refine ⟨_, _, (hR1.1 100 _ hr1.1), rfl, ?_⟩
            iterate 2 refine px_go hX ?_
            refine ⟨_, _, hA3, (vp_in_nI (by omega) (by omega)), ?_⟩
            rw [nI_clamp (by omega), show fa 3 i = cs_bf σ i 2 from (hs.2.1 i hlt).2.2.1]
            iterate 2 refine px_go hX ?_
            refine ⟨fun (c12 : ¬ cs_bf σ i 2 = (4 : Int32)) => ?_, fun (c12 : cs_bf σ i 2 = (4 : Int32)) => ?_⟩
            · iterate 5 refine px_go hX ?_
              exact px_lw hw [(0, .ref (ad 100)), (1, .int (x)), (2, .int (nI (pn_ct p (i + 1)))), (3, .int (nI (pn_ct p2 (i + 1)))), (4, .int (nI (i + 1)))] (ih (i + 1) (by omega)) ⟨rfl, rfl, (congrArg (fun z => some (Value.int z)) (by rw [pn_ct_t (by rw [← hp]; exact decide_eq_true c10)]; exact (nI_succ _).symm)), (congrArg (fun z => some (Value.int z)) (by rw [pn_ct_f (by rw [← hp2]; exact decide_eq_false c12)]; exact Int32.add_zero _)), (congrArg (fun z => some (Value.int z)) (nI_succ _).symm), trivial⟩
            · iterate 6 refine px_go hX ?_
              exact px_lw hw [(0, .ref (ad 100)), (1, .int (x)), (2, .int (nI (pn_ct p (i + 1)))), (3, .int (nI (pn_ct p2 (i + 1)))), (4, .int (nI (i + 1)))] (ih (i + 1) (by omega)) ⟨rfl, rfl, (congrArg (fun z => some (Value.int z)) (by rw [pn_ct_t (by rw [← hp]; exact decide_eq_true c10)]; exact (nI_succ _).symm)), (congrArg (fun z => some (Value.int z)) (by rw [pn_ct_t (by rw [← hp2]; exact decide_eq_true c12)]; exact (nI_succ _).symm)), (congrArg (fun z => some (Value.int z)) (nI_succ _).symm), trivial⟩
      exact px_lw hw [(0, .ref (ad 100)), (1, .int (x)), (2, .int (nI (pn_ct p 0))), (3, .int (nI (pn_ct p2 0))), (4, .int (nI 0))] (loop (cs_n σ - 0) 0 (by omega)) ⟨rfl, rfl, rfl, rfl, rfl, trivial⟩
    · iterate 5 refine px_go hX ?_
      refine ⟨_, (hR1.1 100 _ hr1.1), 0, 0, _, Nat.le_of_ble_eq_true rfl, Nat.le_of_ble_eq_true rfl, Nat.le_of_ble_eq_true rfl, rr_isBay hR1 hr1 hs1 _, ?_⟩
      rintro _ C ⟨rfl, ⟨b10, rfl⟩ | ⟨b10, rfl⟩⟩
      · obtain ⟨b, hb, hx⟩ := px_ix2 b10 (by omega)
        have hx : x - 10 = nI b := hx
        obtain ⟨h6, h7, hpl1, -⟩ := hs.2.2.2 b hb
        have h6 : fa 6 b = cs_yf σ b 3 := h6
        have h7 : fa 7 b = cs_yf σ b 0 := h7
        refine px_go hX ?_
        refine ⟨fun (c13 : 1 = 0) => absurd c13 (by decide), fun (c13 : ¬ 1 = 0) => ?_⟩
        iterate 2 refine px_go hX ?_
        refine ⟨_, _, (hR1.1 100 _ hr1.1), rfl, ?_⟩
        iterate 4 refine px_go hX ?_
        refine ⟨_, _, hA6, (by rw [show x - px_ic 10 = nI b from hx]; exact vp_in_nI (by omega) (by omega)), ?_⟩
        rw [show (x - px_ic 10).toNatClampNeg = b from by rw [show x - px_ic 10 = nI b from hx, nI_clamp (by omega)], h6]
        iterate 2 refine px_go hX ?_
        have hcnt : cs_cnt σ x = cs_cob σ x := by
          unfold cs_cnt
          rw [if_neg, if_neg, if_neg, if_neg, if_neg] <;> exact fun w => absurd (w ▸ (i32_nlt c2 : 10 ≤ x)) (by decide)
        rw [hcnt]
        rw [cs_cob_3b hnb (i32_nle c1) (i32_nlt c2) hb hx]
        exact ⟨rfl, _, ⟨_, hR1, hr1, hK1⟩, hs1⟩
      · refine px_go hX ?_
        refine ⟨fun (c14 : 0 = 0) => ?_, fun (c14 : ¬ 0 = 0) => absurd rfl c14⟩
        iterate 2 refine px_go hX ?_
        have hcnt : cs_cnt σ x = cs_cob σ x := by
          unfold cs_cnt
          rw [if_neg, if_neg, if_neg, if_neg, if_neg] <;> exact fun w => absurd (w ▸ (i32_nlt c2 : 10 ≤ x)) (by decide)
        rw [hcnt]
        rw [cs_cob_4 (i32_nle c1) (i32_nlt c2) (px_nix b10)]
        exact ⟨rfl, _, ⟨_, hR1, hr1, hK1⟩, hs1⟩
  · iterate 5 refine px_go hX ?_
    refine ⟨_, (hR1.1 100 _ hr1.1), 0, 0, _, Nat.le_of_ble_eq_true rfl, Nat.le_of_ble_eq_true rfl, Nat.le_of_ble_eq_true rfl, rr_isBay hR1 hr1 hs1 _, ?_⟩
    rintro _ C ⟨rfl, ⟨b20, rfl⟩ | ⟨b20, rfl⟩⟩
    · obtain ⟨b, hb, hx⟩ := px_ix2 b20 (by omega)
      have hx : x - 20 = nI b := hx
      obtain ⟨h6, h7, hpl1, -⟩ := hs.2.2.2 b hb
      have h6 : fa 6 b = cs_yf σ b 3 := h6
      have h7 : fa 7 b = cs_yf σ b 0 := h7
      refine px_go hX ?_
      refine ⟨fun (c15 : 1 = 0) => absurd c15 (by decide), fun (c15 : ¬ 1 = 0) => ?_⟩
      iterate 2 refine px_go hX ?_
      refine ⟨_, _, (hR1.1 100 _ hr1.1), rfl, ?_⟩
      iterate 5 refine px_go hX ?_
      refine ⟨_, (hR1.1 100 _ hr1.1), 0, 0, _, Nat.le_of_ble_eq_true rfl, Nat.le_of_ble_eq_true rfl, Nat.le_of_ble_eq_true rfl, rr_isBay hR1 hr1 hs1 _, ?_⟩
      rintro _ C ⟨rfl, ⟨bz, rfl⟩ | ⟨bz, rfl⟩⟩
      · refine px_go hX ?_
        refine ⟨fun (c16 : 1 = 0) => absurd c16 (by decide), fun (c16 : ¬ 1 = 0) => ?_⟩
        iterate 5 refine px_go hX ?_
        refine ⟨_, _, hA7, (by rw [show x - px_ic 20 = nI b from hx]; exact vp_in_nI (by omega) (by omega)), ?_⟩
        rw [show (x - px_ic 20).toNatClampNeg = b from by rw [show x - px_ic 20 = nI b from hx, nI_clamp (by omega)], h7]
        refine px_go hX ?_
        refine ⟨fun (c17 : cs_yf σ b 0 = 0) => ?_, fun (c17 : ¬ cs_yf σ b 0 = 0) => ?_⟩
        · iterate 2 refine px_go hX ?_
          have hcnt : cs_cnt σ x = cs_cob σ x := by
            unfold cs_cnt
            rw [if_neg, if_neg, if_neg, if_neg, if_neg] <;> exact fun w => absurd (w ▸ (i32_nlt c1 : 20 ≤ x)) (by decide)
          rw [hcnt]
          rw [cs_cob_1b hnb (i32_nlt c1) hb hx, cs_lft, if_pos c17]
          exact ⟨rfl, _, ⟨_, hR1, hr1, hK1⟩, hs1⟩
        · obtain ⟨w8, w9, -⟩ := hpl1 c17
          have w8 : fa 8 b = cs_yf σ b 1 := w8
          have w9 : fa 9 b = cs_yf σ b 2 := w9
          iterate 2 refine px_go hX ?_
          refine ⟨_, _, (hR1.1 100 _ hr1.1), rfl, ?_⟩
          iterate 4 refine px_go hX ?_
          refine ⟨_, _, hA8, (by rw [show x - px_ic 20 = nI b from hx]; exact vp_in_nI (by omega) (by omega)), ?_⟩
          rw [show (x - px_ic 20).toNatClampNeg = b from by rw [show x - px_ic 20 = nI b from hx, nI_clamp (by omega)], w8]
          iterate 2 refine px_go hX ?_
          refine ⟨_, _, (hR1.1 100 _ hr1.1), rfl, ?_⟩
          iterate 4 refine px_go hX ?_
          refine ⟨_, _, hA9, (by rw [show x - px_ic 20 = nI b from hx]; exact vp_in_nI (by omega) (by omega)), ?_⟩
          rw [show (x - px_ic 20).toNatClampNeg = b from by rw [show x - px_ic 20 = nI b from hx, nI_clamp (by omega)], w9]
          iterate 3 refine px_go hX ?_
          have hcnt : cs_cnt σ x = cs_cob σ x := by
            unfold cs_cnt
            rw [if_neg, if_neg, if_neg, if_neg, if_neg] <;> exact fun w => absurd (w ▸ (i32_nlt c1 : 20 ≤ x)) (by decide)
          rw [hcnt]
          rw [cs_cob_1b hnb (i32_nlt c1) hb hx, cs_lft, if_neg c17]
          exact ⟨rfl, _, ⟨_, hR1, hr1, hK1⟩, hs1⟩
      · exact absurd b20 bz
    · refine px_go hX ?_
      refine ⟨fun (c18 : 0 = 0) => ?_, fun (c18 : ¬ 0 = 0) => absurd rfl c18⟩
      iterate 2 refine px_go hX ?_
      have hcnt : cs_cnt σ x = cs_cob σ x := by
        unfold cs_cnt
        rw [if_neg, if_neg, if_neg, if_neg, if_neg] <;> exact fun w => absurd (w ▸ (i32_nlt c1 : 20 ≤ x)) (by decide)
      rw [hcnt]
      rw [cs_cob_2 (i32_nlt c1) (px_nix b20)]
      exact ⟨rfl, _, ⟨_, hR1, hr1, hK1⟩, hs1⟩
end SD
