/-! The reference's calls that answer. -/
section SB
variable {B : Nat} {sc : Option (Nat × Nat × (Nat → Int32))} {d : Nat} {ad : Nat → Nat} {σ : ck_S} {ρ : rs_S} {K : rp_K} {C : px_P}
theorem px_ix2 {x : Int32} {n : Nat} (h : ¬ x < 0 ∧ ¬ nI n ≤ x) (hn : n < 2 ^ 31) : ∃ j, j < n ∧ x = nI j := by
  rcases px_ixx x n hn with q | q | q
  · exact q
  · exact absurd q h.1
  · exact absurd q h.2
theorem px_nix {x : Int32} {n : Nat} (h : ¬ (¬ x < 0 ∧ ¬ nI n ≤ x)) : x < 0 ∨ nI n ≤ x := by
  rcases Classical.em (x < 0) with q | q
  · exact Or.inl q
  · exact Or.inr (Classical.not_not.mp (fun w => h ⟨q, w⟩))
theorem cs_bq_s2 (hnb : cs_nb σ ≤ 4) {b : Nat} (hb : b < cs_nb σ) : cs_bq σ (nI b) = some b := by
  unfold cs_bq
  rw [if_neg, nI_clamp (by omega)]
  rintro (h | h)
  · exact nI_pos (by omega) h
  · exact nI_ge hb (by omega) h
theorem cs_xq_s2 (hn : cs_n σ ≤ 16) {b : Nat} (hb : b < cs_n σ) : cs_xq σ (nI b) = some b := by
  unfold cs_xq
  rw [if_neg, nI_clamp (by omega)]
  rintro (h | h)
  · exact nI_pos (by omega) h
  · exact nI_ge hb (by omega) h
theorem px_nin {x y z : Int32} (h : ¬ (¬ x < y ∧ ¬ z < x)) : x < y ∨ ¬ x ≤ z := by
  rcases Classical.em (x < y) with q | q
  · exact Or.inl q
  · exact Or.inr (fun w => h ⟨q, Int32.not_lt.mpr w⟩)
theorem px_yin {x y z : Int32} (h : ¬ x < y ∧ ¬ z < x) : ¬ (x < y ∨ ¬ x ≤ z) := fun q => q.elim h.1 (fun w => w (Int32.not_lt.mp h.2))
theorem rr_look (hR : Rp ad K C) (hr : Rl ad ρ K) (hs : Sim σ ρ) (hn : cs_n σ ≤ 16) (x y : Int32) : px_W ps_Y ps_P B sc (d + 2) 94 [.ref (ad 100), .int x, .int y] C 0 0 (px_oR ad K (of_look σ x y)) px_no := by
  obtain ⟨p, fs, fa, fw⟩ := ρ
  obtain rfl : p = σ.1 := hs.1.1
  have hA1 : C (ad 101) = some (px_i 16 (fa 1)) := hR.1 101 _ (hr.2.1 1 (by decide) (by decide) (by decide))
  have hA2 : C (ad 102) = some (px_i 16 (fa 2)) := hR.1 102 _ (hr.2.1 2 (by decide) (by decide) (by decide))
  have hA3 : C (ad 103) = some (px_i 16 (fa 3)) := hR.1 103 _ (hr.2.1 3 (by decide) (by decide) (by decide))
  have hA4 : C (ad 104) = some (px_i 16 (fa 4)) := hR.1 104 _ (hr.2.1 4 (by decide) (by decide) (by decide))
  refine ⟨pm_Ref_look, rfl, Nat.le_of_ble_eq_true rfl, fun X hw hX => ?_⟩
  iterate 3 refine px_go hX ?_
  refine ⟨_, (hR.1 100 _ hr.1), 0, 0, _, Nat.le_of_ble_eq_true rfl, Nat.le_of_ble_eq_true rfl, Nat.le_of_ble_eq_true rfl, rr_isBox hR hr hs _, ?_⟩
  rintro _ C ⟨rfl, ⟨b1, rfl⟩ | ⟨b1, rfl⟩⟩
  · obtain ⟨j, hj, rfl⟩ := px_ix2 b1 (by omega)
    refine px_go hX ?_
    refine ⟨fun (c2 : 1 = 0) => absurd c2 (by decide), fun (c2 : ¬ 1 = 0) => ?_⟩
    iterate 4 refine px_go hX ?_
    refine ⟨Nat.le_of_ble_eq_true rfl, 0, 0, _, Nat.le_of_ble_eq_true rfl, Nat.le_of_ble_eq_true rfl, Nat.le_of_ble_eq_true rfl, rr_in _ _ _, ?_⟩
    rintro _ C ⟨rfl, ⟨b3, rfl⟩ | ⟨b3, rfl⟩⟩
    · refine px_go hX ?_
      refine ⟨fun (c4 : ¬ 1 = 0) => ?_, fun (c4 : 1 = 0) => absurd c4 (by decide)⟩
      iterate 3 refine px_go hX ?_
      refine ⟨_, (hR.1 100 _ hr.1), Nat.le_of_ble_eq_true rfl, rfl, rfl, ?_⟩
      iterate 2 refine px_go hX ?_
      refine ⟨fun (c5 : ¬ y = 0) => ?_, fun (c5 : y = 0) => ?_⟩
      · iterate 3 refine px_go hX ?_
        refine ⟨fun (c6 : ¬ y = (1 : Int32)) => ?_, fun (c6 : y = (1 : Int32)) => ?_⟩
        · iterate 3 refine px_go hX ?_
          refine ⟨fun (c7 : ¬ y = (2 : Int32)) => ?_, fun (c7 : y = (2 : Int32)) => ?_⟩
          · iterate 2 refine px_go hX ?_
            refine ⟨_, _, (px_up_s _ _ _), rfl, ?_⟩
            iterate 2 refine px_go hX ?_
            refine ⟨_, _, ((px_up_n _ _ (hR.ne (hr.2.1 4 (by decide) (by decide) (by decide)) hr.1 (by decide))).trans hA4), (vp_in_nI (by omega) (by omega)), ?_⟩
            rw [nI_clamp (by omega), show fa 4 j = cs_bf σ j 3 from (hs.2.1 j hj).2.2.2]
            refine px_go hX ?_
            have hR1 := (hR.put (i := 100) hr.1 (px_o 4 [.int ((0 : Int32)), .int (nI (cs_nb σ)), .int (nI (cs_ti σ)), .int (nI (cs_n σ)), .ref (ad 101), .ref (ad 102), .ref (ad 103), .ref (ad 104), .ref (ad 105), .ref (ad 106), .int (fs 1), .int (fs 2), .ref (ad 107), .ref (ad 108), .ref (ad 109), .ref (ad 110), .ref (ad 111), .ref (ad 112), .ref (ad 113), .ref (ad 114), .ref (ad 115), .int (fs 3), .ref (ad 116), .ref (ad 117), .int (fs 4)]))
            have hr1 : Rl ad (rs_th (σ.1, fs, fa, fw) 0) (rp_up (K) (100) (px_o 4 [.int ((0 : Int32)), .int (nI (cs_nb σ)), .int (nI (cs_ti σ)), .int (nI (cs_n σ)), .ref (ad 101), .ref (ad 102), .ref (ad 103), .ref (ad 104), .ref (ad 105), .ref (ad 106), .int (fs 1), .int (fs 2), .ref (ad 107), .ref (ad 108), .ref (ad 109), .ref (ad 110), .ref (ad 111), .ref (ad 112), .ref (ad 113), .ref (ad 114), .ref (ad 115), .int (fs 3), .ref (ad 116), .ref (ad 117), .int (fs 4)])) := hr.sO _ _
            have hK1 : ∀ zz, zz < 100 ∨ 118 ≤ zz → (rp_up (K) (100) (px_o 4 [.int ((0 : Int32)), .int (nI (cs_nb σ)), .int (nI (cs_ti σ)), .int (nI (cs_n σ)), .ref (ad 101), .ref (ad 102), .ref (ad 103), .ref (ad 104), .ref (ad 105), .ref (ad 106), .int (fs 1), .int (fs 2), .ref (ad 107), .ref (ad 108), .ref (ad 109), .ref (ad 110), .ref (ad 111), .ref (ad 112), .ref (ad 113), .ref (ad 114), .ref (ad 115), .int (fs 3), .ref (ad 116), .ref (ad 117), .int (fs 4)])) zz = (K) zz := fun zz hzz => by rw [rp_up_n _ _ (by omega)]
            have hq : of_look σ (nI j) y = (0, cs_bf σ j 3, σ) := by
              unfold of_look
              rw [cs_xq_s2 hn hj]
              exact (if_neg (px_yin b3)).trans (congrArg (fun z => ((0, z, σ) : cs_R)) (((if_neg c5).trans (if_neg c6)).trans (if_neg c7)))
            rw [hq]
            exact ⟨_, _, ⟨_, hR1, hr1, hK1⟩, hs, rfl, rfl, fun _ => rfl⟩
          · iterate 2 refine px_go hX ?_
            refine ⟨_, _, (px_up_s _ _ _), rfl, ?_⟩
            iterate 2 refine px_go hX ?_
            refine ⟨_, _, ((px_up_n _ _ (hR.ne (hr.2.1 3 (by decide) (by decide) (by decide)) hr.1 (by decide))).trans hA3), (vp_in_nI (by omega) (by omega)), ?_⟩
            rw [nI_clamp (by omega), show fa 3 j = cs_bf σ j 2 from (hs.2.1 j hj).2.2.1]
            iterate 2 refine px_go hX ?_
            have hR1 := (hR.put (i := 100) hr.1 (px_o 4 [.int ((0 : Int32)), .int (nI (cs_nb σ)), .int (nI (cs_ti σ)), .int (nI (cs_n σ)), .ref (ad 101), .ref (ad 102), .ref (ad 103), .ref (ad 104), .ref (ad 105), .ref (ad 106), .int (fs 1), .int (fs 2), .ref (ad 107), .ref (ad 108), .ref (ad 109), .ref (ad 110), .ref (ad 111), .ref (ad 112), .ref (ad 113), .ref (ad 114), .ref (ad 115), .int (fs 3), .ref (ad 116), .ref (ad 117), .int (fs 4)]))
            have hr1 : Rl ad (rs_th (σ.1, fs, fa, fw) 0) (rp_up (K) (100) (px_o 4 [.int ((0 : Int32)), .int (nI (cs_nb σ)), .int (nI (cs_ti σ)), .int (nI (cs_n σ)), .ref (ad 101), .ref (ad 102), .ref (ad 103), .ref (ad 104), .ref (ad 105), .ref (ad 106), .int (fs 1), .int (fs 2), .ref (ad 107), .ref (ad 108), .ref (ad 109), .ref (ad 110), .ref (ad 111), .ref (ad 112), .ref (ad 113), .ref (ad 114), .ref (ad 115), .int (fs 3), .ref (ad 116), .ref (ad 117), .int (fs 4)])) := hr.sO _ _
            have hK1 : ∀ zz, zz < 100 ∨ 118 ≤ zz → (rp_up (K) (100) (px_o 4 [.int ((0 : Int32)), .int (nI (cs_nb σ)), .int (nI (cs_ti σ)), .int (nI (cs_n σ)), .ref (ad 101), .ref (ad 102), .ref (ad 103), .ref (ad 104), .ref (ad 105), .ref (ad 106), .int (fs 1), .int (fs 2), .ref (ad 107), .ref (ad 108), .ref (ad 109), .ref (ad 110), .ref (ad 111), .ref (ad 112), .ref (ad 113), .ref (ad 114), .ref (ad 115), .int (fs 3), .ref (ad 116), .ref (ad 117), .int (fs 4)])) zz = (K) zz := fun zz hzz => by rw [rp_up_n _ _ (by omega)]
            have hq : of_look σ (nI j) y = (0, cs_bf σ j 2, σ) := by
              unfold of_look
              rw [cs_xq_s2 hn hj]
              exact (if_neg (px_yin b3)).trans (congrArg (fun z => ((0, z, σ) : cs_R)) (((if_neg c5).trans (if_neg c6)).trans (if_pos c7)))
            rw [hq]
            exact ⟨_, _, ⟨_, hR1, hr1, hK1⟩, hs, rfl, rfl, fun _ => rfl⟩
        · iterate 2 refine px_go hX ?_
          refine ⟨_, _, (px_up_s _ _ _), rfl, ?_⟩
          iterate 2 refine px_go hX ?_
          refine ⟨_, _, ((px_up_n _ _ (hR.ne (hr.2.1 2 (by decide) (by decide) (by decide)) hr.1 (by decide))).trans hA2), (vp_in_nI (by omega) (by omega)), ?_⟩
          rw [nI_clamp (by omega), show fa 2 j = cs_bf σ j 1 from (hs.2.1 j hj).2.1]
          iterate 2 refine px_go hX ?_
          have hR1 := (hR.put (i := 100) hr.1 (px_o 4 [.int ((0 : Int32)), .int (nI (cs_nb σ)), .int (nI (cs_ti σ)), .int (nI (cs_n σ)), .ref (ad 101), .ref (ad 102), .ref (ad 103), .ref (ad 104), .ref (ad 105), .ref (ad 106), .int (fs 1), .int (fs 2), .ref (ad 107), .ref (ad 108), .ref (ad 109), .ref (ad 110), .ref (ad 111), .ref (ad 112), .ref (ad 113), .ref (ad 114), .ref (ad 115), .int (fs 3), .ref (ad 116), .ref (ad 117), .int (fs 4)]))
          have hr1 : Rl ad (rs_th (σ.1, fs, fa, fw) 0) (rp_up (K) (100) (px_o 4 [.int ((0 : Int32)), .int (nI (cs_nb σ)), .int (nI (cs_ti σ)), .int (nI (cs_n σ)), .ref (ad 101), .ref (ad 102), .ref (ad 103), .ref (ad 104), .ref (ad 105), .ref (ad 106), .int (fs 1), .int (fs 2), .ref (ad 107), .ref (ad 108), .ref (ad 109), .ref (ad 110), .ref (ad 111), .ref (ad 112), .ref (ad 113), .ref (ad 114), .ref (ad 115), .int (fs 3), .ref (ad 116), .ref (ad 117), .int (fs 4)])) := hr.sO _ _
          have hK1 : ∀ zz, zz < 100 ∨ 118 ≤ zz → (rp_up (K) (100) (px_o 4 [.int ((0 : Int32)), .int (nI (cs_nb σ)), .int (nI (cs_ti σ)), .int (nI (cs_n σ)), .ref (ad 101), .ref (ad 102), .ref (ad 103), .ref (ad 104), .ref (ad 105), .ref (ad 106), .int (fs 1), .int (fs 2), .ref (ad 107), .ref (ad 108), .ref (ad 109), .ref (ad 110), .ref (ad 111), .ref (ad 112), .ref (ad 113), .ref (ad 114), .ref (ad 115), .int (fs 3), .ref (ad 116), .ref (ad 117), .int (fs 4)])) zz = (K) zz := fun zz hzz => by rw [rp_up_n _ _ (by omega)]
          have hq : of_look σ (nI j) y = (0, cs_bf σ j 1, σ) := by
            unfold of_look
            rw [cs_xq_s2 hn hj]
            exact (if_neg (px_yin b3)).trans (congrArg (fun z => ((0, z, σ) : cs_R)) ((if_neg c5).trans (if_pos c6)))
          rw [hq]
          exact ⟨_, _, ⟨_, hR1, hr1, hK1⟩, hs, rfl, rfl, fun _ => rfl⟩
      · iterate 2 refine px_go hX ?_
        refine ⟨_, _, (px_up_s _ _ _), rfl, ?_⟩
        iterate 2 refine px_go hX ?_
        refine ⟨_, _, ((px_up_n _ _ (hR.ne (hr.2.1 1 (by decide) (by decide) (by decide)) hr.1 (by decide))).trans hA1), (vp_in_nI (by omega) (by omega)), ?_⟩
        rw [nI_clamp (by omega), show fa 1 j = cs_bf σ j 0 from (hs.2.1 j hj).1]
        iterate 2 refine px_go hX ?_
        have hR1 := (hR.put (i := 100) hr.1 (px_o 4 [.int ((0 : Int32)), .int (nI (cs_nb σ)), .int (nI (cs_ti σ)), .int (nI (cs_n σ)), .ref (ad 101), .ref (ad 102), .ref (ad 103), .ref (ad 104), .ref (ad 105), .ref (ad 106), .int (fs 1), .int (fs 2), .ref (ad 107), .ref (ad 108), .ref (ad 109), .ref (ad 110), .ref (ad 111), .ref (ad 112), .ref (ad 113), .ref (ad 114), .ref (ad 115), .int (fs 3), .ref (ad 116), .ref (ad 117), .int (fs 4)]))
        have hr1 : Rl ad (rs_th (σ.1, fs, fa, fw) 0) (rp_up (K) (100) (px_o 4 [.int ((0 : Int32)), .int (nI (cs_nb σ)), .int (nI (cs_ti σ)), .int (nI (cs_n σ)), .ref (ad 101), .ref (ad 102), .ref (ad 103), .ref (ad 104), .ref (ad 105), .ref (ad 106), .int (fs 1), .int (fs 2), .ref (ad 107), .ref (ad 108), .ref (ad 109), .ref (ad 110), .ref (ad 111), .ref (ad 112), .ref (ad 113), .ref (ad 114), .ref (ad 115), .int (fs 3), .ref (ad 116), .ref (ad 117), .int (fs 4)])) := hr.sO _ _
        have hK1 : ∀ zz, zz < 100 ∨ 118 ≤ zz → (rp_up (K) (100) (px_o 4 [.int ((0 : Int32)), .int (nI (cs_nb σ)), .int (nI (cs_ti σ)), .int (nI (cs_n σ)), .ref (ad 101), .ref (ad 102), .ref (ad 103), .ref (ad 104), .ref (ad 105), .ref (ad 106), .int (fs 1), .int (fs 2), .ref (ad 107), .ref (ad 108), .ref (ad 109), .ref (ad 110), .ref (ad 111), .ref (ad 112), .ref (ad 113), .ref (ad 114), .ref (ad 115), .int (fs 3), .ref (ad 116), .ref (ad 117), .int (fs 4)])) zz = (K) zz := fun zz hzz => by rw [rp_up_n _ _ (by omega)]
        have hq : of_look σ (nI j) y = (0, cs_bf σ j 0, σ) := by
          unfold of_look
          rw [cs_xq_s2 hn hj]
          exact (if_neg (px_yin b3)).trans (congrArg (fun z => ((0, z, σ) : cs_R)) (if_pos c5))
        rw [hq]
        exact ⟨_, _, ⟨_, hR1, hr1, hK1⟩, hs, rfl, rfl, fun _ => rfl⟩
    · refine px_go hX ?_
      refine ⟨fun (c8 : ¬ 0 = 0) => absurd rfl c8, fun (c8 : 0 = 0) => ?_⟩
      iterate 3 refine px_go hX ?_
      refine ⟨_, (hR.1 100 _ hr.1), 0, 0, _, Nat.le_of_ble_eq_true rfl, Nat.le_of_ble_eq_true rfl, Nat.le_of_ble_eq_true rfl, rr_refuse hR hr hs _, ?_⟩
      rintro _ C ⟨rfl, hC1⟩
      refine px_go hX ?_
      have hq : of_look σ (nI j) y = (1, 0, σ) := by
        unfold of_look
        rw [cs_xq_s2 hn hj]
        exact if_pos (px_nin b3)
      rw [hq]
      exact ⟨_, _, hC1, hs, rfl, rfl, fun h => absurd (show (1 : Nat) = 0 from h) (by decide)⟩
  · refine px_go hX ?_
    refine ⟨fun (c9 : 0 = 0) => ?_, fun (c9 : ¬ 0 = 0) => absurd rfl c9⟩
    iterate 3 refine px_go hX ?_
    refine ⟨_, (hR.1 100 _ hr.1), 0, 0, _, Nat.le_of_ble_eq_true rfl, Nat.le_of_ble_eq_true rfl, Nat.le_of_ble_eq_true rfl, rr_refuse hR hr hs _, ?_⟩
    rintro _ C ⟨rfl, hC1⟩
    refine px_go hX ?_
    have hq : of_look σ x y = (1, 0, σ) := by
      unfold of_look
      rw [cs_xq_n (px_nix b1)]
    rw [hq]
    exact ⟨_, _, hC1, hs, rfl, rfl, fun h => absurd (show (1 : Nat) = 0 from h) (by decide)⟩
theorem Sim.ld {σ : ck_S} {p : Nat × Nat × Nat} {fs : Nat → Int32} {fa : Nat → Nat → Int32} {fw : Nat → Int64} (h : Sim σ (p, fs, fa, fw)) {b : Nat} (z : Int32) {t : Int32} : Sim (cs_sY σ b (fun k => match k with | 3 => z | k => cs_yf σ b k)) (rs_sA (rs_th (p, fs, fa, fw) t) 6 (upd (fa 6) b z)) := by
  obtain ⟨h1, h2, h3, h4⟩ := h
  have ne : ∀ q, q ≠ 6 → rs_a (rs_sA (rs_th (p, fs, fa, fw) t) 6 (upd (fa 6) b z)) q = fa q := fun q hq => va_up_ne _ _ hq
  have n6 : rs_a (rs_sA (rs_th (p, fs, fa, fw) t) 6 (upd (fa 6) b z)) 6 = upd (fa 6) b z := va_up_self fa 6 _
  refine ⟨h1, fun j hj => ?_, fun i j hi hj => ?_, fun c hc => ?_⟩
  · rw [ne 1 (by omega), ne 2 (by omega), ne 3 (by omega), ne 4 (by omega)]
    exact h2 j hj
  · rw [ne 5 (by omega)]
    exact h3 i j hi hj
  · rw [n6, ne 7 (by omega), ne 8 (by omega), ne 9 (by omega), ne 10 (by omega), ne 11 (by omega), ne 12 (by omega)]
    obtain ⟨q1, q2⟩ := h4 c hc
    by_cases hcb : c = b
    · subst hcb
      rw [show cs_yf (cs_sY σ c (fun k => match k with | 3 => z | k => cs_yf σ c k)) c = (fun k => match k with | 3 => z | k => cs_yf σ c k) from va_up_self _ _ _, pk_us]
      exact ⟨rfl, q2⟩
    · rw [show cs_yf (cs_sY σ b (fun k => match k with | 3 => z | k => cs_yf σ b k)) c = cs_yf σ c from va_up_ne _ _ hcb, pk_un hcb]
      exact ⟨q1, q2⟩
theorem rr_loads (hR : Rp ad K C) (hr : Rl ad ρ K) (hs : Sim σ ρ) (hnb : cs_nb σ ≤ 4) (x y : Int32) : px_W ps_Y ps_P B sc (d + 2) 88 [.ref (ad 100), .int x, .int y] C 0 0 (px_oR ad K (of_loads σ x y)) px_no := by
  obtain ⟨p, fs, fa, fw⟩ := ρ
  obtain rfl : p = σ.1 := hs.1.1
  have hA6 : C (ad 106) = some (px_i 4 (fa 6)) := hR.1 106 _ (hr.2.1 6 (by decide) (by decide) (by decide))
  refine ⟨pm_Ref_loads, rfl, Nat.le_of_ble_eq_true rfl, fun X hw hX => ?_⟩
  iterate 3 refine px_go hX ?_
  refine ⟨_, (hR.1 100 _ hr.1), 0, 0, _, Nat.le_of_ble_eq_true rfl, Nat.le_of_ble_eq_true rfl, Nat.le_of_ble_eq_true rfl, rr_isBay hR hr hs _, ?_⟩
  rintro _ C ⟨rfl, ⟨b1, rfl⟩ | ⟨b1, rfl⟩⟩
  · obtain ⟨b, hb, rfl⟩ := px_ix2 b1 (by omega)
    refine px_go hX ?_
    refine ⟨fun (c2 : 1 = 0) => absurd c2 (by decide), fun (c2 : ¬ 1 = 0) => ?_⟩
    iterate 4 refine px_go hX ?_
    refine ⟨Nat.le_of_ble_eq_true rfl, 0, 0, _, Nat.le_of_ble_eq_true rfl, Nat.le_of_ble_eq_true rfl, Nat.le_of_ble_eq_true rfl, rr_in _ _ _, ?_⟩
    rintro _ C ⟨rfl, ⟨b3, rfl⟩ | ⟨b3, rfl⟩⟩
    · refine px_go hX ?_
      refine ⟨fun (c4 : ¬ 1 = 0) => ?_, fun (c4 : 1 = 0) => absurd c4 (by decide)⟩
      iterate 2 refine px_go hX ?_
      refine ⟨_, _, (hR.1 100 _ hr.1), rfl, ?_⟩
      iterate 2 refine px_go hX ?_
      refine ⟨_, _, hA6, (vp_in_nI (by omega) (by omega)), ?_⟩
      rw [nI_clamp (by omega), show fa 6 b = cs_yf σ b 3 from (hs.2.2.2 b hb).1]
      iterate 4 refine px_go hX ?_
      refine ⟨fun (c5 : (cs_yf σ b 3) + (y) ≤ (100 : Int32)) => ?_, fun (c5 : ¬ (cs_yf σ b 3) + (y) ≤ (100 : Int32)) => ?_⟩
      · iterate 3 refine px_go hX ?_
        refine ⟨_, (hR.1 100 _ hr.1), Nat.le_of_ble_eq_true rfl, rfl, rfl, ?_⟩
        iterate 2 refine px_go hX ?_
        refine ⟨_, _, (px_up_s _ _ _), rfl, ?_⟩
        iterate 3 refine px_go hX ?_
        refine ⟨_, _, ((px_up_n _ _ (hR.ne (hr.2.1 6 (by decide) (by decide) (by decide)) hr.1 (by decide))).trans hA6), (vp_in_nI (by omega) (by omega)), ?_⟩
        rw [nI_clamp (by omega), show fa 6 b = cs_yf σ b 3 from (hs.2.2.2 b hb).1]
        iterate 3 refine px_go hX ?_
        refine ⟨_, _, ((px_up_n _ _ (hR.ne (hr.2.1 6 (by decide) (by decide) (by decide)) hr.1 (by decide))).trans hA6), (vp_in_nI (by omega) (by omega)), ?_⟩
        rw [nI_clamp (by omega)]
        iterate 2 refine px_go hX ?_
        refine ⟨_, _, ((px_up_n _ _ (hR.ne hr.1 (hr.2.1 6 (by decide) (by decide) (by decide)) (by decide))).trans (px_up_s _ _ _)), rfl, ?_⟩
        iterate 2 refine px_go hX ?_
        refine ⟨_, _, (px_up_s _ _ _), (vp_in_nI (by omega) (by omega)), ?_⟩
        rw [nI_clamp (by omega), pk_us]
        refine px_go hX ?_
        have hR1 := ((hR.put (i := 100) hr.1 (px_o 4 [.int ((0 : Int32)), .int (nI (cs_nb σ)), .int (nI (cs_ti σ)), .int (nI (cs_n σ)), .ref (ad 101), .ref (ad 102), .ref (ad 103), .ref (ad 104), .ref (ad 105), .ref (ad 106), .int (fs 1), .int (fs 2), .ref (ad 107), .ref (ad 108), .ref (ad 109), .ref (ad 110), .ref (ad 111), .ref (ad 112), .ref (ad 113), .ref (ad 114), .ref (ad 115), .int (fs 3), .ref (ad 116), .ref (ad 117), .int (fs 4)])).put (i := 106) ((rp_up_n _ _ (by decide)).trans (hr.2.1 6 (by decide) (by decide) (by decide))) (px_i 4 (upd (fa 6) (b) ((cs_yf σ b 3) + (y)))))
        have hr1 : Rl ad (rs_sA (rs_th (σ.1, fs, fa, fw) 0) 6 (upd (fa 6) b (cs_yf σ b 3 + y))) (rp_up (rp_up (K) (100) (px_o 4 [.int ((0 : Int32)), .int (nI (cs_nb σ)), .int (nI (cs_ti σ)), .int (nI (cs_n σ)), .ref (ad 101), .ref (ad 102), .ref (ad 103), .ref (ad 104), .ref (ad 105), .ref (ad 106), .int (fs 1), .int (fs 2), .ref (ad 107), .ref (ad 108), .ref (ad 109), .ref (ad 110), .ref (ad 111), .ref (ad 112), .ref (ad 113), .ref (ad 114), .ref (ad 115), .int (fs 3), .ref (ad 116), .ref (ad 117), .int (fs 4)])) (106) (px_i 4 (upd (fa 6) (b) ((cs_yf σ b 3) + (y))))) := (hr.sO _ _).sA (q := 6) (by decide) (by decide) (by decide) _
        have hK1 : ∀ zz, zz < 100 ∨ 118 ≤ zz → (rp_up (rp_up (K) (100) (px_o 4 [.int ((0 : Int32)), .int (nI (cs_nb σ)), .int (nI (cs_ti σ)), .int (nI (cs_n σ)), .ref (ad 101), .ref (ad 102), .ref (ad 103), .ref (ad 104), .ref (ad 105), .ref (ad 106), .int (fs 1), .int (fs 2), .ref (ad 107), .ref (ad 108), .ref (ad 109), .ref (ad 110), .ref (ad 111), .ref (ad 112), .ref (ad 113), .ref (ad 114), .ref (ad 115), .int (fs 3), .ref (ad 116), .ref (ad 117), .int (fs 4)])) (106) (px_i 4 (upd (fa 6) (b) ((cs_yf σ b 3) + (y))))) zz = (K) zz := fun zz hzz => by rw [rp_up_n _ _ (by omega), rp_up_n _ _ (by omega)]
        have hq : of_loads σ (nI b) y = (0, cs_yf σ b 3 + y, cs_sY σ b (fun k => match k with | 3 => cs_yf σ b 3 + y | k => cs_yf σ b k)) := by
          unfold of_loads
          rw [cs_bq_s2 hnb hb]
          exact (if_neg (px_yin b3)).trans (if_pos c5)
        rw [hq]
        exact ⟨_, _, ⟨_, hR1, hr1, hK1⟩, Sim.ld hs _, rfl, rfl, fun _ => rfl⟩
      · iterate 3 refine px_go hX ?_
        refine ⟨_, (hR.1 100 _ hr.1), 0, 0, _, Nat.le_of_ble_eq_true rfl, Nat.le_of_ble_eq_true rfl, Nat.le_of_ble_eq_true rfl, rr_refuse hR hr hs _, ?_⟩
        rintro _ C ⟨rfl, hC1⟩
        refine px_go hX ?_
        have hq : of_loads σ (nI b) y = (2, 0, σ) := by
          unfold of_loads
          rw [cs_bq_s2 hnb hb]
          exact (if_neg (px_yin b3)).trans (if_neg c5)
        rw [hq]
        exact ⟨_, _, hC1, hs, rfl, rfl, fun h => absurd (show (2 : Nat) = 0 from h) (by decide)⟩
    · refine px_go hX ?_
      refine ⟨fun (c6 : ¬ 0 = 0) => absurd rfl c6, fun (c6 : 0 = 0) => ?_⟩
      iterate 3 refine px_go hX ?_
      refine ⟨_, (hR.1 100 _ hr.1), 0, 0, _, Nat.le_of_ble_eq_true rfl, Nat.le_of_ble_eq_true rfl, Nat.le_of_ble_eq_true rfl, rr_refuse hR hr hs _, ?_⟩
      rintro _ C ⟨rfl, hC1⟩
      refine px_go hX ?_
      have hq : of_loads σ (nI b) y = (1, 0, σ) := by
        unfold of_loads
        rw [cs_bq_s2 hnb hb]
        exact if_pos (px_nin b3)
      rw [hq]
      exact ⟨_, _, hC1, hs, rfl, rfl, fun h => absurd (show (1 : Nat) = 0 from h) (by decide)⟩
  · refine px_go hX ?_
    refine ⟨fun (c7 : 0 = 0) => ?_, fun (c7 : ¬ 0 = 0) => absurd rfl c7⟩
    iterate 3 refine px_go hX ?_
    refine ⟨_, (hR.1 100 _ hr.1), 0, 0, _, Nat.le_of_ble_eq_true rfl, Nat.le_of_ble_eq_true rfl, Nat.le_of_ble_eq_true rfl, rr_refuse hR hr hs _, ?_⟩
    rintro _ C ⟨rfl, hC1⟩
    refine px_go hX ?_
    have hq : of_loads σ x y = (1, 0, σ) := by
      unfold of_loads
      rw [cs_bq_n (px_nix b1)]
    rw [hq]
    exact ⟨_, _, hC1, hs, rfl, rfl, fun h => absurd (show (1 : Nat) = 0 from h) (by decide)⟩
end SB
