/-! The reference: before, box. -/
section SH
variable {B : Nat} {sc : Option (Nat × Nat × (Nat → Int32))} {d : Nat} {ad : Nat → Nat} {σ : ck_S} {ρ : rs_S} {K : rp_K} {C : px_P}
theorem Sim.nd {σ : ck_S} {p : Nat × Nat × Nat} {fs fs' : Nat → Int32} {fa F : Nat → Nat → Int32} {fw : Nat → Int64} (h : Sim σ (p, fs, fa, fw)) (hn : cs_n σ ≤ 16) (her : cs_er σ) {j k bj : Nat} (hj : j < cs_n σ) (hk : k < cs_n σ)
    (f1 : fs' 1 = fs 1) (f2 : fs' 2 = fs 2) (n5 : F 5 = upd (fa 5) (16 * j + k) 1) (n7 : F 7 = upd (fa 7) bj 0) (nn : ∀ q, q ≠ 5 → q ≠ 7 → F q = fa q) :
    Sim (cs_fp (cs_nd σ k (nI j)) bj) (p, fs', F, fw) := by
  obtain ⟨⟨h1, h1a, h1b⟩, h2, h3, h4⟩ := h
  have bk' : cs_bf (cs_fp (cs_nd σ k (nI j)) bj) k = (fun q => match q with | 0 => cs_bf σ k 0 | 1 => cs_bf σ k 1 | 2 => cs_bf σ k 2 | 3 => cs_bf σ k 3 | _ => cs_bf σ k 4 ||| (1 <<< (nI j &&& 31))) := va_up_self (cs_bf σ) k _
  have bn : ∀ i, i ≠ k → cs_bf (cs_fp (cs_nd σ k (nI j)) bj) i = cs_bf σ i := fun i hi => va_up_ne (cs_bf σ) _ hi
  refine ⟨⟨h1, f1.trans h1a, f2.trans h1b⟩, fun i hi => ?_, fun i l hi hl => ?_, fun c hc => ?_⟩
  · show F 1 i = _ ∧ F 2 i = _ ∧ F 3 i = _ ∧ F 4 i = _
    rw [nn 1 (by omega) (by omega), nn 2 (by omega) (by omega), nn 3 (by omega) (by omega), nn 4 (by omega) (by omega)]
    by_cases hik : i = k
    · subst hik
      rw [bk']
      exact h2 i hi
    · rw [bn i hik]
      exact h2 i hi
  · show (_ ∧ F 5 _ = 1) ∨ (_ ∧ F 5 _ = 0)
    rw [n5]
    obtain ⟨m, hm, hbm, -⟩ := her k hk
    have h16 : 2 ^ j < 2 ^ 16 := Nat.pow_lt_pow_right (by decide) (by omega)
    by_cases hlk : l = k
    · subst hlk
      have e : cs_need (cs_fp (cs_nd σ l (nI j)) bj) i l ↔ cs_need σ i l ∨ i = j := by
        unfold cs_need
        rw [bk']
        show _ ∧ ¬ ((cs_bf σ l 4 ||| (1 <<< (nI j &&& 31))) >>> (nI i &&& 31)) &&& 1 = 0 ↔ _
        rw [hbm, ie_sh1 (by omega), nI_or, ie_bit (Nat.or_lt_two_pow (n := 16) hm h16) hi, ie_bit hm hi]
        have t := tb_or (m := m) (j := j) (i := i)
        constructor
        · rintro ⟨_, w⟩
          have w2 : (m ||| 2 ^ j).testBit i = true := by
            cases hh : (m ||| 2 ^ j).testBit i with
            | true => rfl
            | false => exact absurd hh w
          rcases t.mp w2 with w3 | w3
          · exact Or.inl ⟨hk, by rw [w3]; decide⟩
          · exact Or.inr w3
        · intro w
          refine ⟨hk, ?_⟩
          rw [t.mpr (w.elim (fun w => Or.inl (by simpa using w.2)) Or.inr)]
          decide
      rw [e]
      by_cases hij : i = j
      · subst hij
        rw [pk_us]
        exact Or.inl ⟨Or.inr rfl, rfl⟩
      · rw [pk_un (by omega)]
        rcases h3 i l hi hl with ⟨q1, q2⟩ | ⟨q1, q2⟩
        · exact Or.inl ⟨Or.inl q1, q2⟩
        · exact Or.inr ⟨fun w => w.elim q1 hij, q2⟩
    · have e : cs_need (cs_fp (cs_nd σ k (nI j)) bj) i l ↔ cs_need σ i l := by
        unfold cs_need
        rw [bn l hlk]
        exact Iff.rfl
      rw [e, pk_un (by omega)]
      exact h3 i l hi hl
  · obtain ⟨q1, q2, q3, q4⟩ := h4 c hc
    show F 6 c = _ ∧ F 7 c = _ ∧ (_ → F 8 c = _ ∧ F 9 c = _ ∧ ∀ i, _ → _ → F 10 _ = _ ∧ F 11 _ = _ ∧ F 12 _ = _) ∧ ∃ m d : Nat, F 8 c = _ ∧ F 9 c = _ ∧ _
    rw [n7, nn 6 (by omega) (by omega), nn 8 (by omega) (by omega), nn 9 (by omega) (by omega), nn 10 (by omega) (by omega), nn 11 (by omega) (by omega), nn 12 (by omega) (by omega)]
    by_cases hcb : c = bj
    · subst hcb
      rw [pk_us]
      refine ⟨q1.trans (cs_fp_3 (cs_nd σ k (nI j)) c c).symm, (cs_fp_0 (cs_nd σ k (nI j)) c).symm, fun w => absurd (cs_fp_0 (cs_nd σ k (nI j)) c) w, q4⟩
    · rw [pk_un hcb, cs_fp_n (cs_nd σ k (nI j)) hcb]
      exact ⟨q1, q2, q3, q4⟩
theorem rr_before (hR : Rp ad K C) (hr : Rl ad ρ K) (hs : Sim σ ρ) (hn : cs_n σ ≤ 16) (hnb : cs_nb σ ≤ 4) (hB : cs_inb σ) (her : cs_er σ) (x y : Int32) : px_W ps_Y ps_P B sc (d + 2) 66 [.ref (ad 100), .int x, .int y] C 0 0 (px_oR ad K (of_before σ x y)) px_no := by
  obtain ⟨p, fs, fa, fw⟩ := ρ
  obtain rfl : p = σ.1 := hs.1.1
  have hA1 : C (ad 101) = some (px_i 16 (fa 1)) := hR.1 101 _ (hr.2.1 1 (by decide) (by decide) (by decide))
  have hA2 : C (ad 102) = some (px_i 16 (fa 2)) := hR.1 102 _ (hr.2.1 2 (by decide) (by decide) (by decide))
  have hA3 : C (ad 103) = some (px_i 16 (fa 3)) := hR.1 103 _ (hr.2.1 3 (by decide) (by decide) (by decide))
  have hA5 : C (ad 105) = some (px_z 256 (fa 5)) := hR.1 105 _ (hr.2.1 5 (by decide) (by decide) (by decide))
  refine ⟨pm_Ref_before, rfl, Nat.le_of_ble_eq_true rfl, fun X hw hX => ?_⟩
  iterate 3 refine px_go hX ?_
  refine ⟨_, (hR.1 100 _ hr.1), Nat.le_of_ble_eq_true rfl, rfl, rfl, ?_⟩
  have hR0 := (hR.put (i := 100) hr.1 (px_o 4 [.int ((0 : Int32)), .int (nI (cs_nb σ)), .int (nI (cs_ti σ)), .int (nI (cs_n σ)), .ref (ad 101), .ref (ad 102), .ref (ad 103), .ref (ad 104), .ref (ad 105), .ref (ad 106), .int (fs 1), .int (fs 2), .ref (ad 107), .ref (ad 108), .ref (ad 109), .ref (ad 110), .ref (ad 111), .ref (ad 112), .ref (ad 113), .ref (ad 114), .ref (ad 115), .int (fs 3), .ref (ad 116), .ref (ad 117), .int (fs 4)]))
  have hr0 : Rl ad (rs_th (σ.1, fs, fa, fw) 0) (rp_up (K) (100) (px_o 4 [.int ((0 : Int32)), .int (nI (cs_nb σ)), .int (nI (cs_ti σ)), .int (nI (cs_n σ)), .ref (ad 101), .ref (ad 102), .ref (ad 103), .ref (ad 104), .ref (ad 105), .ref (ad 106), .int (fs 1), .int (fs 2), .ref (ad 107), .ref (ad 108), .ref (ad 109), .ref (ad 110), .ref (ad 111), .ref (ad 112), .ref (ad 113), .ref (ad 114), .ref (ad 115), .int (fs 3), .ref (ad 116), .ref (ad 117), .int (fs 4)])) := hr.sO _ _
  have hK0 : ∀ zz, zz < 100 ∨ 118 ≤ zz → (rp_up (K) (100) (px_o 4 [.int ((0 : Int32)), .int (nI (cs_nb σ)), .int (nI (cs_ti σ)), .int (nI (cs_n σ)), .ref (ad 101), .ref (ad 102), .ref (ad 103), .ref (ad 104), .ref (ad 105), .ref (ad 106), .int (fs 1), .int (fs 2), .ref (ad 107), .ref (ad 108), .ref (ad 109), .ref (ad 110), .ref (ad 111), .ref (ad 112), .ref (ad 113), .ref (ad 114), .ref (ad 115), .int (fs 3), .ref (ad 116), .ref (ad 117), .int (fs 4)])) zz = (K) zz := fun zz hzz => by rw [rp_up_n _ _ (by omega)]
  have hs0 : Sim σ (rs_th (σ.1, fs, fa, fw) 0) := hs
  iterate 3 refine px_go hX ?_
  refine ⟨_, (px_up_s _ _ _), 0, 0, _, Nat.le_of_ble_eq_true rfl, Nat.le_of_ble_eq_true rfl, Nat.le_of_ble_eq_true rfl, rr_isBox hR0 hr0 hs0 _, ?_⟩
  rintro _ C ⟨rfl, ⟨b1, rfl⟩ | ⟨b1, rfl⟩⟩
  · obtain ⟨j, hj, rfl⟩ := px_ix2 b1 (by omega)
    refine px_go hX ?_
    refine ⟨fun (c2 : 1 = 0) => absurd c2 (by decide), fun (c2 : ¬ 1 = 0) => ?_⟩
    iterate 3 refine px_go hX ?_
    refine ⟨_, (px_up_s _ _ _), 0, 0, _, Nat.le_of_ble_eq_true rfl, Nat.le_of_ble_eq_true rfl, Nat.le_of_ble_eq_true rfl, rr_isBox hR0 hr0 hs0 _, ?_⟩
    rintro _ C ⟨rfl, ⟨b3, rfl⟩ | ⟨b3, rfl⟩⟩
    · obtain ⟨k, hk, rfl⟩ := px_ix2 b3 (by omega)
      refine px_go hX ?_
      refine ⟨fun (c4 : 1 = 0) => absurd c4 (by decide), fun (c4 : ¬ 1 = 0) => ?_⟩
      iterate 2 refine px_go hX ?_
      refine ⟨_, _, (px_up_s _ _ _), rfl, ?_⟩
      iterate 2 refine px_go hX ?_
      refine ⟨_, _, ((px_up_n _ _ (hR.ne (hr.2.1 2 (by decide) (by decide) (by decide)) hr.1 (by decide))).trans hA2), (vp_in_nI (by omega) (by omega)), ?_⟩
      rw [nI_clamp (by omega), show fa 2 j = cs_bf σ j 1 from (hs.2.1 j hj).2.1]
      iterate 2 refine px_go hX ?_
      refine ⟨_, _, (px_up_s _ _ _), rfl, ?_⟩
      iterate 2 refine px_go hX ?_
      refine ⟨_, _, ((px_up_n _ _ (hR.ne (hr.2.1 2 (by decide) (by decide) (by decide)) hr.1 (by decide))).trans hA2), (vp_in_nI (by omega) (by omega)), ?_⟩
      rw [nI_clamp (by omega), show fa 2 k = cs_bf σ k 1 from (hs.2.1 k hk).2.1]
      refine px_go hX ?_
      refine ⟨fun (c5 : ¬ cs_bf σ j 1 = cs_bf σ k 1) => ?_, fun (c5 : cs_bf σ j 1 = cs_bf σ k 1) => ?_⟩
      · iterate 2 refine px_go hX ?_
        have hq : of_before σ (nI j) (nI k) = (0, 0, σ) := by
          unfold of_before
          rw [cs_xq_s2 hn hj, cs_xq_s2 hn hk]
          exact if_pos (Or.inl c5)
        rw [hq]
        exact ⟨Or.inl rfl, _, _, ⟨_, hR0, hr0, hK0⟩, hs0, rfl, rfl, fun _ => rfl⟩
      · iterate 2 refine px_go hX ?_
        refine ⟨_, _, (px_up_s _ _ _), rfl, ?_⟩
        iterate 2 refine px_go hX ?_
        refine ⟨_, _, ((px_up_n _ _ (hR.ne (hr.2.1 3 (by decide) (by decide) (by decide)) hr.1 (by decide))).trans hA3), (vp_in_nI (by omega) (by omega)), ?_⟩
        rw [nI_clamp (by omega), show fa 3 j = cs_bf σ j 2 from (hs.2.1 j hj).2.2.1]
        iterate 2 refine px_go hX ?_
        refine ⟨fun (c6 : cs_bf σ j 2 = (3 : Int32)) => ?_, fun (c6 : ¬ cs_bf σ j 2 = (3 : Int32)) => ?_⟩
        · iterate 2 refine px_go hX ?_
          have hq : of_before σ (nI j) (nI k) = (0, 0, σ) := by
            unfold of_before
            rw [cs_xq_s2 hn hj, cs_xq_s2 hn hk]
            exact if_pos ((Or.inr (Or.inl (fun w => w.2 c6))))
          rw [hq]
          exact ⟨Or.inl rfl, _, _, ⟨_, hR0, hr0, hK0⟩, hs0, rfl, rfl, fun _ => rfl⟩
        · iterate 2 refine px_go hX ?_
          refine ⟨_, _, (px_up_s _ _ _), rfl, ?_⟩
          iterate 2 refine px_go hX ?_
          refine ⟨_, _, ((px_up_n _ _ (hR.ne (hr.2.1 3 (by decide) (by decide) (by decide)) hr.1 (by decide))).trans hA3), (vp_in_nI (by omega) (by omega)), ?_⟩
          rw [nI_clamp (by omega), show fa 3 k = cs_bf σ k 2 from (hs.2.1 k hk).2.2.1]
          iterate 2 refine px_go hX ?_
          refine ⟨fun (c7 : cs_bf σ k 2 = (3 : Int32)) => ?_, fun (c7 : ¬ cs_bf σ k 2 = (3 : Int32)) => ?_⟩
          · iterate 2 refine px_go hX ?_
            have hq : of_before σ (nI j) (nI k) = (0, 0, σ) := by
              unfold of_before
              rw [cs_xq_s2 hn hj, cs_xq_s2 hn hk]
              exact if_pos ((Or.inr (Or.inr (Or.inl (fun w => w.2 c7)))))
            rw [hq]
            exact ⟨Or.inl rfl, _, _, ⟨_, hR0, hr0, hK0⟩, hs0, rfl, rfl, fun _ => rfl⟩
          · iterate 2 refine px_go hX ?_
            refine ⟨_, _, (px_up_s _ _ _), rfl, ?_⟩
            iterate 2 refine px_go hX ?_
            refine ⟨_, _, ((px_up_n _ _ (hR.ne (hr.2.1 1 (by decide) (by decide) (by decide)) hr.1 (by decide))).trans hA1), (vp_in_nI (by omega) (by omega)), ?_⟩
            rw [nI_clamp (by omega), show fa 1 j = cs_bf σ j 0 from (hs.2.1 j hj).1]
            refine px_go hX ?_
            refine ⟨fun (c8 : ¬ cs_bf σ j 0 = 0) => ?_, fun (c8 : cs_bf σ j 0 = 0) => ?_⟩
            · iterate 2 refine px_go hX ?_
              have hq : of_before σ (nI j) (nI k) = (0, 0, σ) := by
                unfold of_before
                rw [cs_xq_s2 hn hj, cs_xq_s2 hn hk]
                exact if_pos ((Or.inr (Or.inl (fun w => c8 w.1))))
              rw [hq]
              exact ⟨Or.inl rfl, _, _, ⟨_, hR0, hr0, hK0⟩, hs0, rfl, rfl, fun _ => rfl⟩
            · iterate 2 refine px_go hX ?_
              refine ⟨_, _, (px_up_s _ _ _), rfl, ?_⟩
              iterate 2 refine px_go hX ?_
              refine ⟨_, _, ((px_up_n _ _ (hR.ne (hr.2.1 1 (by decide) (by decide) (by decide)) hr.1 (by decide))).trans hA1), (vp_in_nI (by omega) (by omega)), ?_⟩
              rw [nI_clamp (by omega), show fa 1 k = cs_bf σ k 0 from (hs.2.1 k hk).1]
              refine px_go hX ?_
              refine ⟨fun (c9 : ¬ cs_bf σ k 0 = 0) => ?_, fun (c9 : cs_bf σ k 0 = 0) => ?_⟩
              · iterate 2 refine px_go hX ?_
                have hq : of_before σ (nI j) (nI k) = (0, 0, σ) := by
                  unfold of_before
                  rw [cs_xq_s2 hn hj, cs_xq_s2 hn hk]
                  exact if_pos ((Or.inr (Or.inr (Or.inl (fun w => c9 w.1)))))
                rw [hq]
                exact ⟨Or.inl rfl, _, _, ⟨_, hR0, hr0, hK0⟩, hs0, rfl, rfl, fun _ => rfl⟩
              · iterate 2 refine px_go hX ?_
                refine ⟨_, _, (px_up_s _ _ _), rfl, ?_⟩
                iterate 6 refine px_go hX ?_
                refine ⟨_, _, ((px_up_n _ _ (hR.ne (hr.2.1 5 (by decide) (by decide) (by decide)) hr.1 (by decide))).trans hA5), (by rw [show (px_ic 16 * nI j + nI k) = nI (16 * j + k) from ie_16 j k]; exact vp_in_nI (by omega) (by omega)), ?_⟩
                rw [show (px_ic 16 * nI j + nI k) = nI (16 * j + k) from ie_16 j k, nI_clamp (by omega)]
                refine px_go hX ?_
                refine ⟨fun (c10 : ¬ fa 5 (16 * j + k) = 0) => ?_, fun (c10 : fa 5 (16 * j + k) = 0) => ?_⟩
                · iterate 2 refine px_go hX ?_
                  have hq : of_before σ (nI j) (nI k) = (0, 0, σ) := by
                    unfold of_before
                    rw [cs_xq_s2 hn hj, cs_xq_s2 hn hk]
                    exact if_pos ((Or.inr (Or.inr (Or.inr (Or.inr (Or.inl ((hs.2.2.1 j k (by omega) (by omega)).elim (fun h => h.1.2) (fun h => absurd h.2 c10))))))))
                  rw [hq]
                  exact ⟨Or.inl rfl, _, _, ⟨_, hR0, hr0, hK0⟩, hs0, rfl, rfl, fun _ => rfl⟩
                · iterate 4 refine px_go hX ?_
                  refine ⟨_, (px_up_s _ _ _), 0, 0, _, Nat.le_of_ble_eq_true rfl, Nat.le_of_ble_eq_true rfl, Nat.le_of_ble_eq_true rfl, rr_leads hR0 hr0 hs0 (by omega) (by omega), ?_⟩
                  rintro _ C ⟨rfl, ⟨b11, rfl⟩ | ⟨b11, rfl⟩⟩
                  · refine px_go hX ?_
                    refine ⟨fun (c12 : 1 = 0) => absurd c12 (by decide), fun (c12 : ¬ 1 = 0) => ?_⟩
                    iterate 2 refine px_go hX ?_
                    have hq : of_before σ (nI j) (nI k) = (0, 0, σ) := by
                      unfold of_before
                      rw [cs_xq_s2 hn hj, cs_xq_s2 hn hk]
                      exact if_pos (((lead_iff hn her hj hk).mp b11).elim (fun w => (Or.inr (Or.inr (Or.inr (Or.inl (congrArg nI w.symm)))))) (fun w => (Or.inr (Or.inr (Or.inr (Or.inr (Or.inr w)))))))
                    rw [hq]
                    exact ⟨Or.inl rfl, _, _, ⟨_, hR0, hr0, hK0⟩, hs0, rfl, rfl, fun _ => rfl⟩
                  · refine px_go hX ?_
                    refine ⟨fun (c13 : 0 = 0) => ?_, fun (c13 : ¬ 0 = 0) => absurd rfl c13⟩
                    obtain ⟨bj, hbj1, hbj⟩ := hB j hj
                    iterate 2 refine px_go hX ?_
                    refine ⟨_, _, (px_up_s _ _ _), rfl, ?_⟩
                    iterate 7 refine px_go hX ?_
                    refine ⟨_, _, ((px_up_n _ _ (hR.ne (hr.2.1 5 (by decide) (by decide) (by decide)) hr.1 (by decide))).trans hA5), (by rw [show (px_ic 16 * nI j + nI k) = nI (16 * j + k) from ie_16 j k]; exact vp_in_nI (by omega) (by omega)), ?_⟩
                    rw [show (px_ic 16 * nI j + nI k) = nI (16 * j + k) from ie_16 j k, nI_clamp (by omega), show vp_nar .boolean (px_ic 1) = 1 from by decide +kernel]
                    iterate 3 refine px_go hX ?_
                    refine ⟨_, _, ((px_up_n _ _ (hR.ne hr.1 (hr.2.1 5 (by decide) (by decide) (by decide)) (by decide))).trans (px_up_s _ _ _)), rfl, ?_⟩
                    iterate 2 refine px_go hX ?_
                    refine ⟨_, _, ((px_up_n _ _ (hR.ne (hr.2.1 2 (by decide) (by decide) (by decide)) (hr.2.1 5 (by decide) (by decide) (by decide)) (by decide))).trans ((px_up_n _ _ (hR.ne (hr.2.1 2 (by decide) (by decide) (by decide)) hr.1 (by decide))).trans hA2)), (vp_in_nI (by omega) (by omega)), ?_⟩
                    rw [nI_clamp (by omega), show fa 2 j = cs_bf σ j 1 from (hs.2.1 j hj).2.1]
                    have hR1 := ((hR.put (i := 100) hr.1 (px_o 4 [.int ((0 : Int32)), .int (nI (cs_nb σ)), .int (nI (cs_ti σ)), .int (nI (cs_n σ)), .ref (ad 101), .ref (ad 102), .ref (ad 103), .ref (ad 104), .ref (ad 105), .ref (ad 106), .int (fs 1), .int (fs 2), .ref (ad 107), .ref (ad 108), .ref (ad 109), .ref (ad 110), .ref (ad 111), .ref (ad 112), .ref (ad 113), .ref (ad 114), .ref (ad 115), .int (fs 3), .ref (ad 116), .ref (ad 117), .int (fs 4)])).put (i := 105) ((rp_up_n _ _ (by decide)).trans (hr.2.1 5 (by decide) (by decide) (by decide))) (px_z 256 (upd (fa 5) (16 * j + k) (1))))
                    have hr1 : Rl ad (((σ.1, (fun q => match q with | 0 => 0 | 1 => fs 1 | 2 => fs 2 | 3 => fs 3 | _ => fs 4), va_up fa 5 (upd (fa 5) (16 * j + k) 1), fw) : rs_S)) (rp_up (rp_up (K) (100) (px_o 4 [.int ((0 : Int32)), .int (nI (cs_nb σ)), .int (nI (cs_ti σ)), .int (nI (cs_n σ)), .ref (ad 101), .ref (ad 102), .ref (ad 103), .ref (ad 104), .ref (ad 105), .ref (ad 106), .int (fs 1), .int (fs 2), .ref (ad 107), .ref (ad 108), .ref (ad 109), .ref (ad 110), .ref (ad 111), .ref (ad 112), .ref (ad 113), .ref (ad 114), .ref (ad 115), .int (fs 3), .ref (ad 116), .ref (ad 117), .int (fs 4)])) (105) (px_z 256 (upd (fa 5) (16 * j + k) (1)))) := (hr.sO _ (fun q => match q with | 0 => 0 | 1 => fs 1 | 2 => fs 2 | 3 => fs 3 | _ => fs 4)).sA (q := 5) (by decide) (by decide) (by decide) _
                    have hK1 : ∀ zz, zz < 100 ∨ 118 ≤ zz → (rp_up (rp_up (K) (100) (px_o 4 [.int ((0 : Int32)), .int (nI (cs_nb σ)), .int (nI (cs_ti σ)), .int (nI (cs_n σ)), .ref (ad 101), .ref (ad 102), .ref (ad 103), .ref (ad 104), .ref (ad 105), .ref (ad 106), .int (fs 1), .int (fs 2), .ref (ad 107), .ref (ad 108), .ref (ad 109), .ref (ad 110), .ref (ad 111), .ref (ad 112), .ref (ad 113), .ref (ad 114), .ref (ad 115), .int (fs 3), .ref (ad 116), .ref (ad 117), .int (fs 4)])) (105) (px_z 256 (upd (fa 5) (16 * j + k) (1)))) zz = (K) zz := fun zz hzz => by rw [rp_up_n _ _ (by omega), rp_up_n _ _ (by omega)]
                    refine px_go hX ?_
                    refine ⟨_, ((px_up_n _ _ (hR.ne hr.1 (hr.2.1 5 (by decide) (by decide) (by decide)) (by decide))).trans (px_up_s _ _ _)), 0, 0, _, Nat.le_of_ble_eq_true rfl, Nat.le_of_ble_eq_true rfl, Nat.le_of_ble_eq_true rfl, rr_voids2 (b := bj) hR1 hr1 (by omega) hbj, ?_⟩
                    rintro _ C ⟨rfl, K3, hR3, hr3, hK3⟩
                    iterate 2 refine px_go hX ?_
                    have hq : of_before σ (nI j) (nI k) = (0, 1, cs_fp (cs_nd σ k (nI j)) bj) := by
                      unfold of_before
                      rw [cs_xq_s2 hn hj, cs_xq_s2 hn hk]
                      refine (if_neg ?_).trans ?_
                      · rintro (q | q | q | q | q | q)
                        · exact q c5
                        · exact q ⟨c8, c6⟩
                        · exact q ⟨c9, c7⟩
                        · exact b11 ((lead_iff hn her hj hk).mpr (Or.inl ((nI_eq (by omega) (by omega)).mp q).symm))
                        · exact (hs.2.2.1 j k (by omega) (by omega)).elim (fun h => absurd (h.2.symm.trans c10) (by decide)) (fun h => h.1 ⟨hk, q⟩)
                        · exact b11 ((lead_iff hn her hj hk).mpr (Or.inr q))
                      · rw [hbj, nI_clamp (by omega)]
                    rw [hq]
                    have e7 : (va_up fa 5 (upd (fa 5) (16 * j + k) 1)) 7 = fa 7 := va_up_ne _ _ (by omega)
                    have hr3 : Rl ad ((σ.1, (fun q => match q with | 0 => 0 | 1 => fs 1 | 2 => fs 2 | 3 => fs 3 | _ => fs 4), (va_up (va_up fa 5 (upd (fa 5) (16 * j + k) 1)) 7 (upd (fa 7) bj 0)), fw) : rs_S) K3 := by
                      have q := hr3
                      unfold rs_sA at q
                      simp only [e7] at q
                      exact q
                    refine ⟨Or.inr rfl, _, _, ⟨K3, hR3, hr3, fun zz hz => by rw [hK3 zz hz, hK1 zz hz]⟩, Sim.nd hs hn her hj hk rfl rfl ?_ ?_ (fun q q5 q7 => ?_), rfl, rfl, fun _ => rfl⟩
                    · rw [va_up_ne _ _ (by omega), va_up_self]
                    · rw [va_up_self]
                    · rw [va_up_ne _ _ q7, va_up_ne _ _ q5]
    · refine px_go hX ?_
      refine ⟨fun (c14 : 0 = 0) => ?_, fun (c14 : ¬ 0 = 0) => absurd rfl c14⟩
      iterate 2 refine px_go hX ?_
      have hq : of_before σ (nI j) y = (0, 0, σ) := by
        unfold of_before
        rw [cs_xq_s2 hn hj, cs_xq_n (px_nix b3)]
      rw [hq]
      exact ⟨Or.inl rfl, _, _, ⟨_, hR0, hr0, hK0⟩, hs0, rfl, rfl, fun _ => rfl⟩
  · refine px_go hX ?_
    refine ⟨fun (c15 : 0 = 0) => ?_, fun (c15 : ¬ 0 = 0) => absurd rfl c15⟩
    iterate 2 refine px_go hX ?_
    have hq : of_before σ x y = (0, 0, σ) := by
      unfold of_before
      rw [cs_xq_n (px_nix b1)]
    rw [hq]
    exact ⟨Or.inl rfl, _, _, ⟨_, hR0, hr0, hK0⟩, hs0, rfl, rfl, fun _ => rfl⟩
end SH
