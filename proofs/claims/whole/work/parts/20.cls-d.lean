/-! The class's calls that change its state: swap, work, before. -/
section RH
variable {B : Nat} {sc : Option (Nat × Nat × (Nat → Int32))} {d : Nat} {ad : Nat → Nat} {σ : ck_S} {K : rp_K} {C : px_P}
def cs_sw (σ : ck_S) (j k : Nat) : ck_S := cs_sB (cs_sB σ j (fun q => match q with | 0 => cs_bf σ j 0 | 1 => cs_bf σ k 1 | 2 => cs_bf σ k 2 | 3 => cs_bf σ k 3 | _ => cs_bf σ j 4)) k (fun q => match q with | 0 => cs_bf σ k 0 | 1 => cs_bf σ j 1 | 2 => cs_bf σ j 2 | 3 => cs_bf σ j 3 | _ => cs_bf σ k 4)
theorem cc_changePlaces (hR : Rp ad K C) (hc : Cl ad σ K) {j k : Nat} (hj : j < cs_n σ) (hk : k < cs_n σ) (hjk : j ≠ k) : px_W ps_Y ps_P B sc (d + 1) 49 [.ref (ad (40 + j)), .ref (ad (40 + k))] C 0 0 (fun v C' => v = none ∧ Ck ad (cs_sw σ j k) K C') px_no := by
  have h0 := hR.1 0 _ hc.1.1
  have hn := hc.2.2.2.2.2.2.2.2.2
  refine ⟨pm_Box_changePlaces, rfl, Nat.le_of_ble_eq_true rfl, fun X hw hX => ?_⟩
  iterate 2 refine px_go hX ?_
  refine ⟨_, _, (hR.1 _ _ (hc.2.2.2.1 j hj)), rfl, ?_⟩
  iterate 3 refine px_go hX ?_
  refine ⟨_, _, (hR.1 _ _ (hc.2.2.2.1 j hj)), rfl, ?_⟩
  iterate 3 refine px_go hX ?_
  refine ⟨_, _, (hR.1 _ _ (hc.2.2.2.1 j hj)), rfl, ?_⟩
  iterate 4 refine px_go hX ?_
  refine ⟨_, _, (hR.1 _ _ (hc.2.2.2.1 k hk)), rfl, ?_⟩
  refine px_go hX ?_
  refine ⟨_, (hR.1 _ _ (hc.2.2.2.1 j hj)), Nat.le_of_ble_eq_true rfl, rfl, rfl, ?_⟩
  iterate 3 refine px_go hX ?_
  refine ⟨_, _, ((px_up_n _ _ (hR.ne (hc.2.2.2.1 k hk) (hc.2.2.2.1 j hj) (by omega))).trans (hR.1 _ _ (hc.2.2.2.1 k hk))), rfl, ?_⟩
  refine px_go hX ?_
  refine ⟨_, (px_up_s _ _ _), Nat.le_of_ble_eq_true rfl, rfl, rfl, ?_⟩
  iterate 3 refine px_go hX ?_
  refine ⟨_, _, ((px_up_n _ _ (hR.ne (hc.2.2.2.1 k hk) (hc.2.2.2.1 j hj) (by omega))).trans ((px_up_n _ _ (hR.ne (hc.2.2.2.1 k hk) (hc.2.2.2.1 j hj) (by omega))).trans (hR.1 _ _ (hc.2.2.2.1 k hk)))), rfl, ?_⟩
  refine px_go hX ?_
  refine ⟨_, (px_up_s _ _ _), Nat.le_of_ble_eq_true rfl, rfl, rfl, ?_⟩
  iterate 3 refine px_go hX ?_
  refine ⟨_, ((px_up_n _ _ (hR.ne (hc.2.2.2.1 k hk) (hc.2.2.2.1 j hj) (by omega))).trans ((px_up_n _ _ (hR.ne (hc.2.2.2.1 k hk) (hc.2.2.2.1 j hj) (by omega))).trans ((px_up_n _ _ (hR.ne (hc.2.2.2.1 k hk) (hc.2.2.2.1 j hj) (by omega))).trans (hR.1 _ _ (hc.2.2.2.1 k hk))))), Nat.le_of_ble_eq_true rfl, rfl, rfl, ?_⟩
  iterate 3 refine px_go hX ?_
  refine ⟨_, (px_up_s _ _ _), Nat.le_of_ble_eq_true rfl, rfl, rfl, ?_⟩
  iterate 3 refine px_go hX ?_
  refine ⟨_, (px_up_s _ _ _), Nat.le_of_ble_eq_true rfl, rfl, rfl, ?_⟩
  refine px_go hX ?_
  have hR1 := ((((((hR.put (i := 40 + j) (hc.2.2.2.1 j hj) (px_o 2 [.int (cs_bf σ j 0), .int (cs_bf σ k 1), .int (cs_bf σ j 2), .int (cs_bf σ j 3), .int (cs_bf σ j 4)])).put (i := 40 + j) (rp_up_s _ _ _) (px_o 2 [.int (cs_bf σ j 0), .int (cs_bf σ k 1), .int (cs_bf σ k 2), .int (cs_bf σ j 3), .int (cs_bf σ j 4)])).put (i := 40 + j) (rp_up_s _ _ _) (px_o 2 [.int (cs_bf σ j 0), .int (cs_bf σ k 1), .int (cs_bf σ k 2), .int (cs_bf σ k 3), .int (cs_bf σ j 4)])).put (i := 40 + k) ((rp_up_n _ _ (by omega)).trans ((rp_up_n _ _ (by omega)).trans ((rp_up_n _ _ (by omega)).trans (hc.2.2.2.1 k hk)))) (px_o 2 [.int (cs_bf σ k 0), .int (cs_bf σ j 1), .int (cs_bf σ k 2), .int (cs_bf σ k 3), .int (cs_bf σ k 4)])).put (i := 40 + k) (rp_up_s _ _ _) (px_o 2 [.int (cs_bf σ k 0), .int (cs_bf σ j 1), .int (cs_bf σ j 2), .int (cs_bf σ k 3), .int (cs_bf σ k 4)])).put (i := 40 + k) (rp_up_s _ _ _) (px_o 2 [.int (cs_bf σ k 0), .int (cs_bf σ j 1), .int (cs_bf σ j 2), .int (cs_bf σ j 3), .int (cs_bf σ k 4)]))
  have hc1 : Cl ad (cs_sw σ j k) (rp_up (rp_up (rp_up (rp_up (rp_up (rp_up (K) (40 + j) (px_o 2 [.int (cs_bf σ j 0), .int (cs_bf σ k 1), .int (cs_bf σ j 2), .int (cs_bf σ j 3), .int (cs_bf σ j 4)])) (40 + j) (px_o 2 [.int (cs_bf σ j 0), .int (cs_bf σ k 1), .int (cs_bf σ k 2), .int (cs_bf σ j 3), .int (cs_bf σ j 4)])) (40 + j) (px_o 2 [.int (cs_bf σ j 0), .int (cs_bf σ k 1), .int (cs_bf σ k 2), .int (cs_bf σ k 3), .int (cs_bf σ j 4)])) (40 + k) (px_o 2 [.int (cs_bf σ k 0), .int (cs_bf σ j 1), .int (cs_bf σ k 2), .int (cs_bf σ k 3), .int (cs_bf σ k 4)])) (40 + k) (px_o 2 [.int (cs_bf σ k 0), .int (cs_bf σ j 1), .int (cs_bf σ j 2), .int (cs_bf σ k 3), .int (cs_bf σ k 4)])) (40 + k) (px_o 2 [.int (cs_bf σ k 0), .int (cs_bf σ j 1), .int (cs_bf σ j 2), .int (cs_bf σ j 3), .int (cs_bf σ k 4)])) := by
    rw [rp_up_up, rp_up_up, rp_up_up, rp_up_up]
    exact (hc.sB hj _).sB hk _
  have hK1 : ∀ i, 100 ≤ i → (rp_up (rp_up (rp_up (rp_up (rp_up (rp_up (K) (40 + j) (px_o 2 [.int (cs_bf σ j 0), .int (cs_bf σ k 1), .int (cs_bf σ j 2), .int (cs_bf σ j 3), .int (cs_bf σ j 4)])) (40 + j) (px_o 2 [.int (cs_bf σ j 0), .int (cs_bf σ k 1), .int (cs_bf σ k 2), .int (cs_bf σ j 3), .int (cs_bf σ j 4)])) (40 + j) (px_o 2 [.int (cs_bf σ j 0), .int (cs_bf σ k 1), .int (cs_bf σ k 2), .int (cs_bf σ k 3), .int (cs_bf σ j 4)])) (40 + k) (px_o 2 [.int (cs_bf σ k 0), .int (cs_bf σ j 1), .int (cs_bf σ k 2), .int (cs_bf σ k 3), .int (cs_bf σ k 4)])) (40 + k) (px_o 2 [.int (cs_bf σ k 0), .int (cs_bf σ j 1), .int (cs_bf σ j 2), .int (cs_bf σ k 3), .int (cs_bf σ k 4)])) (40 + k) (px_o 2 [.int (cs_bf σ k 0), .int (cs_bf σ j 1), .int (cs_bf σ j 2), .int (cs_bf σ j 3), .int (cs_bf σ k 4)])) i = (K) i := fun i hi => by rw [rp_up_n _ _ (by omega), rp_up_n _ _ (by omega), rp_up_n _ _ (by omega), rp_up_n _ _ (by omega), rp_up_n _ _ (by omega), rp_up_n _ _ (by omega)]
  exact ⟨rfl, _, hR1, hc1, hK1⟩
/-- boxes stand in bays -/
def cs_inb (σ : ck_S) : Prop := ∀ j, j < cs_n σ → ∃ b, b < cs_nb σ ∧ cs_bf σ j 1 = nI b
def of_swap (σ : ck_S) (x y : Int32) : cs_R := match cs_xq σ x, cs_xq σ y with
  | some j, some k => if x = y ∨ ¬ cs_bf σ j 0 = cs_bf σ k 0 ∨ 3 ≤ cs_bf σ j 2 ∨ 3 ≤ cs_bf σ k 2 ∨ cs_nds σ j ∨ cs_nds σ k then (0, 0, σ) else (0, 1, cs_sw (cs_fp (cs_fp σ (cs_bf σ j 1).toNatClampNeg) (cs_bf σ k 1).toNatClampNeg) j k)
  | _, _ => (1, 0, σ)
theorem cc_swap (hR : Rp ad K C) (hc : Cl ad σ K) (hB : cs_inb σ) (x y : Int32) : px_W ps_Y ps_P B sc (d + 3) 50 [.ref (ad 0), .int x, .int y] C 1 6 (px_oC ad K (of_swap σ x y)) (px_oT ad K (of_swap σ x y)) := by
  have h0 := hR.1 0 _ hc.1.1
  have hn := hc.2.2.2.2.2.2.2.2.2
  have hnb := hc.2.2.2.2.2.2.1
  refine ⟨pm_Mo_swap, rfl, Nat.le_of_ble_eq_true rfl, fun X hw hX => ?_⟩
  iterate 3 refine px_go hX ?_
  refine ⟨_, h0, 0, 0, _, Nat.le_of_ble_eq_true rfl, Nat.le_of_ble_eq_true rfl, Nat.le_of_ble_eq_true rfl, cc_boxAt hR hc _, ?_⟩
  rintro _ C ⟨rfl, ⟨j, hj, hx, rfl⟩ | ⟨hx, rfl⟩⟩
  · iterate 4 refine px_go hX ?_
    refine ⟨_, h0, 0, 0, _, Nat.le_of_ble_eq_true rfl, Nat.le_of_ble_eq_true rfl, Nat.le_of_ble_eq_true rfl, cc_boxAt hR hc _, ?_⟩
    rintro _ C ⟨rfl, ⟨k, hk, hy, rfl⟩ | ⟨hy, rfl⟩⟩
    · iterate 8 refine px_go hX ?_
      refine ⟨fun (c1 : x = y) => ?_, fun (c1 : ¬ x = y) => ?_⟩
      · iterate 2 refine px_go hX ?_
        have hr : of_swap σ x y = (0, 0, σ) := by
          have h3 : cs_xq σ x = some j := by rw [hx]; exact cs_xq_s hc hj
          have h4 : cs_xq σ y = some k := by rw [hy]; exact cs_xq_s hc hk
          unfold of_swap
          rw [h3, h4]
          exact if_pos (Or.inl c1)
        rw [hr]
        exact ⟨rfl, rfl, Ca.of hR hc⟩
      · iterate 2 refine px_go hX ?_
        refine ⟨_, _, (hR.1 _ _ (hc.2.2.2.1 j hj)), rfl, ?_⟩
        iterate 2 refine px_go hX ?_
        refine ⟨_, _, (hR.1 _ _ (hc.2.2.2.1 k hk)), rfl, ?_⟩
        refine px_go hX ?_
        refine ⟨fun (c2 : ¬ cs_bf σ j 0 = cs_bf σ k 0) => ?_, fun (c2 : cs_bf σ j 0 = cs_bf σ k 0) => ?_⟩
        · iterate 2 refine px_go hX ?_
          have hr : of_swap σ x y = (0, 0, σ) := by
            have h3 : cs_xq σ x = some j := by rw [hx]; exact cs_xq_s hc hj
            have h4 : cs_xq σ y = some k := by rw [hy]; exact cs_xq_s hc hk
            unfold of_swap
            rw [h3, h4]
            exact if_pos (Or.inr (Or.inl c2))
          rw [hr]
          exact ⟨rfl, rfl, Ca.of hR hc⟩
        · iterate 2 refine px_go hX ?_
          refine ⟨_, (hR.1 _ _ (hc.2.2.2.1 j hj)), 0, 0, _, Nat.le_of_ble_eq_true rfl, Nat.le_of_ble_eq_true rfl, Nat.le_of_ble_eq_true rfl, cc_liesInStack hR hc hj, ?_⟩
          rintro _ C ⟨rfl, ⟨b3, rfl⟩ | ⟨b3, rfl⟩⟩
          · refine px_go hX ?_
            refine ⟨fun (c4 : 1 = 0) => absurd c4 (by decide), fun (c4 : ¬ 1 = 0) => ?_⟩
            iterate 2 refine px_go hX ?_
            refine ⟨_, (hR.1 _ _ (hc.2.2.2.1 k hk)), 0, 0, _, Nat.le_of_ble_eq_true rfl, Nat.le_of_ble_eq_true rfl, Nat.le_of_ble_eq_true rfl, cc_liesInStack hR hc hk, ?_⟩
            rintro _ C ⟨rfl, ⟨b5, rfl⟩ | ⟨b5, rfl⟩⟩
            · refine px_go hX ?_
              refine ⟨fun (c6 : ¬ 1 = 0) => ?_, fun (c6 : 1 = 0) => absurd c6 (by decide)⟩
              iterate 4 refine px_go hX ?_
              refine ⟨_, h0, 0, 0, _, Nat.le_of_ble_eq_true rfl, Nat.le_of_ble_eq_true rfl, Nat.le_of_ble_eq_true rfl, (by rw [hx]; exact cc_hasNeeds hR hc hj), ?_⟩
              rintro _ C ⟨rfl, ⟨b7, rfl⟩ | ⟨b7, rfl⟩⟩
              · refine px_go hX ?_
                refine ⟨fun (c8 : ¬ 1 = 0) => ?_, fun (c8 : 1 = 0) => absurd c8 (by decide)⟩
                iterate 2 refine px_go hX ?_
                have hr : of_swap σ x y = (0, 0, σ) := by
                  have h3 : cs_xq σ x = some j := by rw [hx]; exact cs_xq_s hc hj
                  have h4 : cs_xq σ y = some k := by rw [hy]; exact cs_xq_s hc hk
                  unfold of_swap
                  rw [h3, h4]
                  exact if_pos (Or.inr (Or.inr (Or.inr (Or.inr (Or.inl b7)))))
                rw [hr]
                exact ⟨rfl, rfl, Ca.of hR hc⟩
              · refine px_go hX ?_
                refine ⟨fun (c9 : ¬ 0 = 0) => absurd rfl c9, fun (c9 : 0 = 0) => ?_⟩
                iterate 4 refine px_go hX ?_
                refine ⟨_, h0, 0, 0, _, Nat.le_of_ble_eq_true rfl, Nat.le_of_ble_eq_true rfl, Nat.le_of_ble_eq_true rfl, (by rw [hy]; exact cc_hasNeeds hR hc hk), ?_⟩
                rintro _ C ⟨rfl, ⟨b10, rfl⟩ | ⟨b10, rfl⟩⟩
                · refine px_go hX ?_
                  refine ⟨fun (c11 : 1 = 0) => absurd c11 (by decide), fun (c11 : ¬ 1 = 0) => ?_⟩
                  iterate 2 refine px_go hX ?_
                  have hr : of_swap σ x y = (0, 0, σ) := by
                    have h3 : cs_xq σ x = some j := by rw [hx]; exact cs_xq_s hc hj
                    have h4 : cs_xq σ y = some k := by rw [hy]; exact cs_xq_s hc hk
                    unfold of_swap
                    rw [h3, h4]
                    exact if_pos (Or.inr (Or.inr (Or.inr (Or.inr (Or.inr b10)))))
                  rw [hr]
                  exact ⟨rfl, rfl, Ca.of hR hc⟩
                · refine px_go hX ?_
                  refine ⟨fun (c12 : 0 = 0) => ?_, fun (c12 : ¬ 0 = 0) => absurd rfl c12⟩
                  obtain ⟨bj, hbj1, hbj⟩ := hB j hj
                  obtain ⟨bk, hbk1, hbk⟩ := hB k hk
                  iterate 3 refine px_go hX ?_
                  refine ⟨_, _, (hR.1 _ _ (hc.2.2.2.1 j hj)), rfl, ?_⟩
                  refine px_go hX ?_
                  refine ⟨_, h0, 0, 0, _, Nat.le_of_ble_eq_true rfl, Nat.le_of_ble_eq_true rfl, Nat.le_of_ble_eq_true rfl, (by rw [show cs_bf σ j 1 = nI bj from hbj]; exact cc_forgetPlanOf hR hc hbj1), ?_⟩
                  rintro _ C ⟨rfl, K1, hR1, hc1, hK1⟩
                  iterate 3 refine px_go hX ?_
                  refine ⟨_, _, (hR1.1 _ _ (hc1.2.2.2.1 k hk)), rfl, ?_⟩
                  refine px_go hX ?_
                  refine ⟨_, (hR1.1 0 _ hc1.1.1), 0, 0, _, Nat.le_of_ble_eq_true rfl, Nat.le_of_ble_eq_true rfl, Nat.le_of_ble_eq_true rfl, (by rw [show cs_bf (cs_fp σ bj) k 1 = nI bk from hbk]; exact cc_forgetPlanOf hR1 hc1 hbk1), ?_⟩
                  rintro _ C ⟨rfl, K2, hR2, hc2, hK2⟩
                  iterate 3 refine px_go hX ?_
                  refine ⟨_, (hR2.1 _ _ (hc2.2.2.2.1 j hj)), 0, 0, _, Nat.le_of_ble_eq_true rfl, Nat.le_of_ble_eq_true rfl, Nat.le_of_ble_eq_true rfl, cc_changePlaces hR2 hc2 hj hk (fun w => c1 (by rw [hx, hy, w])), ?_⟩
                  rintro _ C ⟨rfl, K3, hR3, hc3, hK3⟩
                  iterate 2 refine px_go hX ?_
                  have hr : of_swap σ x y = (0, 1, cs_sw (cs_fp (cs_fp σ bj) bk) j k) := by
                    have h3 : cs_xq σ x = some j := by rw [hx]; exact cs_xq_s hc hj
                    have h4 : cs_xq σ y = some k := by rw [hy]; exact cs_xq_s hc hk
                    unfold of_swap
                    rw [h3, h4]
                    refine (if_neg ?_).trans ?_
                    · rintro (q | q | q | q | q | q)
                      · exact c1 q
                      · exact q c2
                      · exact b3 q
                      · exact b5 q
                      · exact b7 q
                      · exact b10 q
                    · rw [hbj, hbk, nI_clamp (by omega), nI_clamp (by omega)]
                  rw [hr]
                  exact ⟨rfl, rfl, Ck.ca ⟨K3, hR3, hc3, fun i hi => by rw [hK3 i hi, hK2 i hi, hK1 i hi]⟩⟩
            · refine px_go hX ?_
              refine ⟨fun (c13 : ¬ 0 = 0) => absurd rfl c13, fun (c13 : 0 = 0) => ?_⟩
              iterate 2 refine px_go hX ?_
              have hr : of_swap σ x y = (0, 0, σ) := by
                have h3 : cs_xq σ x = some j := by rw [hx]; exact cs_xq_s hc hj
                have h4 : cs_xq σ y = some k := by rw [hy]; exact cs_xq_s hc hk
                unfold of_swap
                rw [h3, h4]
                exact if_pos (Or.inr (Or.inr (Or.inr (Or.inl (Classical.not_not.mp b5)))))
              rw [hr]
              exact ⟨rfl, rfl, Ca.of hR hc⟩
          · refine px_go hX ?_
            refine ⟨fun (c14 : 0 = 0) => ?_, fun (c14 : ¬ 0 = 0) => absurd rfl c14⟩
            iterate 2 refine px_go hX ?_
            have hr : of_swap σ x y = (0, 0, σ) := by
              have h3 : cs_xq σ x = some j := by rw [hx]; exact cs_xq_s hc hj
              have h4 : cs_xq σ y = some k := by rw [hy]; exact cs_xq_s hc hk
              unfold of_swap
              rw [h3, h4]
              exact if_pos (Or.inr (Or.inr (Or.inl (Classical.not_not.mp b3))))
            rw [hr]
            exact ⟨rfl, rfl, Ca.of hR hc⟩
    · iterate 6 refine px_go hX ?_
      have hr : of_swap σ x y = (1, 0, σ) := by
        unfold of_swap
        rw [hx, cs_xq_s hc hj, cs_xq_n hy]
      refine ⟨Nat.le_refl 1, Nat.le_refl 6, rfl, ?_⟩
      rw [hr]
      exact ⟨Or.inl ⟨rfl, rfl⟩, Ca.of hR hc⟩
  · iterate 4 refine px_go hX ?_
    refine ⟨_, h0, 0, 0, _, Nat.le_of_ble_eq_true rfl, Nat.le_of_ble_eq_true rfl, Nat.le_of_ble_eq_true rfl, cc_boxAt hR hc _, ?_⟩
    rintro _ C ⟨rfl, ⟨k, hk, hy, rfl⟩ | ⟨hy, rfl⟩⟩
    · iterate 4 refine px_go hX ?_
      have hr : of_swap σ x y = (1, 0, σ) := by
        unfold of_swap
        rw [cs_xq_n hx]
      refine ⟨Nat.le_refl 1, Nat.le_refl 6, rfl, ?_⟩
      rw [hr]
      exact ⟨Or.inl ⟨rfl, rfl⟩, Ca.of hR hc⟩
    · iterate 4 refine px_go hX ?_
      have hr : of_swap σ x y = (1, 0, σ) := by
        unfold of_swap
        rw [cs_xq_n hx]
      refine ⟨Nat.le_refl 1, Nat.le_refl 6, rfl, ?_⟩
      rw [hr]
      exact ⟨Or.inl ⟨rfl, rfl⟩, Ca.of hR hc⟩
end RH
