/-! The search: clear, add, the stacks' heights, reach. -/
section RL
variable {B : Nat} {sc : Option (Nat × Nat × (Nat → Int32))} {d : Nat} {ad : Nat → Nat} {σ : ck_S} {K : rp_K} {C : px_P}
def cs_clr (σ : ck_S) : ck_S := cs_sSi σ (fun q => match q with | 0 => 0 | 1 => 0 | 2 => 0 | 3 => cs_si σ 3 | _ => cs_si σ 4)
theorem cc_clear (hR : Rp ad K C) (hc : Cl ad σ K) : px_W ps_Y ps_P B sc (d + 1) 31 [.ref (ad 3)] C 0 0 (fun v C' => v = none ∧ Ck ad (cs_clr σ) K C') px_no := by
  refine ⟨pm_Sea_clear, rfl, Nat.le_of_ble_eq_true rfl, fun X hw hX => ?_⟩
  iterate 3 refine px_go hX ?_
  refine ⟨_, (hR.1 3 _ hc.1.2.2.2), Nat.le_of_ble_eq_true rfl, rfl, rfl, ?_⟩
  iterate 3 refine px_go hX ?_
  refine ⟨_, (px_up_s _ _ _), Nat.le_of_ble_eq_true rfl, rfl, rfl, ?_⟩
  iterate 3 refine px_go hX ?_
  refine ⟨_, (px_up_s _ _ _), Nat.le_of_ble_eq_true rfl, rfl, rfl, ?_⟩
  refine px_go hX ?_
  have hR1 := (((hR.put (i := 3) hc.1.2.2.2 (px_o 3 [.int (nI (cs_ti σ)), .ref (ad 4), .ref (ad 5), .ref (ad 6), .ref (ad 7), .ref (ad 8), .ref (ad 9), .ref (ad 10), .ref (ad 11), .int ((0 : Int32)), .int (cs_si σ 1), .int (cs_si σ 2), .int (cs_si σ 3), .int (cs_si σ 4)])).put (i := 3) (rp_up_s _ _ _) (px_o 3 [.int (nI (cs_ti σ)), .ref (ad 4), .ref (ad 5), .ref (ad 6), .ref (ad 7), .ref (ad 8), .ref (ad 9), .ref (ad 10), .ref (ad 11), .int ((0 : Int32)), .int ((0 : Int32)), .int (cs_si σ 2), .int (cs_si σ 3), .int (cs_si σ 4)])).put (i := 3) (rp_up_s _ _ _) (px_o 3 [.int (nI (cs_ti σ)), .ref (ad 4), .ref (ad 5), .ref (ad 6), .ref (ad 7), .ref (ad 8), .ref (ad 9), .ref (ad 10), .ref (ad 11), .int ((0 : Int32)), .int ((0 : Int32)), .int ((0 : Int32)), .int (cs_si σ 3), .int (cs_si σ 4)]))
  have hc1 : Cl ad (cs_clr σ) (rp_up (rp_up (rp_up (K) (3) (px_o 3 [.int (nI (cs_ti σ)), .ref (ad 4), .ref (ad 5), .ref (ad 6), .ref (ad 7), .ref (ad 8), .ref (ad 9), .ref (ad 10), .ref (ad 11), .int ((0 : Int32)), .int (cs_si σ 1), .int (cs_si σ 2), .int (cs_si σ 3), .int (cs_si σ 4)])) (3) (px_o 3 [.int (nI (cs_ti σ)), .ref (ad 4), .ref (ad 5), .ref (ad 6), .ref (ad 7), .ref (ad 8), .ref (ad 9), .ref (ad 10), .ref (ad 11), .int ((0 : Int32)), .int ((0 : Int32)), .int (cs_si σ 2), .int (cs_si σ 3), .int (cs_si σ 4)])) (3) (px_o 3 [.int (nI (cs_ti σ)), .ref (ad 4), .ref (ad 5), .ref (ad 6), .ref (ad 7), .ref (ad 8), .ref (ad 9), .ref (ad 10), .ref (ad 11), .int ((0 : Int32)), .int ((0 : Int32)), .int ((0 : Int32)), .int (cs_si σ 3), .int (cs_si σ 4)])) := by
    rw [rp_up_up, rp_up_up]
    exact hc.sSi _
  have hK1 : ∀ zz, 100 ≤ zz → (rp_up (rp_up (rp_up (K) (3) (px_o 3 [.int (nI (cs_ti σ)), .ref (ad 4), .ref (ad 5), .ref (ad 6), .ref (ad 7), .ref (ad 8), .ref (ad 9), .ref (ad 10), .ref (ad 11), .int ((0 : Int32)), .int (cs_si σ 1), .int (cs_si σ 2), .int (cs_si σ 3), .int (cs_si σ 4)])) (3) (px_o 3 [.int (nI (cs_ti σ)), .ref (ad 4), .ref (ad 5), .ref (ad 6), .ref (ad 7), .ref (ad 8), .ref (ad 9), .ref (ad 10), .ref (ad 11), .int ((0 : Int32)), .int ((0 : Int32)), .int (cs_si σ 2), .int (cs_si σ 3), .int (cs_si σ 4)])) (3) (px_o 3 [.int (nI (cs_ti σ)), .ref (ad 4), .ref (ad 5), .ref (ad 6), .ref (ad 7), .ref (ad 8), .ref (ad 9), .ref (ad 10), .ref (ad 11), .int ((0 : Int32)), .int ((0 : Int32)), .int ((0 : Int32)), .int (cs_si σ 3), .int (cs_si σ 4)])) zz = (K) zz := fun zz hzz => by rw [rp_up_n _ _ (by omega), rp_up_n _ _ (by omega), rp_up_n _ _ (by omega)]
  exact ⟨rfl, _, hR1, hc1, hK1⟩
def cs_ad (σ : ck_S) (j n : Nat) (pv lb : Int32) : ck_S := cs_jk σ (va_up (va_up (cs_sa σ) 0 (upd (cs_sa σ 0) n (nI j))) 1 (upd (cs_sa σ 1) n (cs_bf σ j 4)), cs_sn σ, fun q => match q with | 0 => nI n + 1 | 1 => cs_si σ 1 ||| (lb <<< (nI n &&& 31)) | 2 => cs_si σ 2 ||| ((pv &&& 15) <<< ((nI n * 4) &&& 31)) | 3 => cs_si σ 3 | _ => cs_si σ 4)
theorem cc_add (hR : Rp ad K C) (hc : Cl ad σ K) {j n : Nat} (hj : j < cs_n σ) (hsz : cs_si σ 0 = nI n) (hn4 : n < 4) : px_W ps_Y ps_P B sc (d + 1) 32 [.ref (ad 3), .int (nI j), .ref (ad (40 + j))] C 0 0 (fun v C' => v = none ∧ ∃ pv lb, ((cs_bf σ j 2 = 4 ∧ pv = 13) ∨ (¬ cs_bf σ j 2 = 4 ∧ pv = cs_bf σ j 2 * 4 + cs_bf σ j 3)) ∧ ((cs_bf σ j 0 = 0 ∧ lb = 1) ∨ (¬ cs_bf σ j 0 = 0 ∧ lb = 0)) ∧ Ck ad (cs_ad σ j n pv lb) K C') px_no := by
  have h3 : C (ad 3) = some (px_o 3 [.int (nI (cs_ti σ)), .ref (ad 4), .ref (ad 5), .ref (ad 6), .ref (ad 7), .ref (ad 8), .ref (ad 9), .ref (ad 10), .ref (ad 11), .int (nI n), .int (cs_si σ 1), .int (cs_si σ 2), .int (cs_si σ 3), .int (cs_si σ 4)]) := by rw [← hsz]; exact hR.1 3 _ hc.1.2.2.2
  refine ⟨pm_Sea_add, rfl, Nat.le_of_ble_eq_true rfl, fun X hw hX => ?_⟩
  iterate 2 refine px_go hX ?_
  refine ⟨_, _, h3, rfl, ?_⟩
  iterate 2 refine px_go hX ?_
  refine ⟨fun (c1 : nI n < (4 : Int32)) => ?_, fun (c1 : ¬ nI n < (4 : Int32)) => absurd (nI_lt hn4 (by omega : 4 < 2 ^ 31)) c1⟩
  iterate 2 refine px_go hX ?_
  refine ⟨_, _, (hR.1 _ _ (hc.2.2.2.1 j hj)), rfl, ?_⟩
  iterate 2 refine px_go hX ?_
  refine ⟨fun (c2 : ¬ cs_bf σ j 2 = (4 : Int32)) => ?_, fun (c2 : cs_bf σ j 2 = (4 : Int32)) => ?_⟩
  · iterate 2 refine px_go hX ?_
    refine ⟨_, _, (hR.1 _ _ (hc.2.2.2.1 j hj)), rfl, ?_⟩
    iterate 4 refine px_go hX ?_
    refine ⟨_, _, (hR.1 _ _ (hc.2.2.2.1 j hj)), rfl, ?_⟩
    iterate 5 refine px_go hX ?_
    refine ⟨_, _, h3, rfl, ?_⟩
    iterate 5 refine px_go hX ?_
    refine ⟨_, _, h3, rfl, ?_⟩
    iterate 5 refine px_go hX ?_
    refine ⟨_, h3, Nat.le_of_ble_eq_true rfl, rfl, rfl, ?_⟩
    iterate 3 refine px_go hX ?_
    refine ⟨_, _, (px_up_s _ _ _), rfl, ?_⟩
    iterate 2 refine px_go hX ?_
    refine ⟨_, _, ((px_up_n _ _ (hR.ne (hc.2.2.2.1 j hj) hc.1.2.2.2 (by omega))).trans (hR.1 _ _ (hc.2.2.2.1 j hj))), rfl, ?_⟩
    refine px_go hX ?_
    refine ⟨fun (c3 : ¬ cs_bf σ j 0 = 0) => ?_, fun (c3 : cs_bf σ j 0 = 0) => ?_⟩
    · iterate 3 refine px_go hX ?_
      refine ⟨_, _, (px_up_s _ _ _), rfl, ?_⟩
      iterate 3 refine px_go hX ?_
      refine ⟨_, (px_up_s _ _ _), Nat.le_of_ble_eq_true rfl, rfl, rfl, ?_⟩
      iterate 2 refine px_go hX ?_
      refine ⟨_, _, (px_up_s _ _ _), rfl, ?_⟩
      iterate 2 refine px_go hX ?_
      refine ⟨_, _, (px_up_s _ _ _), rfl, ?_⟩
      iterate 2 refine px_go hX ?_
      refine ⟨_, _, ((px_up_n _ _ (hR.ne hc.2.1.1 hc.1.2.2.2 (by omega))).trans ((px_up_n _ _ (hR.ne hc.2.1.1 hc.1.2.2.2 (by omega))).trans (hR.1 4 _ hc.2.1.1))), (vp_in_nI hn4 (by omega)), ?_⟩
      rw [nI_clamp (by omega)]
      iterate 2 refine px_go hX ?_
      refine ⟨_, _, ((px_up_n _ _ (hR.ne hc.1.2.2.2 hc.2.1.1 (by omega))).trans (px_up_s _ _ _)), rfl, ?_⟩
      iterate 2 refine px_go hX ?_
      refine ⟨_, _, ((px_up_n _ _ (hR.ne hc.1.2.2.2 hc.2.1.1 (by omega))).trans (px_up_s _ _ _)), rfl, ?_⟩
      iterate 2 refine px_go hX ?_
      refine ⟨_, _, ((px_up_n _ _ (hR.ne (hc.2.2.2.1 j hj) hc.2.1.1 (by omega))).trans ((px_up_n _ _ (hR.ne (hc.2.2.2.1 j hj) hc.1.2.2.2 (by omega))).trans ((px_up_n _ _ (hR.ne (hc.2.2.2.1 j hj) hc.1.2.2.2 (by omega))).trans (hR.1 _ _ (hc.2.2.2.1 j hj))))), rfl, ?_⟩
      refine px_go hX ?_
      refine ⟨_, _, ((px_up_n _ _ (hR.ne hc.2.1.2.1 hc.2.1.1 (by omega))).trans ((px_up_n _ _ (hR.ne hc.2.1.2.1 hc.1.2.2.2 (by omega))).trans ((px_up_n _ _ (hR.ne hc.2.1.2.1 hc.1.2.2.2 (by omega))).trans (hR.1 5 _ hc.2.1.2.1)))), (vp_in_nI hn4 (by omega)), ?_⟩
      rw [nI_clamp (by omega)]
      iterate 3 refine px_go hX ?_
      refine ⟨_, _, ((px_up_n _ _ (hR.ne hc.1.2.2.2 hc.2.1.2.1 (by omega))).trans ((px_up_n _ _ (hR.ne hc.1.2.2.2 hc.2.1.1 (by omega))).trans (px_up_s _ _ _))), rfl, ?_⟩
      iterate 3 refine px_go hX ?_
      refine ⟨_, ((px_up_n _ _ (hR.ne hc.1.2.2.2 hc.2.1.2.1 (by omega))).trans ((px_up_n _ _ (hR.ne hc.1.2.2.2 hc.2.1.1 (by omega))).trans (px_up_s _ _ _))), Nat.le_of_ble_eq_true rfl, rfl, rfl, ?_⟩
      refine px_go hX ?_
      have hR1 := (((((hR.put (i := 3) hc.1.2.2.2 (px_o 3 [.int (nI (cs_ti σ)), .ref (ad 4), .ref (ad 5), .ref (ad 6), .ref (ad 7), .ref (ad 8), .ref (ad 9), .ref (ad 10), .ref (ad 11), .int (nI n), .int (cs_si σ 1), .int ((cs_si σ 2) ||| (((((cs_bf σ j 2) * ((4 : Int32))) + (cs_bf σ j 3)) &&& ((15 : Int32))) <<< (((nI n) * ((4 : Int32))) &&& 31))), .int (cs_si σ 3), .int (cs_si σ 4)])).put (i := 3) (rp_up_s _ _ _) (px_o 3 [.int (nI (cs_ti σ)), .ref (ad 4), .ref (ad 5), .ref (ad 6), .ref (ad 7), .ref (ad 8), .ref (ad 9), .ref (ad 10), .ref (ad 11), .int (nI n), .int ((cs_si σ 1) ||| (((0 : Int32)) <<< ((nI n) &&& 31))), .int ((cs_si σ 2) ||| (((((cs_bf σ j 2) * ((4 : Int32))) + (cs_bf σ j 3)) &&& ((15 : Int32))) <<< (((nI n) * ((4 : Int32))) &&& 31))), .int (cs_si σ 3), .int (cs_si σ 4)])).put (i := 4) ((rp_up_n _ _ (by omega)).trans ((rp_up_n _ _ (by omega)).trans hc.2.1.1)) (px_i 4 (upd (cs_sa σ 0) (n) (nI j)))).put (i := 5) ((rp_up_n _ _ (by omega)).trans ((rp_up_n _ _ (by omega)).trans ((rp_up_n _ _ (by omega)).trans hc.2.1.2.1))) (px_i 4 (upd (cs_sa σ 1) (n) (cs_bf σ j 4)))).put (i := 3) ((rp_up_n _ _ (by omega)).trans ((rp_up_n _ _ (by omega)).trans (rp_up_s _ _ _))) (px_o 3 [.int (nI (cs_ti σ)), .ref (ad 4), .ref (ad 5), .ref (ad 6), .ref (ad 7), .ref (ad 8), .ref (ad 9), .ref (ad 10), .ref (ad 11), .int ((nI n) + ((1 : Int32))), .int ((cs_si σ 1) ||| (((0 : Int32)) <<< ((nI n) &&& 31))), .int ((cs_si σ 2) ||| (((((cs_bf σ j 2) * ((4 : Int32))) + (cs_bf σ j 3)) &&& ((15 : Int32))) <<< (((nI n) * ((4 : Int32))) &&& 31))), .int (cs_si σ 3), .int (cs_si σ 4)]))
      have hc1 : Cl ad (cs_ad σ j n (cs_bf σ j 2 * 4 + cs_bf σ j 3) (0)) (rp_up (rp_up (rp_up (rp_up (rp_up (K) (3) (px_o 3 [.int (nI (cs_ti σ)), .ref (ad 4), .ref (ad 5), .ref (ad 6), .ref (ad 7), .ref (ad 8), .ref (ad 9), .ref (ad 10), .ref (ad 11), .int (nI n), .int (cs_si σ 1), .int ((cs_si σ 2) ||| (((((cs_bf σ j 2) * ((4 : Int32))) + (cs_bf σ j 3)) &&& ((15 : Int32))) <<< (((nI n) * ((4 : Int32))) &&& 31))), .int (cs_si σ 3), .int (cs_si σ 4)])) (3) (px_o 3 [.int (nI (cs_ti σ)), .ref (ad 4), .ref (ad 5), .ref (ad 6), .ref (ad 7), .ref (ad 8), .ref (ad 9), .ref (ad 10), .ref (ad 11), .int (nI n), .int ((cs_si σ 1) ||| (((0 : Int32)) <<< ((nI n) &&& 31))), .int ((cs_si σ 2) ||| (((((cs_bf σ j 2) * ((4 : Int32))) + (cs_bf σ j 3)) &&& ((15 : Int32))) <<< (((nI n) * ((4 : Int32))) &&& 31))), .int (cs_si σ 3), .int (cs_si σ 4)])) (4) (px_i 4 (upd (cs_sa σ 0) (n) (nI j)))) (5) (px_i 4 (upd (cs_sa σ 1) (n) (cs_bf σ j 4)))) (3) (px_o 3 [.int (nI (cs_ti σ)), .ref (ad 4), .ref (ad 5), .ref (ad 6), .ref (ad 7), .ref (ad 8), .ref (ad 9), .ref (ad 10), .ref (ad 11), .int ((nI n) + ((1 : Int32))), .int ((cs_si σ 1) ||| (((0 : Int32)) <<< ((nI n) &&& 31))), .int ((cs_si σ 2) ||| (((((cs_bf σ j 2) * ((4 : Int32))) + (cs_bf σ j 3)) &&& ((15 : Int32))) <<< (((nI n) * ((4 : Int32))) &&& 31))), .int (cs_si σ 3), .int (cs_si σ 4)])) := by
        exact ((((hc.sSi (fun q => match q with | 0 => nI n | 1 => cs_si σ 1 | 2 => cs_si σ 2 ||| ((cs_bf σ j 2 * 4 + cs_bf σ j 3 &&& 15) <<< ((nI n * 4) &&& 31)) | 3 => cs_si σ 3 | _ => cs_si σ 4)).sSi (fun q => match q with | 0 => nI n | 1 => cs_si σ 1 ||| (0 <<< (nI n &&& 31)) | 2 => cs_si σ 2 ||| ((cs_bf σ j 2 * 4 + cs_bf σ j 3 &&& 15) <<< ((nI n * 4) &&& 31)) | 3 => cs_si σ 3 | _ => cs_si σ 4)).sSa (k := 0) (by omega) _).sSa (k := 1) (by omega) _).sSi _
      have hK1 : ∀ zz, 100 ≤ zz → (rp_up (rp_up (rp_up (rp_up (rp_up (K) (3) (px_o 3 [.int (nI (cs_ti σ)), .ref (ad 4), .ref (ad 5), .ref (ad 6), .ref (ad 7), .ref (ad 8), .ref (ad 9), .ref (ad 10), .ref (ad 11), .int (nI n), .int (cs_si σ 1), .int ((cs_si σ 2) ||| (((((cs_bf σ j 2) * ((4 : Int32))) + (cs_bf σ j 3)) &&& ((15 : Int32))) <<< (((nI n) * ((4 : Int32))) &&& 31))), .int (cs_si σ 3), .int (cs_si σ 4)])) (3) (px_o 3 [.int (nI (cs_ti σ)), .ref (ad 4), .ref (ad 5), .ref (ad 6), .ref (ad 7), .ref (ad 8), .ref (ad 9), .ref (ad 10), .ref (ad 11), .int (nI n), .int ((cs_si σ 1) ||| (((0 : Int32)) <<< ((nI n) &&& 31))), .int ((cs_si σ 2) ||| (((((cs_bf σ j 2) * ((4 : Int32))) + (cs_bf σ j 3)) &&& ((15 : Int32))) <<< (((nI n) * ((4 : Int32))) &&& 31))), .int (cs_si σ 3), .int (cs_si σ 4)])) (4) (px_i 4 (upd (cs_sa σ 0) (n) (nI j)))) (5) (px_i 4 (upd (cs_sa σ 1) (n) (cs_bf σ j 4)))) (3) (px_o 3 [.int (nI (cs_ti σ)), .ref (ad 4), .ref (ad 5), .ref (ad 6), .ref (ad 7), .ref (ad 8), .ref (ad 9), .ref (ad 10), .ref (ad 11), .int ((nI n) + ((1 : Int32))), .int ((cs_si σ 1) ||| (((0 : Int32)) <<< ((nI n) &&& 31))), .int ((cs_si σ 2) ||| (((((cs_bf σ j 2) * ((4 : Int32))) + (cs_bf σ j 3)) &&& ((15 : Int32))) <<< (((nI n) * ((4 : Int32))) &&& 31))), .int (cs_si σ 3), .int (cs_si σ 4)])) zz = (K) zz := fun zz hzz => by rw [rp_up_n _ _ (by omega), rp_up_n _ _ (by omega), rp_up_n _ _ (by omega), rp_up_n _ _ (by omega), rp_up_n _ _ (by omega)]
      exact ⟨rfl, _, _, Or.inr ⟨c2, rfl⟩, Or.inr ⟨c3, rfl⟩, _, hR1, hc1, hK1⟩
    · iterate 4 refine px_go hX ?_
      refine ⟨_, _, (px_up_s _ _ _), rfl, ?_⟩
      iterate 3 refine px_go hX ?_
      refine ⟨_, (px_up_s _ _ _), Nat.le_of_ble_eq_true rfl, rfl, rfl, ?_⟩
      iterate 2 refine px_go hX ?_
      refine ⟨_, _, (px_up_s _ _ _), rfl, ?_⟩
      iterate 2 refine px_go hX ?_
      refine ⟨_, _, (px_up_s _ _ _), rfl, ?_⟩
      iterate 2 refine px_go hX ?_
      refine ⟨_, _, ((px_up_n _ _ (hR.ne hc.2.1.1 hc.1.2.2.2 (by omega))).trans ((px_up_n _ _ (hR.ne hc.2.1.1 hc.1.2.2.2 (by omega))).trans (hR.1 4 _ hc.2.1.1))), (vp_in_nI hn4 (by omega)), ?_⟩
      rw [nI_clamp (by omega)]
      iterate 2 refine px_go hX ?_
      refine ⟨_, _, ((px_up_n _ _ (hR.ne hc.1.2.2.2 hc.2.1.1 (by omega))).trans (px_up_s _ _ _)), rfl, ?_⟩
      iterate 2 refine px_go hX ?_
      refine ⟨_, _, ((px_up_n _ _ (hR.ne hc.1.2.2.2 hc.2.1.1 (by omega))).trans (px_up_s _ _ _)), rfl, ?_⟩
      iterate 2 refine px_go hX ?_
      refine ⟨_, _, ((px_up_n _ _ (hR.ne (hc.2.2.2.1 j hj) hc.2.1.1 (by omega))).trans ((px_up_n _ _ (hR.ne (hc.2.2.2.1 j hj) hc.1.2.2.2 (by omega))).trans ((px_up_n _ _ (hR.ne (hc.2.2.2.1 j hj) hc.1.2.2.2 (by omega))).trans (hR.1 _ _ (hc.2.2.2.1 j hj))))), rfl, ?_⟩
      refine px_go hX ?_
      refine ⟨_, _, ((px_up_n _ _ (hR.ne hc.2.1.2.1 hc.2.1.1 (by omega))).trans ((px_up_n _ _ (hR.ne hc.2.1.2.1 hc.1.2.2.2 (by omega))).trans ((px_up_n _ _ (hR.ne hc.2.1.2.1 hc.1.2.2.2 (by omega))).trans (hR.1 5 _ hc.2.1.2.1)))), (vp_in_nI hn4 (by omega)), ?_⟩
      rw [nI_clamp (by omega)]
      iterate 3 refine px_go hX ?_
      refine ⟨_, _, ((px_up_n _ _ (hR.ne hc.1.2.2.2 hc.2.1.2.1 (by omega))).trans ((px_up_n _ _ (hR.ne hc.1.2.2.2 hc.2.1.1 (by omega))).trans (px_up_s _ _ _))), rfl, ?_⟩
      iterate 3 refine px_go hX ?_
      refine ⟨_, ((px_up_n _ _ (hR.ne hc.1.2.2.2 hc.2.1.2.1 (by omega))).trans ((px_up_n _ _ (hR.ne hc.1.2.2.2 hc.2.1.1 (by omega))).trans (px_up_s _ _ _))), Nat.le_of_ble_eq_true rfl, rfl, rfl, ?_⟩
      refine px_go hX ?_
      have hR1 := (((((hR.put (i := 3) hc.1.2.2.2 (px_o 3 [.int (nI (cs_ti σ)), .ref (ad 4), .ref (ad 5), .ref (ad 6), .ref (ad 7), .ref (ad 8), .ref (ad 9), .ref (ad 10), .ref (ad 11), .int (nI n), .int (cs_si σ 1), .int ((cs_si σ 2) ||| (((((cs_bf σ j 2) * ((4 : Int32))) + (cs_bf σ j 3)) &&& ((15 : Int32))) <<< (((nI n) * ((4 : Int32))) &&& 31))), .int (cs_si σ 3), .int (cs_si σ 4)])).put (i := 3) (rp_up_s _ _ _) (px_o 3 [.int (nI (cs_ti σ)), .ref (ad 4), .ref (ad 5), .ref (ad 6), .ref (ad 7), .ref (ad 8), .ref (ad 9), .ref (ad 10), .ref (ad 11), .int (nI n), .int ((cs_si σ 1) ||| (((1 : Int32)) <<< ((nI n) &&& 31))), .int ((cs_si σ 2) ||| (((((cs_bf σ j 2) * ((4 : Int32))) + (cs_bf σ j 3)) &&& ((15 : Int32))) <<< (((nI n) * ((4 : Int32))) &&& 31))), .int (cs_si σ 3), .int (cs_si σ 4)])).put (i := 4) ((rp_up_n _ _ (by omega)).trans ((rp_up_n _ _ (by omega)).trans hc.2.1.1)) (px_i 4 (upd (cs_sa σ 0) (n) (nI j)))).put (i := 5) ((rp_up_n _ _ (by omega)).trans ((rp_up_n _ _ (by omega)).trans ((rp_up_n _ _ (by omega)).trans hc.2.1.2.1))) (px_i 4 (upd (cs_sa σ 1) (n) (cs_bf σ j 4)))).put (i := 3) ((rp_up_n _ _ (by omega)).trans ((rp_up_n _ _ (by omega)).trans (rp_up_s _ _ _))) (px_o 3 [.int (nI (cs_ti σ)), .ref (ad 4), .ref (ad 5), .ref (ad 6), .ref (ad 7), .ref (ad 8), .ref (ad 9), .ref (ad 10), .ref (ad 11), .int ((nI n) + ((1 : Int32))), .int ((cs_si σ 1) ||| (((1 : Int32)) <<< ((nI n) &&& 31))), .int ((cs_si σ 2) ||| (((((cs_bf σ j 2) * ((4 : Int32))) + (cs_bf σ j 3)) &&& ((15 : Int32))) <<< (((nI n) * ((4 : Int32))) &&& 31))), .int (cs_si σ 3), .int (cs_si σ 4)]))
      have hc1 : Cl ad (cs_ad σ j n (cs_bf σ j 2 * 4 + cs_bf σ j 3) (1)) (rp_up (rp_up (rp_up (rp_up (rp_up (K) (3) (px_o 3 [.int (nI (cs_ti σ)), .ref (ad 4), .ref (ad 5), .ref (ad 6), .ref (ad 7), .ref (ad 8), .ref (ad 9), .ref (ad 10), .ref (ad 11), .int (nI n), .int (cs_si σ 1), .int ((cs_si σ 2) ||| (((((cs_bf σ j 2) * ((4 : Int32))) + (cs_bf σ j 3)) &&& ((15 : Int32))) <<< (((nI n) * ((4 : Int32))) &&& 31))), .int (cs_si σ 3), .int (cs_si σ 4)])) (3) (px_o 3 [.int (nI (cs_ti σ)), .ref (ad 4), .ref (ad 5), .ref (ad 6), .ref (ad 7), .ref (ad 8), .ref (ad 9), .ref (ad 10), .ref (ad 11), .int (nI n), .int ((cs_si σ 1) ||| (((1 : Int32)) <<< ((nI n) &&& 31))), .int ((cs_si σ 2) ||| (((((cs_bf σ j 2) * ((4 : Int32))) + (cs_bf σ j 3)) &&& ((15 : Int32))) <<< (((nI n) * ((4 : Int32))) &&& 31))), .int (cs_si σ 3), .int (cs_si σ 4)])) (4) (px_i 4 (upd (cs_sa σ 0) (n) (nI j)))) (5) (px_i 4 (upd (cs_sa σ 1) (n) (cs_bf σ j 4)))) (3) (px_o 3 [.int (nI (cs_ti σ)), .ref (ad 4), .ref (ad 5), .ref (ad 6), .ref (ad 7), .ref (ad 8), .ref (ad 9), .ref (ad 10), .ref (ad 11), .int ((nI n) + ((1 : Int32))), .int ((cs_si σ 1) ||| (((1 : Int32)) <<< ((nI n) &&& 31))), .int ((cs_si σ 2) ||| (((((cs_bf σ j 2) * ((4 : Int32))) + (cs_bf σ j 3)) &&& ((15 : Int32))) <<< (((nI n) * ((4 : Int32))) &&& 31))), .int (cs_si σ 3), .int (cs_si σ 4)])) := by
        exact ((((hc.sSi (fun q => match q with | 0 => nI n | 1 => cs_si σ 1 | 2 => cs_si σ 2 ||| ((cs_bf σ j 2 * 4 + cs_bf σ j 3 &&& 15) <<< ((nI n * 4) &&& 31)) | 3 => cs_si σ 3 | _ => cs_si σ 4)).sSi (fun q => match q with | 0 => nI n | 1 => cs_si σ 1 ||| (1 <<< (nI n &&& 31)) | 2 => cs_si σ 2 ||| ((cs_bf σ j 2 * 4 + cs_bf σ j 3 &&& 15) <<< ((nI n * 4) &&& 31)) | 3 => cs_si σ 3 | _ => cs_si σ 4)).sSa (k := 0) (by omega) _).sSa (k := 1) (by omega) _).sSi _
      have hK1 : ∀ zz, 100 ≤ zz → (rp_up (rp_up (rp_up (rp_up (rp_up (K) (3) (px_o 3 [.int (nI (cs_ti σ)), .ref (ad 4), .ref (ad 5), .ref (ad 6), .ref (ad 7), .ref (ad 8), .ref (ad 9), .ref (ad 10), .ref (ad 11), .int (nI n), .int (cs_si σ 1), .int ((cs_si σ 2) ||| (((((cs_bf σ j 2) * ((4 : Int32))) + (cs_bf σ j 3)) &&& ((15 : Int32))) <<< (((nI n) * ((4 : Int32))) &&& 31))), .int (cs_si σ 3), .int (cs_si σ 4)])) (3) (px_o 3 [.int (nI (cs_ti σ)), .ref (ad 4), .ref (ad 5), .ref (ad 6), .ref (ad 7), .ref (ad 8), .ref (ad 9), .ref (ad 10), .ref (ad 11), .int (nI n), .int ((cs_si σ 1) ||| (((1 : Int32)) <<< ((nI n) &&& 31))), .int ((cs_si σ 2) ||| (((((cs_bf σ j 2) * ((4 : Int32))) + (cs_bf σ j 3)) &&& ((15 : Int32))) <<< (((nI n) * ((4 : Int32))) &&& 31))), .int (cs_si σ 3), .int (cs_si σ 4)])) (4) (px_i 4 (upd (cs_sa σ 0) (n) (nI j)))) (5) (px_i 4 (upd (cs_sa σ 1) (n) (cs_bf σ j 4)))) (3) (px_o 3 [.int (nI (cs_ti σ)), .ref (ad 4), .ref (ad 5), .ref (ad 6), .ref (ad 7), .ref (ad 8), .ref (ad 9), .ref (ad 10), .ref (ad 11), .int ((nI n) + ((1 : Int32))), .int ((cs_si σ 1) ||| (((1 : Int32)) <<< ((nI n) &&& 31))), .int ((cs_si σ 2) ||| (((((cs_bf σ j 2) * ((4 : Int32))) + (cs_bf σ j 3)) &&& ((15 : Int32))) <<< (((nI n) * ((4 : Int32))) &&& 31))), .int (cs_si σ 3), .int (cs_si σ 4)])) zz = (K) zz := fun zz hzz => by rw [rp_up_n _ _ (by omega), rp_up_n _ _ (by omega), rp_up_n _ _ (by omega), rp_up_n _ _ (by omega), rp_up_n _ _ (by omega)]
      exact ⟨rfl, _, _, Or.inr ⟨c2, rfl⟩, Or.inl ⟨c3, rfl⟩, _, hR1, hc1, hK1⟩
  · iterate 6 refine px_go hX ?_
    refine ⟨_, _, h3, rfl, ?_⟩
    iterate 5 refine px_go hX ?_
    refine ⟨_, _, h3, rfl, ?_⟩
    iterate 5 refine px_go hX ?_
    refine ⟨_, h3, Nat.le_of_ble_eq_true rfl, rfl, rfl, ?_⟩
    iterate 3 refine px_go hX ?_
    refine ⟨_, _, (px_up_s _ _ _), rfl, ?_⟩
    iterate 2 refine px_go hX ?_
    refine ⟨_, _, ((px_up_n _ _ (hR.ne (hc.2.2.2.1 j hj) hc.1.2.2.2 (by omega))).trans (hR.1 _ _ (hc.2.2.2.1 j hj))), rfl, ?_⟩
    refine px_go hX ?_
    refine ⟨fun (c4 : ¬ cs_bf σ j 0 = 0) => ?_, fun (c4 : cs_bf σ j 0 = 0) => ?_⟩
    · iterate 3 refine px_go hX ?_
      refine ⟨_, _, (px_up_s _ _ _), rfl, ?_⟩
      iterate 3 refine px_go hX ?_
      refine ⟨_, (px_up_s _ _ _), Nat.le_of_ble_eq_true rfl, rfl, rfl, ?_⟩
      iterate 2 refine px_go hX ?_
      refine ⟨_, _, (px_up_s _ _ _), rfl, ?_⟩
      iterate 2 refine px_go hX ?_
      refine ⟨_, _, (px_up_s _ _ _), rfl, ?_⟩
      iterate 2 refine px_go hX ?_
      refine ⟨_, _, ((px_up_n _ _ (hR.ne hc.2.1.1 hc.1.2.2.2 (by omega))).trans ((px_up_n _ _ (hR.ne hc.2.1.1 hc.1.2.2.2 (by omega))).trans (hR.1 4 _ hc.2.1.1))), (vp_in_nI hn4 (by omega)), ?_⟩
      rw [nI_clamp (by omega)]
      iterate 2 refine px_go hX ?_
      refine ⟨_, _, ((px_up_n _ _ (hR.ne hc.1.2.2.2 hc.2.1.1 (by omega))).trans (px_up_s _ _ _)), rfl, ?_⟩
      iterate 2 refine px_go hX ?_
      refine ⟨_, _, ((px_up_n _ _ (hR.ne hc.1.2.2.2 hc.2.1.1 (by omega))).trans (px_up_s _ _ _)), rfl, ?_⟩
      iterate 2 refine px_go hX ?_
      refine ⟨_, _, ((px_up_n _ _ (hR.ne (hc.2.2.2.1 j hj) hc.2.1.1 (by omega))).trans ((px_up_n _ _ (hR.ne (hc.2.2.2.1 j hj) hc.1.2.2.2 (by omega))).trans ((px_up_n _ _ (hR.ne (hc.2.2.2.1 j hj) hc.1.2.2.2 (by omega))).trans (hR.1 _ _ (hc.2.2.2.1 j hj))))), rfl, ?_⟩
      refine px_go hX ?_
      refine ⟨_, _, ((px_up_n _ _ (hR.ne hc.2.1.2.1 hc.2.1.1 (by omega))).trans ((px_up_n _ _ (hR.ne hc.2.1.2.1 hc.1.2.2.2 (by omega))).trans ((px_up_n _ _ (hR.ne hc.2.1.2.1 hc.1.2.2.2 (by omega))).trans (hR.1 5 _ hc.2.1.2.1)))), (vp_in_nI hn4 (by omega)), ?_⟩
      rw [nI_clamp (by omega)]
      iterate 3 refine px_go hX ?_
      refine ⟨_, _, ((px_up_n _ _ (hR.ne hc.1.2.2.2 hc.2.1.2.1 (by omega))).trans ((px_up_n _ _ (hR.ne hc.1.2.2.2 hc.2.1.1 (by omega))).trans (px_up_s _ _ _))), rfl, ?_⟩
      iterate 3 refine px_go hX ?_
      refine ⟨_, ((px_up_n _ _ (hR.ne hc.1.2.2.2 hc.2.1.2.1 (by omega))).trans ((px_up_n _ _ (hR.ne hc.1.2.2.2 hc.2.1.1 (by omega))).trans (px_up_s _ _ _))), Nat.le_of_ble_eq_true rfl, rfl, rfl, ?_⟩
      refine px_go hX ?_
      have hR1 := (((((hR.put (i := 3) hc.1.2.2.2 (px_o 3 [.int (nI (cs_ti σ)), .ref (ad 4), .ref (ad 5), .ref (ad 6), .ref (ad 7), .ref (ad 8), .ref (ad 9), .ref (ad 10), .ref (ad 11), .int (nI n), .int (cs_si σ 1), .int ((cs_si σ 2) ||| ((((13 : Int32)) &&& ((15 : Int32))) <<< (((nI n) * ((4 : Int32))) &&& 31))), .int (cs_si σ 3), .int (cs_si σ 4)])).put (i := 3) (rp_up_s _ _ _) (px_o 3 [.int (nI (cs_ti σ)), .ref (ad 4), .ref (ad 5), .ref (ad 6), .ref (ad 7), .ref (ad 8), .ref (ad 9), .ref (ad 10), .ref (ad 11), .int (nI n), .int ((cs_si σ 1) ||| (((0 : Int32)) <<< ((nI n) &&& 31))), .int ((cs_si σ 2) ||| ((((13 : Int32)) &&& ((15 : Int32))) <<< (((nI n) * ((4 : Int32))) &&& 31))), .int (cs_si σ 3), .int (cs_si σ 4)])).put (i := 4) ((rp_up_n _ _ (by omega)).trans ((rp_up_n _ _ (by omega)).trans hc.2.1.1)) (px_i 4 (upd (cs_sa σ 0) (n) (nI j)))).put (i := 5) ((rp_up_n _ _ (by omega)).trans ((rp_up_n _ _ (by omega)).trans ((rp_up_n _ _ (by omega)).trans hc.2.1.2.1))) (px_i 4 (upd (cs_sa σ 1) (n) (cs_bf σ j 4)))).put (i := 3) ((rp_up_n _ _ (by omega)).trans ((rp_up_n _ _ (by omega)).trans (rp_up_s _ _ _))) (px_o 3 [.int (nI (cs_ti σ)), .ref (ad 4), .ref (ad 5), .ref (ad 6), .ref (ad 7), .ref (ad 8), .ref (ad 9), .ref (ad 10), .ref (ad 11), .int ((nI n) + ((1 : Int32))), .int ((cs_si σ 1) ||| (((0 : Int32)) <<< ((nI n) &&& 31))), .int ((cs_si σ 2) ||| ((((13 : Int32)) &&& ((15 : Int32))) <<< (((nI n) * ((4 : Int32))) &&& 31))), .int (cs_si σ 3), .int (cs_si σ 4)]))
      have hc1 : Cl ad (cs_ad σ j n (13) (0)) (rp_up (rp_up (rp_up (rp_up (rp_up (K) (3) (px_o 3 [.int (nI (cs_ti σ)), .ref (ad 4), .ref (ad 5), .ref (ad 6), .ref (ad 7), .ref (ad 8), .ref (ad 9), .ref (ad 10), .ref (ad 11), .int (nI n), .int (cs_si σ 1), .int ((cs_si σ 2) ||| ((((13 : Int32)) &&& ((15 : Int32))) <<< (((nI n) * ((4 : Int32))) &&& 31))), .int (cs_si σ 3), .int (cs_si σ 4)])) (3) (px_o 3 [.int (nI (cs_ti σ)), .ref (ad 4), .ref (ad 5), .ref (ad 6), .ref (ad 7), .ref (ad 8), .ref (ad 9), .ref (ad 10), .ref (ad 11), .int (nI n), .int ((cs_si σ 1) ||| (((0 : Int32)) <<< ((nI n) &&& 31))), .int ((cs_si σ 2) ||| ((((13 : Int32)) &&& ((15 : Int32))) <<< (((nI n) * ((4 : Int32))) &&& 31))), .int (cs_si σ 3), .int (cs_si σ 4)])) (4) (px_i 4 (upd (cs_sa σ 0) (n) (nI j)))) (5) (px_i 4 (upd (cs_sa σ 1) (n) (cs_bf σ j 4)))) (3) (px_o 3 [.int (nI (cs_ti σ)), .ref (ad 4), .ref (ad 5), .ref (ad 6), .ref (ad 7), .ref (ad 8), .ref (ad 9), .ref (ad 10), .ref (ad 11), .int ((nI n) + ((1 : Int32))), .int ((cs_si σ 1) ||| (((0 : Int32)) <<< ((nI n) &&& 31))), .int ((cs_si σ 2) ||| ((((13 : Int32)) &&& ((15 : Int32))) <<< (((nI n) * ((4 : Int32))) &&& 31))), .int (cs_si σ 3), .int (cs_si σ 4)])) := by
        exact ((((hc.sSi (fun q => match q with | 0 => nI n | 1 => cs_si σ 1 | 2 => cs_si σ 2 ||| ((13 &&& 15) <<< ((nI n * 4) &&& 31)) | 3 => cs_si σ 3 | _ => cs_si σ 4)).sSi (fun q => match q with | 0 => nI n | 1 => cs_si σ 1 ||| (0 <<< (nI n &&& 31)) | 2 => cs_si σ 2 ||| ((13 &&& 15) <<< ((nI n * 4) &&& 31)) | 3 => cs_si σ 3 | _ => cs_si σ 4)).sSa (k := 0) (by omega) _).sSa (k := 1) (by omega) _).sSi _
      have hK1 : ∀ zz, 100 ≤ zz → (rp_up (rp_up (rp_up (rp_up (rp_up (K) (3) (px_o 3 [.int (nI (cs_ti σ)), .ref (ad 4), .ref (ad 5), .ref (ad 6), .ref (ad 7), .ref (ad 8), .ref (ad 9), .ref (ad 10), .ref (ad 11), .int (nI n), .int (cs_si σ 1), .int ((cs_si σ 2) ||| ((((13 : Int32)) &&& ((15 : Int32))) <<< (((nI n) * ((4 : Int32))) &&& 31))), .int (cs_si σ 3), .int (cs_si σ 4)])) (3) (px_o 3 [.int (nI (cs_ti σ)), .ref (ad 4), .ref (ad 5), .ref (ad 6), .ref (ad 7), .ref (ad 8), .ref (ad 9), .ref (ad 10), .ref (ad 11), .int (nI n), .int ((cs_si σ 1) ||| (((0 : Int32)) <<< ((nI n) &&& 31))), .int ((cs_si σ 2) ||| ((((13 : Int32)) &&& ((15 : Int32))) <<< (((nI n) * ((4 : Int32))) &&& 31))), .int (cs_si σ 3), .int (cs_si σ 4)])) (4) (px_i 4 (upd (cs_sa σ 0) (n) (nI j)))) (5) (px_i 4 (upd (cs_sa σ 1) (n) (cs_bf σ j 4)))) (3) (px_o 3 [.int (nI (cs_ti σ)), .ref (ad 4), .ref (ad 5), .ref (ad 6), .ref (ad 7), .ref (ad 8), .ref (ad 9), .ref (ad 10), .ref (ad 11), .int ((nI n) + ((1 : Int32))), .int ((cs_si σ 1) ||| (((0 : Int32)) <<< ((nI n) &&& 31))), .int ((cs_si σ 2) ||| ((((13 : Int32)) &&& ((15 : Int32))) <<< (((nI n) * ((4 : Int32))) &&& 31))), .int (cs_si σ 3), .int (cs_si σ 4)])) zz = (K) zz := fun zz hzz => by rw [rp_up_n _ _ (by omega), rp_up_n _ _ (by omega), rp_up_n _ _ (by omega), rp_up_n _ _ (by omega), rp_up_n _ _ (by omega)]
      exact ⟨rfl, _, _, Or.inl ⟨c2, rfl⟩, Or.inr ⟨c4, rfl⟩, _, hR1, hc1, hK1⟩
    · iterate 4 refine px_go hX ?_
      refine ⟨_, _, (px_up_s _ _ _), rfl, ?_⟩
      iterate 3 refine px_go hX ?_
      refine ⟨_, (px_up_s _ _ _), Nat.le_of_ble_eq_true rfl, rfl, rfl, ?_⟩
      iterate 2 refine px_go hX ?_
      refine ⟨_, _, (px_up_s _ _ _), rfl, ?_⟩
      iterate 2 refine px_go hX ?_
      refine ⟨_, _, (px_up_s _ _ _), rfl, ?_⟩
      iterate 2 refine px_go hX ?_
      refine ⟨_, _, ((px_up_n _ _ (hR.ne hc.2.1.1 hc.1.2.2.2 (by omega))).trans ((px_up_n _ _ (hR.ne hc.2.1.1 hc.1.2.2.2 (by omega))).trans (hR.1 4 _ hc.2.1.1))), (vp_in_nI hn4 (by omega)), ?_⟩
      rw [nI_clamp (by omega)]
      iterate 2 refine px_go hX ?_
      refine ⟨_, _, ((px_up_n _ _ (hR.ne hc.1.2.2.2 hc.2.1.1 (by omega))).trans (px_up_s _ _ _)), rfl, ?_⟩
      iterate 2 refine px_go hX ?_
      refine ⟨_, _, ((px_up_n _ _ (hR.ne hc.1.2.2.2 hc.2.1.1 (by omega))).trans (px_up_s _ _ _)), rfl, ?_⟩
      iterate 2 refine px_go hX ?_
      refine ⟨_, _, ((px_up_n _ _ (hR.ne (hc.2.2.2.1 j hj) hc.2.1.1 (by omega))).trans ((px_up_n _ _ (hR.ne (hc.2.2.2.1 j hj) hc.1.2.2.2 (by omega))).trans ((px_up_n _ _ (hR.ne (hc.2.2.2.1 j hj) hc.1.2.2.2 (by omega))).trans (hR.1 _ _ (hc.2.2.2.1 j hj))))), rfl, ?_⟩
      refine px_go hX ?_
      refine ⟨_, _, ((px_up_n _ _ (hR.ne hc.2.1.2.1 hc.2.1.1 (by omega))).trans ((px_up_n _ _ (hR.ne hc.2.1.2.1 hc.1.2.2.2 (by omega))).trans ((px_up_n _ _ (hR.ne hc.2.1.2.1 hc.1.2.2.2 (by omega))).trans (hR.1 5 _ hc.2.1.2.1)))), (vp_in_nI hn4 (by omega)), ?_⟩
      rw [nI_clamp (by omega)]
      iterate 3 refine px_go hX ?_
      refine ⟨_, _, ((px_up_n _ _ (hR.ne hc.1.2.2.2 hc.2.1.2.1 (by omega))).trans ((px_up_n _ _ (hR.ne hc.1.2.2.2 hc.2.1.1 (by omega))).trans (px_up_s _ _ _))), rfl, ?_⟩
      iterate 3 refine px_go hX ?_
      refine ⟨_, ((px_up_n _ _ (hR.ne hc.1.2.2.2 hc.2.1.2.1 (by omega))).trans ((px_up_n _ _ (hR.ne hc.1.2.2.2 hc.2.1.1 (by omega))).trans (px_up_s _ _ _))), Nat.le_of_ble_eq_true rfl, rfl, rfl, ?_⟩
      refine px_go hX ?_
      have hR1 := (((((hR.put (i := 3) hc.1.2.2.2 (px_o 3 [.int (nI (cs_ti σ)), .ref (ad 4), .ref (ad 5), .ref (ad 6), .ref (ad 7), .ref (ad 8), .ref (ad 9), .ref (ad 10), .ref (ad 11), .int (nI n), .int (cs_si σ 1), .int ((cs_si σ 2) ||| ((((13 : Int32)) &&& ((15 : Int32))) <<< (((nI n) * ((4 : Int32))) &&& 31))), .int (cs_si σ 3), .int (cs_si σ 4)])).put (i := 3) (rp_up_s _ _ _) (px_o 3 [.int (nI (cs_ti σ)), .ref (ad 4), .ref (ad 5), .ref (ad 6), .ref (ad 7), .ref (ad 8), .ref (ad 9), .ref (ad 10), .ref (ad 11), .int (nI n), .int ((cs_si σ 1) ||| (((1 : Int32)) <<< ((nI n) &&& 31))), .int ((cs_si σ 2) ||| ((((13 : Int32)) &&& ((15 : Int32))) <<< (((nI n) * ((4 : Int32))) &&& 31))), .int (cs_si σ 3), .int (cs_si σ 4)])).put (i := 4) ((rp_up_n _ _ (by omega)).trans ((rp_up_n _ _ (by omega)).trans hc.2.1.1)) (px_i 4 (upd (cs_sa σ 0) (n) (nI j)))).put (i := 5) ((rp_up_n _ _ (by omega)).trans ((rp_up_n _ _ (by omega)).trans ((rp_up_n _ _ (by omega)).trans hc.2.1.2.1))) (px_i 4 (upd (cs_sa σ 1) (n) (cs_bf σ j 4)))).put (i := 3) ((rp_up_n _ _ (by omega)).trans ((rp_up_n _ _ (by omega)).trans (rp_up_s _ _ _))) (px_o 3 [.int (nI (cs_ti σ)), .ref (ad 4), .ref (ad 5), .ref (ad 6), .ref (ad 7), .ref (ad 8), .ref (ad 9), .ref (ad 10), .ref (ad 11), .int ((nI n) + ((1 : Int32))), .int ((cs_si σ 1) ||| (((1 : Int32)) <<< ((nI n) &&& 31))), .int ((cs_si σ 2) ||| ((((13 : Int32)) &&& ((15 : Int32))) <<< (((nI n) * ((4 : Int32))) &&& 31))), .int (cs_si σ 3), .int (cs_si σ 4)]))
      have hc1 : Cl ad (cs_ad σ j n (13) (1)) (rp_up (rp_up (rp_up (rp_up (rp_up (K) (3) (px_o 3 [.int (nI (cs_ti σ)), .ref (ad 4), .ref (ad 5), .ref (ad 6), .ref (ad 7), .ref (ad 8), .ref (ad 9), .ref (ad 10), .ref (ad 11), .int (nI n), .int (cs_si σ 1), .int ((cs_si σ 2) ||| ((((13 : Int32)) &&& ((15 : Int32))) <<< (((nI n) * ((4 : Int32))) &&& 31))), .int (cs_si σ 3), .int (cs_si σ 4)])) (3) (px_o 3 [.int (nI (cs_ti σ)), .ref (ad 4), .ref (ad 5), .ref (ad 6), .ref (ad 7), .ref (ad 8), .ref (ad 9), .ref (ad 10), .ref (ad 11), .int (nI n), .int ((cs_si σ 1) ||| (((1 : Int32)) <<< ((nI n) &&& 31))), .int ((cs_si σ 2) ||| ((((13 : Int32)) &&& ((15 : Int32))) <<< (((nI n) * ((4 : Int32))) &&& 31))), .int (cs_si σ 3), .int (cs_si σ 4)])) (4) (px_i 4 (upd (cs_sa σ 0) (n) (nI j)))) (5) (px_i 4 (upd (cs_sa σ 1) (n) (cs_bf σ j 4)))) (3) (px_o 3 [.int (nI (cs_ti σ)), .ref (ad 4), .ref (ad 5), .ref (ad 6), .ref (ad 7), .ref (ad 8), .ref (ad 9), .ref (ad 10), .ref (ad 11), .int ((nI n) + ((1 : Int32))), .int ((cs_si σ 1) ||| (((1 : Int32)) <<< ((nI n) &&& 31))), .int ((cs_si σ 2) ||| ((((13 : Int32)) &&& ((15 : Int32))) <<< (((nI n) * ((4 : Int32))) &&& 31))), .int (cs_si σ 3), .int (cs_si σ 4)])) := by
        exact ((((hc.sSi (fun q => match q with | 0 => nI n | 1 => cs_si σ 1 | 2 => cs_si σ 2 ||| ((13 &&& 15) <<< ((nI n * 4) &&& 31)) | 3 => cs_si σ 3 | _ => cs_si σ 4)).sSi (fun q => match q with | 0 => nI n | 1 => cs_si σ 1 ||| (1 <<< (nI n &&& 31)) | 2 => cs_si σ 2 ||| ((13 &&& 15) <<< ((nI n * 4) &&& 31)) | 3 => cs_si σ 3 | _ => cs_si σ 4)).sSa (k := 0) (by omega) _).sSa (k := 1) (by omega) _).sSi _
      have hK1 : ∀ zz, 100 ≤ zz → (rp_up (rp_up (rp_up (rp_up (rp_up (K) (3) (px_o 3 [.int (nI (cs_ti σ)), .ref (ad 4), .ref (ad 5), .ref (ad 6), .ref (ad 7), .ref (ad 8), .ref (ad 9), .ref (ad 10), .ref (ad 11), .int (nI n), .int (cs_si σ 1), .int ((cs_si σ 2) ||| ((((13 : Int32)) &&& ((15 : Int32))) <<< (((nI n) * ((4 : Int32))) &&& 31))), .int (cs_si σ 3), .int (cs_si σ 4)])) (3) (px_o 3 [.int (nI (cs_ti σ)), .ref (ad 4), .ref (ad 5), .ref (ad 6), .ref (ad 7), .ref (ad 8), .ref (ad 9), .ref (ad 10), .ref (ad 11), .int (nI n), .int ((cs_si σ 1) ||| (((1 : Int32)) <<< ((nI n) &&& 31))), .int ((cs_si σ 2) ||| ((((13 : Int32)) &&& ((15 : Int32))) <<< (((nI n) * ((4 : Int32))) &&& 31))), .int (cs_si σ 3), .int (cs_si σ 4)])) (4) (px_i 4 (upd (cs_sa σ 0) (n) (nI j)))) (5) (px_i 4 (upd (cs_sa σ 1) (n) (cs_bf σ j 4)))) (3) (px_o 3 [.int (nI (cs_ti σ)), .ref (ad 4), .ref (ad 5), .ref (ad 6), .ref (ad 7), .ref (ad 8), .ref (ad 9), .ref (ad 10), .ref (ad 11), .int ((nI n) + ((1 : Int32))), .int ((cs_si σ 1) ||| (((1 : Int32)) <<< ((nI n) &&& 31))), .int ((cs_si σ 2) ||| ((((13 : Int32)) &&& ((15 : Int32))) <<< (((nI n) * ((4 : Int32))) &&& 31))), .int (cs_si σ 3), .int (cs_si σ 4)])) zz = (K) zz := fun zz hzz => by rw [rp_up_n _ _ (by omega), rp_up_n _ _ (by omega), rp_up_n _ _ (by omega), rp_up_n _ _ (by omega), rp_up_n _ _ (by omega)]
      exact ⟨rfl, _, _, Or.inl ⟨c2, rfl⟩, Or.inl ⟨c4, rfl⟩, _, hR1, hc1, hK1⟩
theorem hs_t {c s k : Nat} (h1 : pl c k / 4 = s) (h2 : hs c s k ≤ pl c k % 4) : hs c s (k + 1) = pl c k % 4 + 1 := if_pos ⟨h1, h2⟩
theorem hs_f {c s k : Nat} (h : ¬ (pl c k / 4 = s ∧ hs c s k ≤ pl c k % 4)) : hs c s (k + 1) = hs c s k := if_neg h
theorem tp_t {c s k : Nat} (h1 : pl c k / 4 = s) (h2 : hs c s k ≤ pl c k % 4) : tp c s (k + 1) = k + 1 := if_pos ⟨h1, h2⟩
theorem tp_f {c s k : Nat} (h : ¬ (pl c k / 4 = s ∧ hs c s k ≤ pl c k % 4)) : tp c s (k + 1) = tp c s k := if_neg h
theorem cc_measureStacks (hR : Rp ad K C) (hc : Cl ad σ K) {n c : Nat} (hc4 : c < 65536) (hsz : cs_si σ 0 = nI n) (hn4 : n ≤ 4) : px_W ps_Y ps_P B sc (d + 2) 36 [.ref (ad 3), .int (nI c)] C 0 0 (fun v C' => v = none ∧ ∃ f : Nat → Nat → Int32, (∀ s, s < 3 → f 2 s = nI (hs c s n) ∧ f 3 s = nI (tp c s n) - 1) ∧ (∀ q, q ≠ 2 → q ≠ 3 → f q = cs_sa σ q) ∧ Ck ad (cs_jk σ (f, cs_sn σ, cs_si σ)) K C') px_no := by
  refine ⟨pm_Sea_measureStacks, rfl, Nat.le_of_ble_eq_true rfl, fun X hw hX => ?_⟩
  have loop2 : ∀ kk i (f : Nat → Nat → Int32) (K1 : rp_K) (C1 : px_P), i + kk = n → (Rp ad K1 C1 ∧ Cl ad (cs_jk σ (f, cs_sn σ, cs_si σ)) K1 ∧ (∀ i, 100 ≤ i → K1 i = K i) ∧ (∀ q, q ≠ 2 → q ≠ 3 → f q = cs_sa σ q) ∧ ∀ s, s < 3 → f 2 s = nI (hs c s i) ∧ f 3 s = nI (tp c s i) - 1) → X (29, [(0, .ref (ad 3)), (1, .int (nI c)), (2, .int (nI i))], [], C1, 0, 0) := by
    intro kk
    induction kk with
    | zero =>
      intro i f K1 C1 hi ⟨hR1, hc1, hK1, hf, hv⟩
      have hlt : i = n := hi
      have h3 : C1 (ad 3) = some (px_o 3 [.int (nI (cs_ti σ)), .ref (ad 4), .ref (ad 5), .ref (ad 6), .ref (ad 7), .ref (ad 8), .ref (ad 9), .ref (ad 10), .ref (ad 11), .int (nI n), .int (cs_si σ 1), .int (cs_si σ 2), .int (cs_si σ 3), .int (cs_si σ 4)]) := by rw [← hsz]; exact hR1.1 3 _ hc1.1.2.2.2
      iterate 3 refine px_go hX ?_
      refine ⟨_, _, h3, rfl, ?_⟩
      refine px_go hX ?_
      refine ⟨fun (c1 : nI n ≤ nI i) => ?_, fun (c1 : ¬ nI n ≤ nI i) => absurd (nI_le (by omega) (by omega)) c1⟩
      refine px_go hX ?_
      rw [hlt] at hv
      exact ⟨rfl, f, hv, hf, K1, hR1, hc1, hK1⟩
    | succ kk ih =>
      intro i f K1 C1 hi ⟨hR1, hc1, hK1, hf, hv⟩
      have hlt : i < n := by omega
      have h3 : C1 (ad 3) = some (px_o 3 [.int (nI (cs_ti σ)), .ref (ad 4), .ref (ad 5), .ref (ad 6), .ref (ad 7), .ref (ad 8), .ref (ad 9), .ref (ad 10), .ref (ad 11), .int (nI n), .int (cs_si σ 1), .int (cs_si σ 2), .int (cs_si σ 3), .int (cs_si σ 4)]) := by rw [← hsz]; exact hR1.1 3 _ hc1.1.2.2.2
      iterate 3 refine px_go hX ?_
      refine ⟨_, _, h3, rfl, ?_⟩
      refine px_go hX ?_
      refine ⟨fun (c2 : nI n ≤ nI i) => absurd c2 (nI_ge hlt (by omega)), fun (c2 : ¬ nI n ≤ nI i) => ?_⟩
      iterate 3 refine px_go hX ?_
      refine ⟨Nat.le_of_ble_eq_true rfl, 0, 0, _, Nat.le_of_ble_eq_true rfl, Nat.le_of_ble_eq_true rfl, Nat.le_of_ble_eq_true rfl, cc_placeOf hc4 (by omega), ?_⟩
      rintro _ C ⟨rfl, rfl⟩
      have h16 := pl_lt c i
      iterate 4 refine px_go hX ?_
      refine ⟨by decide +kernel, ?_⟩
      iterate 4 refine px_go hX ?_
      refine ⟨by decide +kernel, ?_⟩
      iterate 1 refine px_go hX ?_
      refine px_lw hw [(0, .ref (ad 3)), (1, .int (nI c)), (2, .int (nI i)), (3, .int (nI (pl c i))), (4, .int (nI (pl c i / 4))), (5, .int (nI (pl c i % 4)))] ?_ ⟨rfl, rfl, rfl, rfl, congrArg (fun z => some (Value.int z)) (pk_div (by omega) (by omega) (by omega) : nI (pl c i) / nI 4 = nI (pl c i / 4)), congrArg (fun z => some (Value.int z)) (pk_rem (by omega) (by omega) (by omega) : nI (pl c i) - nI (pl c i) / nI 4 * nI 4 = nI (pl c i % 4)), trivial⟩
      iterate 3 refine px_go hX ?_
      refine ⟨fun (c3 : (3 : Int32) ≤ nI (pl c i / 4)) => ?_, fun (c3 : ¬ (3 : Int32) ≤ nI (pl c i / 4)) => ?_⟩
      · iterate 2 refine px_go hX ?_
        exact px_lw hw [(0, .ref (ad 3)), (1, .int (nI c)), (2, .int (nI (i + 1)))] (ih (i + 1) f K1 _ (by omega) ⟨hR1, hc1, hK1, hf, fun s h3s => by
                have hno : ∀ s, s < 3 → ¬ (pl c i / 4 = s ∧ hs c s i ≤ pl c i % 4) := fun s h3s q => nI_ge (by omega : pl c i / 4 < 3) (by omega : 3 < 2 ^ 31) c3
                rw [hs_f (hno s h3s), tp_f (hno s h3s)]
                exact hv s h3s⟩) ⟨rfl, rfl, (congrArg (fun z => some (Value.int z)) (nI_succ _).symm), trivial⟩
      · have hs3 : pl c i / 4 < 3 := by
          rcases Nat.lt_or_ge (pl c i / 4) 3 with h | h
          · exact h
          · exact absurd (nI_le h (by omega) : nI 3 ≤ nI (pl c i / 4)) c3
        iterate 3 refine px_go hX ?_
        refine ⟨_, _, h3, rfl, ?_⟩
        iterate 2 refine px_go hX ?_
        refine ⟨_, _, (hR1.1 6 _ hc1.2.1.2.2.1), (vp_in_nI hs3 (by omega)), ?_⟩
        rw [nI_clamp (by omega), (show cs_sa (cs_jk σ (f, cs_sn σ, cs_si σ)) 2 (pl c i / 4) = nI (hs c (pl c i / 4) i) from (hv _ hs3).1)]
        refine px_go hX ?_
        refine ⟨fun (c4 : nI (pl c i % 4) < nI (hs c (pl c i / 4) i)) => ?_, fun (c4 : ¬ nI (pl c i % 4) < nI (hs c (pl c i / 4) i)) => ?_⟩
        · iterate 2 refine px_go hX ?_
          exact px_lw hw [(0, .ref (ad 3)), (1, .int (nI c)), (2, .int (nI (i + 1)))] (ih (i + 1) f K1 _ (by omega) ⟨hR1, hc1, hK1, hf, fun s h3s => by
                  have hno : ∀ s, s < 3 → ¬ (pl c i / 4 = s ∧ hs c s i ≤ pl c i % 4) := fun s h3s q => by
                    obtain ⟨q1, q2⟩ := q
                    subst q1
                    exact absurd c4 (nI_nlt q2 (by omega))
                  rw [hs_f (hno s h3s), tp_f (hno s h3s)]
                  exact hv s h3s⟩) ⟨rfl, rfl, (congrArg (fun z => some (Value.int z)) (nI_succ _).symm), trivial⟩
        · iterate 2 refine px_go hX ?_
          refine ⟨_, _, h3, rfl, ?_⟩
          iterate 5 refine px_go hX ?_
          refine ⟨_, _, (hR1.1 6 _ hc1.2.1.2.2.1), (vp_in_nI hs3 (by omega)), ?_⟩
          rw [nI_clamp (by omega)]
          iterate 2 refine px_go hX ?_
          refine ⟨_, _, ((px_up_n _ _ (hR1.ne hc1.1.2.2.2 hc1.2.1.2.2.1 (by omega))).trans h3), rfl, ?_⟩
          iterate 3 refine px_go hX ?_
          refine ⟨_, _, ((px_up_n _ _ (hR1.ne hc1.2.1.2.2.2.1 hc1.2.1.2.2.1 (by omega))).trans (hR1.1 7 _ hc1.2.1.2.2.2.1)), (vp_in_nI hs3 (by omega)), ?_⟩
          rw [nI_clamp (by omega)]
          iterate 2 refine px_go hX ?_
          have hR2 := ((hR1.put (i := 6) hc1.2.1.2.2.1 (px_i 3 (upd (f 2) ((pl c i / 4)) ((nI (pl c i % 4)) + ((1 : Int32)))))).put (i := 7) ((rp_up_n _ _ (by omega)).trans hc1.2.1.2.2.2.1) (px_i 3 (upd (f 3) ((pl c i / 4)) (nI i))))
          have hc2 : Cl ad (cs_jk σ (va_up (va_up f 2 (upd (f 2) ((pl c i / 4)) ((nI (pl c i % 4)) + ((1 : Int32))))) 3 (upd (f 3) ((pl c i / 4)) (nI i)), cs_sn σ, cs_si σ)) (rp_up (rp_up (K1) (6) (px_i 3 (upd (f 2) ((pl c i / 4)) ((nI (pl c i % 4)) + ((1 : Int32)))))) (7) (px_i 3 (upd (f 3) ((pl c i / 4)) (nI i)))) := by
            exact (hc1.sSa (k := 2) (by omega) _).sSa (k := 3) (by omega) _
          have hK2 : ∀ zz, 100 ≤ zz → (rp_up (rp_up (K1) (6) (px_i 3 (upd (f 2) ((pl c i / 4)) ((nI (pl c i % 4)) + ((1 : Int32)))))) (7) (px_i 3 (upd (f 3) ((pl c i / 4)) (nI i)))) zz = (K1) zz := fun zz hzz => by rw [rp_up_n _ _ (by omega), rp_up_n _ _ (by omega)]
          exact px_lw hw [(0, .ref (ad 3)), (1, .int (nI c)), (2, .int (nI (i + 1)))] (ih (i + 1) (va_up (va_up f 2 (upd (f 2) ((pl c i / 4)) ((nI (pl c i % 4)) + ((1 : Int32))))) 3 (upd (f 3) ((pl c i / 4)) (nI i))) _ _ (by omega) ⟨hR2, hc2, fun q hq => (hK2 q hq).trans (hK1 q hq), fun q h2 h3 => by rw [va_up_ne _ _ h3, va_up_ne _ _ h2]; exact hf q h2 h3, fun s h3s => by
                  have hle : hs c (pl c i / 4) i ≤ pl c i % 4 := by
                    rcases Nat.lt_or_ge (pl c i % 4) (hs c (pl c i / 4) i) with h | h
                    · exact absurd (nI_lt h (by have := hs_le c (pl c i / 4) i; omega)) c4
                    · exact h
                  show upd (f 2) (pl c i / 4) (nI (pl c i % 4) + 1) s = nI (hs c s (i + 1)) ∧ upd (f 3) (pl c i / 4) (nI i) s = nI (tp c s (i + 1)) - 1
                  by_cases h : s = pl c i / 4
                  · subst h
                    rw [pk_us, pk_us, hs_t rfl hle, tp_t rfl hle, nI_pred]
                    exact ⟨(nI_succ _).symm, rfl⟩
                  · rw [pk_un h, pk_un h, hs_f (fun q => h q.1.symm), tp_f (fun q => h q.1.symm)]
                    exact hv s h3s⟩) ⟨rfl, rfl, (congrArg (fun z => some (Value.int z)) (nI_succ _).symm), trivial⟩
  have loop1 : ∀ kk i (f : Nat → Nat → Int32) (K1 : rp_K) (C1 : px_P), i + kk = 3 → (Rp ad K1 C1 ∧ Cl ad (cs_jk σ (f, cs_sn σ, cs_si σ)) K1 ∧ (∀ i, 100 ≤ i → K1 i = K i) ∧ (∀ q, q ≠ 2 → q ≠ 3 → f q = cs_sa σ q) ∧ ∀ s, s < i → f 2 s = 0 ∧ f 3 s = -1) → X (2, [(0, .ref (ad 3)), (1, .int (nI c)), (2, .int (nI i))], [], C1, 0, 0) := by
    intro kk
    induction kk with
    | zero =>
      intro i f K1 C1 hi ⟨hR1, hc1, hK1, hf, hv⟩
      have hlt : i = 3 := hi
      iterate 3 refine px_go hX ?_
      refine ⟨fun (c5 : (3 : Int32) ≤ nI i) => ?_, fun (c5 : ¬ (3 : Int32) ≤ nI i) => absurd (by rw [hlt]; exact Int32.le_refl _) c5⟩
      iterate 2 refine px_go hX ?_
      exact px_lw hw [(0, .ref (ad 3)), (1, .int (nI c)), (2, .int (nI 0))] (loop2 (n - 0) 0 f K1 C1 (by omega) ⟨hR1, hc1, hK1, hf, fun s h3s => by rw [(hv s (by omega)).1, (hv s (by omega)).2]; exact ⟨rfl, rfl⟩⟩) ⟨rfl, rfl, rfl, trivial⟩
    | succ kk ih =>
      intro i f K1 C1 hi ⟨hR1, hc1, hK1, hf, hv⟩
      have hlt : i < 3 := by omega
      iterate 3 refine px_go hX ?_
      refine ⟨fun (c6 : (3 : Int32) ≤ nI i) => absurd c6 (nI_ge hlt (by omega : 3 < 2 ^ 31)), fun (c6 : ¬ (3 : Int32) ≤ nI i) => ?_⟩
      iterate 2 refine px_go hX ?_
      refine ⟨_, _, (hR1.1 3 _ hc1.1.2.2.2), rfl, ?_⟩
      iterate 3 refine px_go hX ?_
      refine ⟨_, _, (hR1.1 6 _ hc1.2.1.2.2.1), (vp_in_nI hlt (by omega)), ?_⟩
      rw [nI_clamp (by omega)]
      iterate 2 refine px_go hX ?_
      refine ⟨_, _, ((px_up_n _ _ (hR1.ne hc1.1.2.2.2 hc1.2.1.2.2.1 (by omega))).trans (hR1.1 3 _ hc1.1.2.2.2)), rfl, ?_⟩
      iterate 3 refine px_go hX ?_
      refine ⟨_, _, ((px_up_n _ _ (hR1.ne hc1.2.1.2.2.2.1 hc1.2.1.2.2.1 (by omega))).trans (hR1.1 7 _ hc1.2.1.2.2.2.1)), (vp_in_nI hlt (by omega)), ?_⟩
      rw [nI_clamp (by omega)]
      iterate 2 refine px_go hX ?_
      have hR2 := ((hR1.put (i := 6) hc1.2.1.2.2.1 (px_i 3 (upd (f 2) (i) ((0 : Int32))))).put (i := 7) ((rp_up_n _ _ (by omega)).trans hc1.2.1.2.2.2.1) (px_i 3 (upd (f 3) (i) ((-1 : Int32)))))
      have hc2 : Cl ad (cs_jk σ (va_up (va_up f 2 (upd (f 2) (i) ((0 : Int32)))) 3 (upd (f 3) (i) ((-1 : Int32))), cs_sn σ, cs_si σ)) (rp_up (rp_up (K1) (6) (px_i 3 (upd (f 2) (i) ((0 : Int32))))) (7) (px_i 3 (upd (f 3) (i) ((-1 : Int32))))) := by
        exact (hc1.sSa (k := 2) (by omega) _).sSa (k := 3) (by omega) _
      have hK2 : ∀ zz, 100 ≤ zz → (rp_up (rp_up (K1) (6) (px_i 3 (upd (f 2) (i) ((0 : Int32))))) (7) (px_i 3 (upd (f 3) (i) ((-1 : Int32))))) zz = (K1) zz := fun zz hzz => by rw [rp_up_n _ _ (by omega), rp_up_n _ _ (by omega)]
      exact px_lw hw [(0, .ref (ad 3)), (1, .int (nI c)), (2, .int (nI (i + 1)))] (ih (i + 1) (va_up (va_up f 2 (upd (f 2) (i) ((0 : Int32)))) 3 (upd (f 3) (i) ((-1 : Int32)))) _ _ (by omega) ⟨hR2, hc2, fun q hq => (hK2 q hq).trans (hK1 q hq), fun q h2 h3 => by rw [va_up_ne _ _ h3, va_up_ne _ _ h2]; exact hf q h2 h3, fun s h3s => by
              show upd (f 2) i 0 s = 0 ∧ upd (f 3) i (-1) s = -1
              rcases Nat.lt_succ_iff_lt_or_eq.mp h3s with h | h
              · rw [pk_un (by omega), pk_un (by omega)]
                exact hv s h
              · rw [h, pk_us, pk_us]
                exact ⟨rfl, rfl⟩⟩) ⟨rfl, rfl, (congrArg (fun z => some (Value.int z)) (nI_succ _).symm), trivial⟩
  iterate 2 refine px_go hX ?_
  exact px_lw hw [(0, .ref (ad 3)), (1, .int (nI c)), (2, .int (nI 0))] (loop1 (3 - 0) 0 (cs_sa σ) K C (by omega) ⟨hR, hc, fun _ _ => rfl, fun _ _ _ => rfl, fun s hs => absurd hs (Nat.not_lt_zero s)⟩) ⟨rfl, rfl, rfl, trivial⟩
end RL
