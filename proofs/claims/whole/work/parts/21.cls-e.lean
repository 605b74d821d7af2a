/-! The class's calls that change its state: work, before. -/
section RI
variable {B : Nat} {sc : Option (Nat × Nat × (Nat → Int32))} {d : Nat} {ad : Nat → Nat} {σ : ck_S} {K : rp_K} {C : px_P}
theorem px_inm {y : Int32} (h1 : ¬ y < 0) (h2 : ¬ 12 ≤ y) : vp_in y 12 := by
  rcases px_ixx y 12 (by omega) with ⟨i, hi, rfl⟩ | h | h
  · exact vp_in_nI hi (by omega)
  · exact absurd h h1
  · exact absurd h h2
def cs_hgt (σ : ck_S) (x y : Int32) : Int32 := nI (pn_ct (fun j => decide (cs_bf σ j 1 = x) && decide (cs_bf σ j 2 = y)) (cs_n σ))
def cs_wt (σ : ck_S) (x to : Int32) : Int32 := if 3 ≤ to then -1 else cs_hgt σ x to
def cs_w1 (σ : ck_S) (b j : Nat) (t to : Int32) : ck_S := cs_sM (cs_sY (cs_sB σ j (fun q => match q with | 0 => cs_bf σ j 0 | 1 => cs_bf σ j 1 | 2 => to | 3 => t | _ => cs_bf σ j 4)) b (fun q => match q with | 0 => cs_yf σ b 0 | 1 => cs_yf σ b 1 | 2 => cs_yf σ b 2 + 1 | _ => cs_yf σ b 3)) (cs_mw σ + 1) (cs_lg σ)
def cs_w2 (σ : ck_S) (b j : Nat) (t to : Int32) : ck_S := cs_sM (cs_sY (cs_w1 σ b j t to) b (fun q => match q with | 0 => cs_yf σ b 0 | 1 => cs_yf σ b 1 | 2 => cs_yf σ b 2 + 1 | _ => cs_yf σ b 3 - 1)) (cs_mw σ + 1) (cs_lg σ + 1)
def cs_hm (σ : ck_S) (b : Nat) (y : Int32) : Prop := ¬ cs_yf σ b 0 = 0 ∧ ¬ y < 0 ∧ ¬ cs_yf σ b 1 ≤ y ∧ ¬ 12 ≤ y
def of_wk (σ : ck_S) (x : Int32) (b j : Nat) (to : Int32) : cs_R := if to = 3 ∧ 0 < cs_yf σ b 3 then (0, cs_lft (cs_w2 σ b j (cs_wt σ x to) to) b, cs_w2 σ b j (cs_wt σ x to) to) else (0, cs_lft (cs_w1 σ b j (cs_wt σ x to) to) b, cs_w1 σ b j (cs_wt σ x to) to)
def of_work (σ : ck_S) (x : Int32) : cs_R := match cs_bq σ x with
  | none => (1, 0, σ)
  | some b => if cs_yf σ b 0 = 0 ∨ cs_yf σ b 2 < 0 ∨ cs_yf σ b 1 ≤ cs_yf σ b 2 ∨ 12 ≤ cs_yf σ b 2 then (2, 0, σ) else match cs_xq σ (cs_ya σ b 0 (cs_yf σ b 2).toNatClampNeg) with
    | none => (2, 0, σ)
    | some j => of_wk σ x b j (cs_ya σ b 2 (cs_yf σ b 2).toNatClampNeg)
theorem of_work_3 (hc : Cl ad σ K) {b j : Nat} {x : Int32} (hx : x = nI b) (hb : b < cs_nb σ) (h : ¬ cs_yf σ b 0 = 0 ∧ ¬ cs_yf σ b 2 < 0 ∧ ¬ cs_yf σ b 1 ≤ cs_yf σ b 2 ∧ ¬ 12 ≤ cs_yf σ b 2) (hj : j < cs_n σ) (hy : cs_ya σ b 0 (cs_yf σ b 2).toNatClampNeg = nI j) : of_work σ x = of_wk σ x b j (cs_ya σ b 2 (cs_yf σ b 2).toNatClampNeg) := by
  have h1 : cs_bq σ x = some b := by rw [hx]; exact cs_bq_s hc hb
  have h2 : cs_xq σ (cs_ya σ b 0 (cs_yf σ b 2).toNatClampNeg) = some j := by rw [hy]; exact cs_xq_s hc hj
  unfold of_work
  rw [h1]
  show (if _ then _ else _) = _
  rw [if_neg (fun q => by rcases q with q | q | q | q; exact h.1 q; exact h.2.1 q; exact h.2.2.1 q; exact h.2.2.2 q), h2]
theorem of_work_2 (hc : Cl ad σ K) {b : Nat} {x : Int32} (hx : x = nI b) (hb : b < cs_nb σ) (h : ¬ (¬ cs_yf σ b 0 = 0 ∧ ¬ cs_yf σ b 2 < 0 ∧ ¬ cs_yf σ b 1 ≤ cs_yf σ b 2 ∧ ¬ 12 ≤ cs_yf σ b 2) ∨ (cs_ya σ b 0 (cs_yf σ b 2).toNatClampNeg < 0 ∨ nI (cs_n σ) ≤ cs_ya σ b 0 (cs_yf σ b 2).toNatClampNeg)) : of_work σ x = (2, 0, σ) := by
  have h1 : cs_bq σ x = some b := by rw [hx]; exact cs_bq_s hc hb
  unfold of_work
  rw [h1]
  show (if _ then _ else _) = _
  by_cases h2 : cs_yf σ b 0 = 0 ∨ cs_yf σ b 2 < 0 ∨ cs_yf σ b 1 ≤ cs_yf σ b 2 ∨ 12 ≤ cs_yf σ b 2
  · rw [if_pos h2]
  · rw [if_neg h2]
    rcases h with h | h
    · exact absurd ⟨fun q => h2 (Or.inl q), fun q => h2 (Or.inr (Or.inl q)), fun q => h2 (Or.inr (Or.inr (Or.inl q))), fun q => h2 (Or.inr (Or.inr (Or.inr q)))⟩ h
    · rw [cs_xq_n h]
theorem cc_work (hR : Rp ad K C) (hc : Cl ad σ K) (x : Int32) : px_W ps_Y ps_P B sc (d + 3) 51 [.ref (ad 0), .int x] C 1 6 (px_oC ad K (of_work σ x)) (px_oT ad K (of_work σ x)) := by
  have h0 := hR.1 0 _ hc.1.1
  have hn := hc.2.2.2.2.2.2.2.2.2
  have hnb := hc.2.2.2.2.2.2.1
  refine ⟨pm_Mo_work, rfl, Nat.le_of_ble_eq_true rfl, fun X hw hX => ?_⟩
  iterate 3 refine px_go hX ?_
  refine ⟨_, h0, 0, 0, _, Nat.le_of_ble_eq_true rfl, Nat.le_of_ble_eq_true rfl, Nat.le_of_ble_eq_true rfl, cc_bayAt hR hc _, ?_⟩
  rintro _ C ⟨rfl, ⟨b, hb, hx, rfl⟩ | ⟨hx, rfl⟩⟩
  · iterate 5 refine px_go hX ?_
    refine ⟨_, _, (hR.1 _ _ (hc.2.2.1 b hb).1), rfl, ?_⟩
    iterate 4 refine px_go hX ?_
    refine ⟨_, (hR.1 _ _ (hc.2.2.1 b hb).1), 0, 0, _, Nat.le_of_ble_eq_true rfl, Nat.le_of_ble_eq_true rfl, Nat.le_of_ble_eq_true rfl, cc_hasMove hR hc hb _, ?_⟩
    rintro _ C ⟨rfl, ⟨b1, rfl⟩ | ⟨b1, rfl⟩⟩
    · refine px_go hX ?_
      refine ⟨fun (c2 : 1 = 0) => absurd c2 (by decide), fun (c2 : ¬ 1 = 0) => ?_⟩
      iterate 3 refine px_go hX ?_
      refine ⟨_, _, (hR.1 _ _ (hc.2.2.1 b hb).1), rfl, ?_⟩
      iterate 2 refine px_go hX ?_
      refine ⟨_, _, (hR.1 _ _ (hc.2.2.1 b hb).2.1), (px_inm (y := cs_yf σ b 2) b1.2.1 b1.2.2.2), ?_⟩
      refine px_go hX ?_
      refine ⟨_, h0, 0, 0, _, Nat.le_of_ble_eq_true rfl, Nat.le_of_ble_eq_true rfl, Nat.le_of_ble_eq_true rfl, cc_boxAt hR hc _, ?_⟩
      rintro _ C ⟨rfl, ⟨j, hj, hy, rfl⟩ | ⟨hy, rfl⟩⟩
      · iterate 6 refine px_go hX ?_
        refine ⟨_, _, (hR.1 _ _ (hc.2.2.1 b hb).1), rfl, ?_⟩
        iterate 2 refine px_go hX ?_
        refine ⟨_, _, (hR.1 _ _ (hc.2.2.1 b hb).2.2.2), (px_inm (y := cs_yf σ b 2) b1.2.1 b1.2.2.2), ?_⟩
        iterate 5 refine px_go hX ?_
        refine ⟨fun (c3 : (3 : Int32) ≤ cs_ya σ b 2 (cs_yf σ b 2).toNatClampNeg) => ?_, fun (c3 : ¬ (3 : Int32) ≤ cs_ya σ b 2 (cs_yf σ b 2).toNatClampNeg) => ?_⟩
        · iterate 2 refine px_go hX ?_
          refine ⟨_, (hR.1 _ _ (hc.2.2.2.1 j hj)), Nat.le_of_ble_eq_true rfl, rfl, rfl, ?_⟩
          iterate 3 refine px_go hX ?_
          refine ⟨_, (px_up_s _ _ _), Nat.le_of_ble_eq_true rfl, rfl, rfl, ?_⟩
          iterate 3 refine px_go hX ?_
          refine ⟨_, _, ((px_up_n _ _ (hR.ne (hc.2.2.1 b hb).1 (hc.2.2.2.1 j hj) (by omega))).trans ((px_up_n _ _ (hR.ne (hc.2.2.1 b hb).1 (hc.2.2.2.1 j hj) (by omega))).trans (hR.1 _ _ (hc.2.2.1 b hb).1))), rfl, ?_⟩
          iterate 3 refine px_go hX ?_
          refine ⟨_, ((px_up_n _ _ (hR.ne (hc.2.2.1 b hb).1 (hc.2.2.2.1 j hj) (by omega))).trans ((px_up_n _ _ (hR.ne (hc.2.2.1 b hb).1 (hc.2.2.2.1 j hj) (by omega))).trans (hR.1 _ _ (hc.2.2.1 b hb).1))), Nat.le_of_ble_eq_true rfl, rfl, rfl, ?_⟩
          iterate 3 refine px_go hX ?_
          refine ⟨_, _, ((px_up_n _ _ (hR.ne hc.1.1 (hc.2.2.1 b hb).1 (by omega))).trans ((px_up_n _ _ (hR.ne hc.1.1 (hc.2.2.2.1 j hj) (by omega))).trans ((px_up_n _ _ (hR.ne hc.1.1 (hc.2.2.2.1 j hj) (by omega))).trans h0))), rfl, ?_⟩
          iterate 3 refine px_go hX ?_
          refine ⟨_, ((px_up_n _ _ (hR.ne hc.1.1 (hc.2.2.1 b hb).1 (by omega))).trans ((px_up_n _ _ (hR.ne hc.1.1 (hc.2.2.2.1 j hj) (by omega))).trans ((px_up_n _ _ (hR.ne hc.1.1 (hc.2.2.2.1 j hj) (by omega))).trans h0))), Nat.le_of_ble_eq_true rfl, rfl, rfl, ?_⟩
          have hR1 := ((((hR.put (i := 40 + j) (hc.2.2.2.1 j hj) (px_o 2 [.int (cs_bf σ j 0), .int (cs_bf σ j 1), .int (cs_bf σ j 2), .int ((-1 : Int32)), .int (cs_bf σ j 4)])).put (i := 40 + j) (rp_up_s _ _ _) (px_o 2 [.int (cs_bf σ j 0), .int (cs_bf σ j 1), .int (cs_ya σ b 2 (cs_yf σ b 2).toNatClampNeg), .int ((-1 : Int32)), .int (cs_bf σ j 4)])).put (i := 20 + 4 * b) ((rp_up_n _ _ (by omega)).trans ((rp_up_n _ _ (by omega)).trans (hc.2.2.1 b hb).1)) (px_o 1 [.ref (ad (21 + 4 * b)), .ref (ad (22 + 4 * b)), .ref (ad (23 + 4 * b)), .int (cs_yf σ b 0), .int (cs_yf σ b 1), .int ((cs_yf σ b 2) + ((1 : Int32))), .int (cs_yf σ b 3)])).put (i := 0) ((rp_up_n _ _ (by omega)).trans ((rp_up_n _ _ (by omega)).trans ((rp_up_n _ _ (by omega)).trans hc.1.1))) (px_o 0 [.int (nI (cs_ti σ)), .ref (ad 1), .ref (ad 2), .ref (ad 3), .int (nI (cs_n σ)), .int ((cs_mw σ) + ((1 : Int32))), .int (cs_lg σ)]))
          have hc1 : Cl ad (cs_w1 σ b j (-1) (cs_ya σ b 2 (cs_yf σ b 2).toNatClampNeg)) (rp_up (rp_up (rp_up (rp_up (K) (40 + j) (px_o 2 [.int (cs_bf σ j 0), .int (cs_bf σ j 1), .int (cs_bf σ j 2), .int ((-1 : Int32)), .int (cs_bf σ j 4)])) (40 + j) (px_o 2 [.int (cs_bf σ j 0), .int (cs_bf σ j 1), .int (cs_ya σ b 2 (cs_yf σ b 2).toNatClampNeg), .int ((-1 : Int32)), .int (cs_bf σ j 4)])) (20 + 4 * b) (px_o 1 [.ref (ad (21 + 4 * b)), .ref (ad (22 + 4 * b)), .ref (ad (23 + 4 * b)), .int (cs_yf σ b 0), .int (cs_yf σ b 1), .int ((cs_yf σ b 2) + ((1 : Int32))), .int (cs_yf σ b 3)])) (0) (px_o 0 [.int (nI (cs_ti σ)), .ref (ad 1), .ref (ad 2), .ref (ad 3), .int (nI (cs_n σ)), .int ((cs_mw σ) + ((1 : Int32))), .int (cs_lg σ)])) := by
            rw [rp_up_up]
            exact ((hc.sB hj _).sY (b := b) hb _).sM _ _
          have hK1 : ∀ i, 100 ≤ i → (rp_up (rp_up (rp_up (rp_up (K) (40 + j) (px_o 2 [.int (cs_bf σ j 0), .int (cs_bf σ j 1), .int (cs_bf σ j 2), .int ((-1 : Int32)), .int (cs_bf σ j 4)])) (40 + j) (px_o 2 [.int (cs_bf σ j 0), .int (cs_bf σ j 1), .int (cs_ya σ b 2 (cs_yf σ b 2).toNatClampNeg), .int ((-1 : Int32)), .int (cs_bf σ j 4)])) (20 + 4 * b) (px_o 1 [.ref (ad (21 + 4 * b)), .ref (ad (22 + 4 * b)), .ref (ad (23 + 4 * b)), .int (cs_yf σ b 0), .int (cs_yf σ b 1), .int ((cs_yf σ b 2) + ((1 : Int32))), .int (cs_yf σ b 3)])) (0) (px_o 0 [.int (nI (cs_ti σ)), .ref (ad 1), .ref (ad 2), .ref (ad 3), .int (nI (cs_n σ)), .int ((cs_mw σ) + ((1 : Int32))), .int (cs_lg σ)])) i = (K) i := fun i hi => by rw [rp_up_n _ _ (by omega), rp_up_n _ _ (by omega), rp_up_n _ _ (by omega), rp_up_n _ _ (by omega)]
          iterate 3 refine px_go hX ?_
          refine ⟨fun (c4 : ¬ cs_ya σ b 2 (cs_yf σ b 2).toNatClampNeg = (3 : Int32)) => ?_, fun (c4 : cs_ya σ b 2 (cs_yf σ b 2).toNatClampNeg = (3 : Int32)) => ?_⟩
          · iterate 2 refine px_go hX ?_
            refine ⟨_, ((px_up_n _ _ (hR.ne (hc.2.2.1 b hb).1 hc.1.1 (by omega))).trans (px_up_s _ _ _)), 0, 0, _, Nat.le_of_ble_eq_true rfl, Nat.le_of_ble_eq_true rfl, Nat.le_of_ble_eq_true rfl, cc_movesLeft hR1 hc1 hb, ?_⟩
            rintro _ C ⟨rfl, ⟨b2, rfl⟩ | ⟨b2, rfl⟩⟩
            · refine px_go hX ?_
              have ht : cs_wt σ x (cs_ya σ b 2 (cs_yf σ b 2).toNatClampNeg) = -1 := if_pos c3
              rw [of_work_3 hc hx hb b1 hj hy, show of_wk σ x b j (cs_ya σ b 2 (cs_yf σ b 2).toNatClampNeg) = (0, cs_lft (cs_w1 σ b j (-1) (cs_ya σ b 2 (cs_yf σ b 2).toNatClampNeg)) b, cs_w1 σ b j (-1) (cs_ya σ b 2 (cs_yf σ b 2).toNatClampNeg)) from by rw [← ht]; exact if_neg (fun q => c4 q.1)]
              exact ⟨rfl, congrArg (fun z => some (Value.int z)) (if_pos b2).symm, Ck.ca ⟨_, hR1, hc1, fun i hi => hK1 i hi⟩⟩
            · refine px_go hX ?_
              have ht : cs_wt σ x (cs_ya σ b 2 (cs_yf σ b 2).toNatClampNeg) = -1 := if_pos c3
              rw [of_work_3 hc hx hb b1 hj hy, show of_wk σ x b j (cs_ya σ b 2 (cs_yf σ b 2).toNatClampNeg) = (0, cs_lft (cs_w1 σ b j (-1) (cs_ya σ b 2 (cs_yf σ b 2).toNatClampNeg)) b, cs_w1 σ b j (-1) (cs_ya σ b 2 (cs_yf σ b 2).toNatClampNeg)) from by rw [← ht]; exact if_neg (fun q => c4 q.1)]
              exact ⟨rfl, congrArg (fun z => some (Value.int z)) (if_neg b2).symm, Ck.ca ⟨_, hR1, hc1, fun i hi => hK1 i hi⟩⟩
          · iterate 2 refine px_go hX ?_
            refine ⟨_, _, ((px_up_n _ _ (hR.ne (hc.2.2.1 b hb).1 hc.1.1 (by omega))).trans (px_up_s _ _ _)), rfl, ?_⟩
            refine px_go hX ?_
            refine ⟨fun (c5 : cs_yf σ b 3 ≤ 0) => ?_, fun (c5 : ¬ cs_yf σ b 3 ≤ 0) => ?_⟩
            · iterate 2 refine px_go hX ?_
              refine ⟨_, ((px_up_n _ _ (hR.ne (hc.2.2.1 b hb).1 hc.1.1 (by omega))).trans (px_up_s _ _ _)), 0, 0, _, Nat.le_of_ble_eq_true rfl, Nat.le_of_ble_eq_true rfl, Nat.le_of_ble_eq_true rfl, cc_movesLeft hR1 hc1 hb, ?_⟩
              rintro _ C ⟨rfl, ⟨b2, rfl⟩ | ⟨b2, rfl⟩⟩
              · refine px_go hX ?_
                have ht : cs_wt σ x (cs_ya σ b 2 (cs_yf σ b 2).toNatClampNeg) = -1 := if_pos c3
                rw [of_work_3 hc hx hb b1 hj hy, show of_wk σ x b j (cs_ya σ b 2 (cs_yf σ b 2).toNatClampNeg) = (0, cs_lft (cs_w1 σ b j (-1) (cs_ya σ b 2 (cs_yf σ b 2).toNatClampNeg)) b, cs_w1 σ b j (-1) (cs_ya σ b 2 (cs_yf σ b 2).toNatClampNeg)) from by rw [← ht]; exact if_neg (fun q => absurd q.2 (Int32.not_lt.mpr c5))]
                exact ⟨rfl, congrArg (fun z => some (Value.int z)) (if_pos b2).symm, Ck.ca ⟨_, hR1, hc1, fun i hi => hK1 i hi⟩⟩
              · refine px_go hX ?_
                have ht : cs_wt σ x (cs_ya σ b 2 (cs_yf σ b 2).toNatClampNeg) = -1 := if_pos c3
                rw [of_work_3 hc hx hb b1 hj hy, show of_wk σ x b j (cs_ya σ b 2 (cs_yf σ b 2).toNatClampNeg) = (0, cs_lft (cs_w1 σ b j (-1) (cs_ya σ b 2 (cs_yf σ b 2).toNatClampNeg)) b, cs_w1 σ b j (-1) (cs_ya σ b 2 (cs_yf σ b 2).toNatClampNeg)) from by rw [← ht]; exact if_neg (fun q => absurd q.2 (Int32.not_lt.mpr c5))]
                exact ⟨rfl, congrArg (fun z => some (Value.int z)) (if_neg b2).symm, Ck.ca ⟨_, hR1, hc1, fun i hi => hK1 i hi⟩⟩
            · iterate 3 refine px_go hX ?_
              refine ⟨_, _, ((px_up_n _ _ (hR.ne (hc.2.2.1 b hb).1 hc.1.1 (by omega))).trans (px_up_s _ _ _)), rfl, ?_⟩
              iterate 3 refine px_go hX ?_
              refine ⟨_, ((px_up_n _ _ (hR.ne (hc.2.2.1 b hb).1 hc.1.1 (by omega))).trans (px_up_s _ _ _)), Nat.le_of_ble_eq_true rfl, rfl, rfl, ?_⟩
              iterate 3 refine px_go hX ?_
              refine ⟨_, _, ((px_up_n _ _ (hR.ne hc.1.1 (hc.2.2.1 b hb).1 (by omega))).trans (px_up_s _ _ _)), rfl, ?_⟩
              iterate 3 refine px_go hX ?_
              refine ⟨_, ((px_up_n _ _ (hR.ne hc.1.1 (hc.2.2.1 b hb).1 (by omega))).trans (px_up_s _ _ _)), Nat.le_of_ble_eq_true rfl, rfl, rfl, ?_⟩
              have hR2 := ((hR1.put (i := 20 + 4 * b) (hc1.2.2.1 b hb).1 (px_o 1 [.ref (ad (21 + 4 * b)), .ref (ad (22 + 4 * b)), .ref (ad (23 + 4 * b)), .int (cs_yf σ b 0), .int (cs_yf σ b 1), .int ((cs_yf σ b 2) + ((1 : Int32))), .int ((cs_yf σ b 3) - ((1 : Int32)))])).put (i := 0) ((rp_up_n _ _ (by omega)).trans hc1.1.1) (px_o 0 [.int (nI (cs_ti σ)), .ref (ad 1), .ref (ad 2), .ref (ad 3), .int (nI (cs_n σ)), .int ((cs_mw σ) + ((1 : Int32))), .int ((cs_lg σ) + ((1 : Int32)))]))
              have hc2 : Cl ad (cs_w2 σ b j (-1) (cs_ya σ b 2 (cs_yf σ b 2).toNatClampNeg)) (rp_up (rp_up (rp_up (rp_up (rp_up (rp_up (K) (40 + j) (px_o 2 [.int (cs_bf σ j 0), .int (cs_bf σ j 1), .int (cs_bf σ j 2), .int ((-1 : Int32)), .int (cs_bf σ j 4)])) (40 + j) (px_o 2 [.int (cs_bf σ j 0), .int (cs_bf σ j 1), .int (cs_ya σ b 2 (cs_yf σ b 2).toNatClampNeg), .int ((-1 : Int32)), .int (cs_bf σ j 4)])) (20 + 4 * b) (px_o 1 [.ref (ad (21 + 4 * b)), .ref (ad (22 + 4 * b)), .ref (ad (23 + 4 * b)), .int (cs_yf σ b 0), .int (cs_yf σ b 1), .int ((cs_yf σ b 2) + ((1 : Int32))), .int (cs_yf σ b 3)])) (0) (px_o 0 [.int (nI (cs_ti σ)), .ref (ad 1), .ref (ad 2), .ref (ad 3), .int (nI (cs_n σ)), .int ((cs_mw σ) + ((1 : Int32))), .int (cs_lg σ)])) (20 + 4 * b) (px_o 1 [.ref (ad (21 + 4 * b)), .ref (ad (22 + 4 * b)), .ref (ad (23 + 4 * b)), .int (cs_yf σ b 0), .int (cs_yf σ b 1), .int ((cs_yf σ b 2) + ((1 : Int32))), .int ((cs_yf σ b 3) - ((1 : Int32)))])) (0) (px_o 0 [.int (nI (cs_ti σ)), .ref (ad 1), .ref (ad 2), .ref (ad 3), .int (nI (cs_n σ)), .int ((cs_mw σ) + ((1 : Int32))), .int ((cs_lg σ) + ((1 : Int32)))])) := by
                exact (hc1.sY (b := b) hb _).sM _ _
              have hK2 : ∀ i, 100 ≤ i → (rp_up (rp_up (rp_up (rp_up (rp_up (rp_up (K) (40 + j) (px_o 2 [.int (cs_bf σ j 0), .int (cs_bf σ j 1), .int (cs_bf σ j 2), .int ((-1 : Int32)), .int (cs_bf σ j 4)])) (40 + j) (px_o 2 [.int (cs_bf σ j 0), .int (cs_bf σ j 1), .int (cs_ya σ b 2 (cs_yf σ b 2).toNatClampNeg), .int ((-1 : Int32)), .int (cs_bf σ j 4)])) (20 + 4 * b) (px_o 1 [.ref (ad (21 + 4 * b)), .ref (ad (22 + 4 * b)), .ref (ad (23 + 4 * b)), .int (cs_yf σ b 0), .int (cs_yf σ b 1), .int ((cs_yf σ b 2) + ((1 : Int32))), .int (cs_yf σ b 3)])) (0) (px_o 0 [.int (nI (cs_ti σ)), .ref (ad 1), .ref (ad 2), .ref (ad 3), .int (nI (cs_n σ)), .int ((cs_mw σ) + ((1 : Int32))), .int (cs_lg σ)])) (20 + 4 * b) (px_o 1 [.ref (ad (21 + 4 * b)), .ref (ad (22 + 4 * b)), .ref (ad (23 + 4 * b)), .int (cs_yf σ b 0), .int (cs_yf σ b 1), .int ((cs_yf σ b 2) + ((1 : Int32))), .int ((cs_yf σ b 3) - ((1 : Int32)))])) (0) (px_o 0 [.int (nI (cs_ti σ)), .ref (ad 1), .ref (ad 2), .ref (ad 3), .int (nI (cs_n σ)), .int ((cs_mw σ) + ((1 : Int32))), .int ((cs_lg σ) + ((1 : Int32)))])) i = (rp_up (rp_up (rp_up (rp_up (K) (40 + j) (px_o 2 [.int (cs_bf σ j 0), .int (cs_bf σ j 1), .int (cs_bf σ j 2), .int ((-1 : Int32)), .int (cs_bf σ j 4)])) (40 + j) (px_o 2 [.int (cs_bf σ j 0), .int (cs_bf σ j 1), .int (cs_ya σ b 2 (cs_yf σ b 2).toNatClampNeg), .int ((-1 : Int32)), .int (cs_bf σ j 4)])) (20 + 4 * b) (px_o 1 [.ref (ad (21 + 4 * b)), .ref (ad (22 + 4 * b)), .ref (ad (23 + 4 * b)), .int (cs_yf σ b 0), .int (cs_yf σ b 1), .int ((cs_yf σ b 2) + ((1 : Int32))), .int (cs_yf σ b 3)])) (0) (px_o 0 [.int (nI (cs_ti σ)), .ref (ad 1), .ref (ad 2), .ref (ad 3), .int (nI (cs_n σ)), .int ((cs_mw σ) + ((1 : Int32))), .int (cs_lg σ)])) i := fun i hi => by rw [rp_up_n _ _ (by omega), rp_up_n _ _ (by omega)]
              iterate 2 refine px_go hX ?_
              refine ⟨_, ((px_up_n _ _ (hR.ne (hc.2.2.1 b hb).1 hc.1.1 (by omega))).trans (px_up_s _ _ _)), 0, 0, _, Nat.le_of_ble_eq_true rfl, Nat.le_of_ble_eq_true rfl, Nat.le_of_ble_eq_true rfl, cc_movesLeft hR2 hc2 hb, ?_⟩
              rintro _ C ⟨rfl, ⟨b2, rfl⟩ | ⟨b2, rfl⟩⟩
              · refine px_go hX ?_
                have ht : cs_wt σ x (cs_ya σ b 2 (cs_yf σ b 2).toNatClampNeg) = -1 := if_pos c3
                rw [of_work_3 hc hx hb b1 hj hy, show of_wk σ x b j (cs_ya σ b 2 (cs_yf σ b 2).toNatClampNeg) = (0, cs_lft (cs_w2 σ b j (-1) (cs_ya σ b 2 (cs_yf σ b 2).toNatClampNeg)) b, cs_w2 σ b j (-1) (cs_ya σ b 2 (cs_yf σ b 2).toNatClampNeg)) from by rw [← ht]; exact if_pos ⟨c4, Int32.not_le.mp c5⟩]
                exact ⟨rfl, congrArg (fun z => some (Value.int z)) (if_pos b2).symm, Ck.ca ⟨_, hR2, hc2, fun i hi => (hK2 i hi).trans (hK1 i hi)⟩⟩
              · refine px_go hX ?_
                have ht : cs_wt σ x (cs_ya σ b 2 (cs_yf σ b 2).toNatClampNeg) = -1 := if_pos c3
                rw [of_work_3 hc hx hb b1 hj hy, show of_wk σ x b j (cs_ya σ b 2 (cs_yf σ b 2).toNatClampNeg) = (0, cs_lft (cs_w2 σ b j (-1) (cs_ya σ b 2 (cs_yf σ b 2).toNatClampNeg)) b, cs_w2 σ b j (-1) (cs_ya σ b 2 (cs_yf σ b 2).toNatClampNeg)) from by rw [← ht]; exact if_pos ⟨c4, Int32.not_le.mp c5⟩]
                exact ⟨rfl, congrArg (fun z => some (Value.int z)) (if_neg b2).symm, Ck.ca ⟨_, hR2, hc2, fun i hi => (hK2 i hi).trans (hK1 i hi)⟩⟩
        · iterate 4 refine px_go hX ?_
          refine ⟨_, h0, 0, 0, _, Nat.le_of_ble_eq_true rfl, Nat.le_of_ble_eq_true rfl, Nat.le_of_ble_eq_true rfl, cc_heightOf hR hc _ _, ?_⟩
          rintro _ C ⟨rfl, rfl⟩
          iterate 2 refine px_go hX ?_
          refine ⟨_, (hR.1 _ _ (hc.2.2.2.1 j hj)), Nat.le_of_ble_eq_true rfl, rfl, rfl, ?_⟩
          iterate 3 refine px_go hX ?_
          refine ⟨_, (px_up_s _ _ _), Nat.le_of_ble_eq_true rfl, rfl, rfl, ?_⟩
          iterate 3 refine px_go hX ?_
          refine ⟨_, _, ((px_up_n _ _ (hR.ne (hc.2.2.1 b hb).1 (hc.2.2.2.1 j hj) (by omega))).trans ((px_up_n _ _ (hR.ne (hc.2.2.1 b hb).1 (hc.2.2.2.1 j hj) (by omega))).trans (hR.1 _ _ (hc.2.2.1 b hb).1))), rfl, ?_⟩
          iterate 3 refine px_go hX ?_
          refine ⟨_, ((px_up_n _ _ (hR.ne (hc.2.2.1 b hb).1 (hc.2.2.2.1 j hj) (by omega))).trans ((px_up_n _ _ (hR.ne (hc.2.2.1 b hb).1 (hc.2.2.2.1 j hj) (by omega))).trans (hR.1 _ _ (hc.2.2.1 b hb).1))), Nat.le_of_ble_eq_true rfl, rfl, rfl, ?_⟩
          iterate 3 refine px_go hX ?_
          refine ⟨_, _, ((px_up_n _ _ (hR.ne hc.1.1 (hc.2.2.1 b hb).1 (by omega))).trans ((px_up_n _ _ (hR.ne hc.1.1 (hc.2.2.2.1 j hj) (by omega))).trans ((px_up_n _ _ (hR.ne hc.1.1 (hc.2.2.2.1 j hj) (by omega))).trans h0))), rfl, ?_⟩
          iterate 3 refine px_go hX ?_
          refine ⟨_, ((px_up_n _ _ (hR.ne hc.1.1 (hc.2.2.1 b hb).1 (by omega))).trans ((px_up_n _ _ (hR.ne hc.1.1 (hc.2.2.2.1 j hj) (by omega))).trans ((px_up_n _ _ (hR.ne hc.1.1 (hc.2.2.2.1 j hj) (by omega))).trans h0))), Nat.le_of_ble_eq_true rfl, rfl, rfl, ?_⟩
          have hR1 := ((((hR.put (i := 40 + j) (hc.2.2.2.1 j hj) (px_o 2 [.int (cs_bf σ j 0), .int (cs_bf σ j 1), .int (cs_bf σ j 2), .int (cs_hgt σ x (cs_ya σ b 2 (cs_yf σ b 2).toNatClampNeg)), .int (cs_bf σ j 4)])).put (i := 40 + j) (rp_up_s _ _ _) (px_o 2 [.int (cs_bf σ j 0), .int (cs_bf σ j 1), .int (cs_ya σ b 2 (cs_yf σ b 2).toNatClampNeg), .int (cs_hgt σ x (cs_ya σ b 2 (cs_yf σ b 2).toNatClampNeg)), .int (cs_bf σ j 4)])).put (i := 20 + 4 * b) ((rp_up_n _ _ (by omega)).trans ((rp_up_n _ _ (by omega)).trans (hc.2.2.1 b hb).1)) (px_o 1 [.ref (ad (21 + 4 * b)), .ref (ad (22 + 4 * b)), .ref (ad (23 + 4 * b)), .int (cs_yf σ b 0), .int (cs_yf σ b 1), .int ((cs_yf σ b 2) + ((1 : Int32))), .int (cs_yf σ b 3)])).put (i := 0) ((rp_up_n _ _ (by omega)).trans ((rp_up_n _ _ (by omega)).trans ((rp_up_n _ _ (by omega)).trans hc.1.1))) (px_o 0 [.int (nI (cs_ti σ)), .ref (ad 1), .ref (ad 2), .ref (ad 3), .int (nI (cs_n σ)), .int ((cs_mw σ) + ((1 : Int32))), .int (cs_lg σ)]))
          have hc1 : Cl ad (cs_w1 σ b j (cs_hgt σ x (cs_ya σ b 2 (cs_yf σ b 2).toNatClampNeg)) (cs_ya σ b 2 (cs_yf σ b 2).toNatClampNeg)) (rp_up (rp_up (rp_up (rp_up (K) (40 + j) (px_o 2 [.int (cs_bf σ j 0), .int (cs_bf σ j 1), .int (cs_bf σ j 2), .int (cs_hgt σ x (cs_ya σ b 2 (cs_yf σ b 2).toNatClampNeg)), .int (cs_bf σ j 4)])) (40 + j) (px_o 2 [.int (cs_bf σ j 0), .int (cs_bf σ j 1), .int (cs_ya σ b 2 (cs_yf σ b 2).toNatClampNeg), .int (cs_hgt σ x (cs_ya σ b 2 (cs_yf σ b 2).toNatClampNeg)), .int (cs_bf σ j 4)])) (20 + 4 * b) (px_o 1 [.ref (ad (21 + 4 * b)), .ref (ad (22 + 4 * b)), .ref (ad (23 + 4 * b)), .int (cs_yf σ b 0), .int (cs_yf σ b 1), .int ((cs_yf σ b 2) + ((1 : Int32))), .int (cs_yf σ b 3)])) (0) (px_o 0 [.int (nI (cs_ti σ)), .ref (ad 1), .ref (ad 2), .ref (ad 3), .int (nI (cs_n σ)), .int ((cs_mw σ) + ((1 : Int32))), .int (cs_lg σ)])) := by
            rw [rp_up_up]
            exact ((hc.sB hj _).sY (b := b) hb _).sM _ _
          have hK1 : ∀ i, 100 ≤ i → (rp_up (rp_up (rp_up (rp_up (K) (40 + j) (px_o 2 [.int (cs_bf σ j 0), .int (cs_bf σ j 1), .int (cs_bf σ j 2), .int (cs_hgt σ x (cs_ya σ b 2 (cs_yf σ b 2).toNatClampNeg)), .int (cs_bf σ j 4)])) (40 + j) (px_o 2 [.int (cs_bf σ j 0), .int (cs_bf σ j 1), .int (cs_ya σ b 2 (cs_yf σ b 2).toNatClampNeg), .int (cs_hgt σ x (cs_ya σ b 2 (cs_yf σ b 2).toNatClampNeg)), .int (cs_bf σ j 4)])) (20 + 4 * b) (px_o 1 [.ref (ad (21 + 4 * b)), .ref (ad (22 + 4 * b)), .ref (ad (23 + 4 * b)), .int (cs_yf σ b 0), .int (cs_yf σ b 1), .int ((cs_yf σ b 2) + ((1 : Int32))), .int (cs_yf σ b 3)])) (0) (px_o 0 [.int (nI (cs_ti σ)), .ref (ad 1), .ref (ad 2), .ref (ad 3), .int (nI (cs_n σ)), .int ((cs_mw σ) + ((1 : Int32))), .int (cs_lg σ)])) i = (K) i := fun i hi => by rw [rp_up_n _ _ (by omega), rp_up_n _ _ (by omega), rp_up_n _ _ (by omega), rp_up_n _ _ (by omega)]
          iterate 3 refine px_go hX ?_
          refine ⟨fun (c6 : ¬ cs_ya σ b 2 (cs_yf σ b 2).toNatClampNeg = (3 : Int32)) => ?_, fun (c6 : cs_ya σ b 2 (cs_yf σ b 2).toNatClampNeg = (3 : Int32)) => ?_⟩
          · iterate 2 refine px_go hX ?_
            refine ⟨_, ((px_up_n _ _ (hR.ne (hc.2.2.1 b hb).1 hc.1.1 (by omega))).trans (px_up_s _ _ _)), 0, 0, _, Nat.le_of_ble_eq_true rfl, Nat.le_of_ble_eq_true rfl, Nat.le_of_ble_eq_true rfl, cc_movesLeft hR1 hc1 hb, ?_⟩
            rintro _ C ⟨rfl, ⟨b2, rfl⟩ | ⟨b2, rfl⟩⟩
            · refine px_go hX ?_
              have ht : cs_wt σ x (cs_ya σ b 2 (cs_yf σ b 2).toNatClampNeg) = cs_hgt σ x (cs_ya σ b 2 (cs_yf σ b 2).toNatClampNeg) := if_neg c3
              rw [of_work_3 hc hx hb b1 hj hy, show of_wk σ x b j (cs_ya σ b 2 (cs_yf σ b 2).toNatClampNeg) = (0, cs_lft (cs_w1 σ b j (cs_hgt σ x (cs_ya σ b 2 (cs_yf σ b 2).toNatClampNeg)) (cs_ya σ b 2 (cs_yf σ b 2).toNatClampNeg)) b, cs_w1 σ b j (cs_hgt σ x (cs_ya σ b 2 (cs_yf σ b 2).toNatClampNeg)) (cs_ya σ b 2 (cs_yf σ b 2).toNatClampNeg)) from by rw [← ht]; exact if_neg (fun q => c6 q.1)]
              exact ⟨rfl, congrArg (fun z => some (Value.int z)) (if_pos b2).symm, Ck.ca ⟨_, hR1, hc1, fun i hi => hK1 i hi⟩⟩
            · refine px_go hX ?_
              have ht : cs_wt σ x (cs_ya σ b 2 (cs_yf σ b 2).toNatClampNeg) = cs_hgt σ x (cs_ya σ b 2 (cs_yf σ b 2).toNatClampNeg) := if_neg c3
              rw [of_work_3 hc hx hb b1 hj hy, show of_wk σ x b j (cs_ya σ b 2 (cs_yf σ b 2).toNatClampNeg) = (0, cs_lft (cs_w1 σ b j (cs_hgt σ x (cs_ya σ b 2 (cs_yf σ b 2).toNatClampNeg)) (cs_ya σ b 2 (cs_yf σ b 2).toNatClampNeg)) b, cs_w1 σ b j (cs_hgt σ x (cs_ya σ b 2 (cs_yf σ b 2).toNatClampNeg)) (cs_ya σ b 2 (cs_yf σ b 2).toNatClampNeg)) from by rw [← ht]; exact if_neg (fun q => c6 q.1)]
              exact ⟨rfl, congrArg (fun z => some (Value.int z)) (if_neg b2).symm, Ck.ca ⟨_, hR1, hc1, fun i hi => hK1 i hi⟩⟩
          · iterate 2 refine px_go hX ?_
            refine ⟨_, _, ((px_up_n _ _ (hR.ne (hc.2.2.1 b hb).1 hc.1.1 (by omega))).trans (px_up_s _ _ _)), rfl, ?_⟩
            refine px_go hX ?_
            refine ⟨fun (c7 : cs_yf σ b 3 ≤ 0) => ?_, fun (c7 : ¬ cs_yf σ b 3 ≤ 0) => ?_⟩
            · iterate 2 refine px_go hX ?_
              refine ⟨_, ((px_up_n _ _ (hR.ne (hc.2.2.1 b hb).1 hc.1.1 (by omega))).trans (px_up_s _ _ _)), 0, 0, _, Nat.le_of_ble_eq_true rfl, Nat.le_of_ble_eq_true rfl, Nat.le_of_ble_eq_true rfl, cc_movesLeft hR1 hc1 hb, ?_⟩
              rintro _ C ⟨rfl, ⟨b2, rfl⟩ | ⟨b2, rfl⟩⟩
              · refine px_go hX ?_
                have ht : cs_wt σ x (cs_ya σ b 2 (cs_yf σ b 2).toNatClampNeg) = cs_hgt σ x (cs_ya σ b 2 (cs_yf σ b 2).toNatClampNeg) := if_neg c3
                rw [of_work_3 hc hx hb b1 hj hy, show of_wk σ x b j (cs_ya σ b 2 (cs_yf σ b 2).toNatClampNeg) = (0, cs_lft (cs_w1 σ b j (cs_hgt σ x (cs_ya σ b 2 (cs_yf σ b 2).toNatClampNeg)) (cs_ya σ b 2 (cs_yf σ b 2).toNatClampNeg)) b, cs_w1 σ b j (cs_hgt σ x (cs_ya σ b 2 (cs_yf σ b 2).toNatClampNeg)) (cs_ya σ b 2 (cs_yf σ b 2).toNatClampNeg)) from by rw [← ht]; exact if_neg (fun q => absurd q.2 (Int32.not_lt.mpr c7))]
                exact ⟨rfl, congrArg (fun z => some (Value.int z)) (if_pos b2).symm, Ck.ca ⟨_, hR1, hc1, fun i hi => hK1 i hi⟩⟩
              · refine px_go hX ?_
                have ht : cs_wt σ x (cs_ya σ b 2 (cs_yf σ b 2).toNatClampNeg) = cs_hgt σ x (cs_ya σ b 2 (cs_yf σ b 2).toNatClampNeg) := if_neg c3
                rw [of_work_3 hc hx hb b1 hj hy, show of_wk σ x b j (cs_ya σ b 2 (cs_yf σ b 2).toNatClampNeg) = (0, cs_lft (cs_w1 σ b j (cs_hgt σ x (cs_ya σ b 2 (cs_yf σ b 2).toNatClampNeg)) (cs_ya σ b 2 (cs_yf σ b 2).toNatClampNeg)) b, cs_w1 σ b j (cs_hgt σ x (cs_ya σ b 2 (cs_yf σ b 2).toNatClampNeg)) (cs_ya σ b 2 (cs_yf σ b 2).toNatClampNeg)) from by rw [← ht]; exact if_neg (fun q => absurd q.2 (Int32.not_lt.mpr c7))]
                exact ⟨rfl, congrArg (fun z => some (Value.int z)) (if_neg b2).symm, Ck.ca ⟨_, hR1, hc1, fun i hi => hK1 i hi⟩⟩
            · iterate 3 refine px_go hX ?_
              refine ⟨_, _, ((px_up_n _ _ (hR.ne (hc.2.2.1 b hb).1 hc.1.1 (by omega))).trans (px_up_s _ _ _)), rfl, ?_⟩
              iterate 3 refine px_go hX ?_
              refine ⟨_, ((px_up_n _ _ (hR.ne (hc.2.2.1 b hb).1 hc.1.1 (by omega))).trans (px_up_s _ _ _)), Nat.le_of_ble_eq_true rfl, rfl, rfl, ?_⟩
              iterate 3 refine px_go hX ?_
              refine ⟨_, _, ((px_up_n _ _ (hR.ne hc.1.1 (hc.2.2.1 b hb).1 (by omega))).trans (px_up_s _ _ _)), rfl, ?_⟩
              iterate 3 refine px_go hX ?_
              refine ⟨_, ((px_up_n _ _ (hR.ne hc.1.1 (hc.2.2.1 b hb).1 (by omega))).trans (px_up_s _ _ _)), Nat.le_of_ble_eq_true rfl, rfl, rfl, ?_⟩
              have hR2 := ((hR1.put (i := 20 + 4 * b) (hc1.2.2.1 b hb).1 (px_o 1 [.ref (ad (21 + 4 * b)), .ref (ad (22 + 4 * b)), .ref (ad (23 + 4 * b)), .int (cs_yf σ b 0), .int (cs_yf σ b 1), .int ((cs_yf σ b 2) + ((1 : Int32))), .int ((cs_yf σ b 3) - ((1 : Int32)))])).put (i := 0) ((rp_up_n _ _ (by omega)).trans hc1.1.1) (px_o 0 [.int (nI (cs_ti σ)), .ref (ad 1), .ref (ad 2), .ref (ad 3), .int (nI (cs_n σ)), .int ((cs_mw σ) + ((1 : Int32))), .int ((cs_lg σ) + ((1 : Int32)))]))
              have hc2 : Cl ad (cs_w2 σ b j (cs_hgt σ x (cs_ya σ b 2 (cs_yf σ b 2).toNatClampNeg)) (cs_ya σ b 2 (cs_yf σ b 2).toNatClampNeg)) (rp_up (rp_up (rp_up (rp_up (rp_up (rp_up (K) (40 + j) (px_o 2 [.int (cs_bf σ j 0), .int (cs_bf σ j 1), .int (cs_bf σ j 2), .int (cs_hgt σ x (cs_ya σ b 2 (cs_yf σ b 2).toNatClampNeg)), .int (cs_bf σ j 4)])) (40 + j) (px_o 2 [.int (cs_bf σ j 0), .int (cs_bf σ j 1), .int (cs_ya σ b 2 (cs_yf σ b 2).toNatClampNeg), .int (cs_hgt σ x (cs_ya σ b 2 (cs_yf σ b 2).toNatClampNeg)), .int (cs_bf σ j 4)])) (20 + 4 * b) (px_o 1 [.ref (ad (21 + 4 * b)), .ref (ad (22 + 4 * b)), .ref (ad (23 + 4 * b)), .int (cs_yf σ b 0), .int (cs_yf σ b 1), .int ((cs_yf σ b 2) + ((1 : Int32))), .int (cs_yf σ b 3)])) (0) (px_o 0 [.int (nI (cs_ti σ)), .ref (ad 1), .ref (ad 2), .ref (ad 3), .int (nI (cs_n σ)), .int ((cs_mw σ) + ((1 : Int32))), .int (cs_lg σ)])) (20 + 4 * b) (px_o 1 [.ref (ad (21 + 4 * b)), .ref (ad (22 + 4 * b)), .ref (ad (23 + 4 * b)), .int (cs_yf σ b 0), .int (cs_yf σ b 1), .int ((cs_yf σ b 2) + ((1 : Int32))), .int ((cs_yf σ b 3) - ((1 : Int32)))])) (0) (px_o 0 [.int (nI (cs_ti σ)), .ref (ad 1), .ref (ad 2), .ref (ad 3), .int (nI (cs_n σ)), .int ((cs_mw σ) + ((1 : Int32))), .int ((cs_lg σ) + ((1 : Int32)))])) := by
                exact (hc1.sY (b := b) hb _).sM _ _
              have hK2 : ∀ i, 100 ≤ i → (rp_up (rp_up (rp_up (rp_up (rp_up (rp_up (K) (40 + j) (px_o 2 [.int (cs_bf σ j 0), .int (cs_bf σ j 1), .int (cs_bf σ j 2), .int (cs_hgt σ x (cs_ya σ b 2 (cs_yf σ b 2).toNatClampNeg)), .int (cs_bf σ j 4)])) (40 + j) (px_o 2 [.int (cs_bf σ j 0), .int (cs_bf σ j 1), .int (cs_ya σ b 2 (cs_yf σ b 2).toNatClampNeg), .int (cs_hgt σ x (cs_ya σ b 2 (cs_yf σ b 2).toNatClampNeg)), .int (cs_bf σ j 4)])) (20 + 4 * b) (px_o 1 [.ref (ad (21 + 4 * b)), .ref (ad (22 + 4 * b)), .ref (ad (23 + 4 * b)), .int (cs_yf σ b 0), .int (cs_yf σ b 1), .int ((cs_yf σ b 2) + ((1 : Int32))), .int (cs_yf σ b 3)])) (0) (px_o 0 [.int (nI (cs_ti σ)), .ref (ad 1), .ref (ad 2), .ref (ad 3), .int (nI (cs_n σ)), .int ((cs_mw σ) + ((1 : Int32))), .int (cs_lg σ)])) (20 + 4 * b) (px_o 1 [.ref (ad (21 + 4 * b)), .ref (ad (22 + 4 * b)), .ref (ad (23 + 4 * b)), .int (cs_yf σ b 0), .int (cs_yf σ b 1), .int ((cs_yf σ b 2) + ((1 : Int32))), .int ((cs_yf σ b 3) - ((1 : Int32)))])) (0) (px_o 0 [.int (nI (cs_ti σ)), .ref (ad 1), .ref (ad 2), .ref (ad 3), .int (nI (cs_n σ)), .int ((cs_mw σ) + ((1 : Int32))), .int ((cs_lg σ) + ((1 : Int32)))])) i = (rp_up (rp_up (rp_up (rp_up (K) (40 + j) (px_o 2 [.int (cs_bf σ j 0), .int (cs_bf σ j 1), .int (cs_bf σ j 2), .int (cs_hgt σ x (cs_ya σ b 2 (cs_yf σ b 2).toNatClampNeg)), .int (cs_bf σ j 4)])) (40 + j) (px_o 2 [.int (cs_bf σ j 0), .int (cs_bf σ j 1), .int (cs_ya σ b 2 (cs_yf σ b 2).toNatClampNeg), .int (cs_hgt σ x (cs_ya σ b 2 (cs_yf σ b 2).toNatClampNeg)), .int (cs_bf σ j 4)])) (20 + 4 * b) (px_o 1 [.ref (ad (21 + 4 * b)), .ref (ad (22 + 4 * b)), .ref (ad (23 + 4 * b)), .int (cs_yf σ b 0), .int (cs_yf σ b 1), .int ((cs_yf σ b 2) + ((1 : Int32))), .int (cs_yf σ b 3)])) (0) (px_o 0 [.int (nI (cs_ti σ)), .ref (ad 1), .ref (ad 2), .ref (ad 3), .int (nI (cs_n σ)), .int ((cs_mw σ) + ((1 : Int32))), .int (cs_lg σ)])) i := fun i hi => by rw [rp_up_n _ _ (by omega), rp_up_n _ _ (by omega)]
              iterate 2 refine px_go hX ?_
              refine ⟨_, ((px_up_n _ _ (hR.ne (hc.2.2.1 b hb).1 hc.1.1 (by omega))).trans (px_up_s _ _ _)), 0, 0, _, Nat.le_of_ble_eq_true rfl, Nat.le_of_ble_eq_true rfl, Nat.le_of_ble_eq_true rfl, cc_movesLeft hR2 hc2 hb, ?_⟩
              rintro _ C ⟨rfl, ⟨b2, rfl⟩ | ⟨b2, rfl⟩⟩
              · refine px_go hX ?_
                have ht : cs_wt σ x (cs_ya σ b 2 (cs_yf σ b 2).toNatClampNeg) = cs_hgt σ x (cs_ya σ b 2 (cs_yf σ b 2).toNatClampNeg) := if_neg c3
                rw [of_work_3 hc hx hb b1 hj hy, show of_wk σ x b j (cs_ya σ b 2 (cs_yf σ b 2).toNatClampNeg) = (0, cs_lft (cs_w2 σ b j (cs_hgt σ x (cs_ya σ b 2 (cs_yf σ b 2).toNatClampNeg)) (cs_ya σ b 2 (cs_yf σ b 2).toNatClampNeg)) b, cs_w2 σ b j (cs_hgt σ x (cs_ya σ b 2 (cs_yf σ b 2).toNatClampNeg)) (cs_ya σ b 2 (cs_yf σ b 2).toNatClampNeg)) from by rw [← ht]; exact if_pos ⟨c6, Int32.not_le.mp c7⟩]
                exact ⟨rfl, congrArg (fun z => some (Value.int z)) (if_pos b2).symm, Ck.ca ⟨_, hR2, hc2, fun i hi => (hK2 i hi).trans (hK1 i hi)⟩⟩
              · refine px_go hX ?_
                have ht : cs_wt σ x (cs_ya σ b 2 (cs_yf σ b 2).toNatClampNeg) = cs_hgt σ x (cs_ya σ b 2 (cs_yf σ b 2).toNatClampNeg) := if_neg c3
                rw [of_work_3 hc hx hb b1 hj hy, show of_wk σ x b j (cs_ya σ b 2 (cs_yf σ b 2).toNatClampNeg) = (0, cs_lft (cs_w2 σ b j (cs_hgt σ x (cs_ya σ b 2 (cs_yf σ b 2).toNatClampNeg)) (cs_ya σ b 2 (cs_yf σ b 2).toNatClampNeg)) b, cs_w2 σ b j (cs_hgt σ x (cs_ya σ b 2 (cs_yf σ b 2).toNatClampNeg)) (cs_ya σ b 2 (cs_yf σ b 2).toNatClampNeg)) from by rw [← ht]; exact if_pos ⟨c6, Int32.not_le.mp c7⟩]
                exact ⟨rfl, congrArg (fun z => some (Value.int z)) (if_neg b2).symm, Ck.ca ⟨_, hR2, hc2, fun i hi => (hK2 i hi).trans (hK1 i hi)⟩⟩
      · iterate 5 refine px_go hX ?_
        refine ⟨Nat.le_refl 1, Nat.le_refl 6, rfl, ?_⟩
        rw [of_work_2 hc hx hb (Or.inr hy)]
        exact ⟨Or.inr (Or.inl ⟨rfl, rfl⟩), Ca.of hR hc⟩
    · refine px_go hX ?_
      refine ⟨fun (c8 : 0 = 0) => ?_, fun (c8 : ¬ 0 = 0) => absurd rfl c8⟩
      iterate 5 refine px_go hX ?_
      refine ⟨Nat.le_refl 1, Nat.le_refl 6, rfl, ?_⟩
      rw [of_work_2 hc hx hb (Or.inl b1)]
      exact ⟨Or.inr (Or.inl ⟨rfl, rfl⟩), Ca.of hR hc⟩
  · iterate 4 refine px_go hX ?_
    have hr : of_work σ x = (1, 0, σ) := by
      unfold of_work
      rw [cs_bq_n hx]
    refine ⟨Nat.le_refl 1, Nat.le_refl 6, rfl, ?_⟩
    rw [hr]
    exact ⟨Or.inl ⟨rfl, rfl⟩, Ca.of hR hc⟩
/-- one round of the class's closure of needs, all of them -/
def cs_k1 (σ : ck_S) (kn : Int32) : Nat → Int32
  | 0 => kn
  | i + 1 => if (cs_k1 σ kn i >>> (nI i &&& 31)) &&& 1 = 0 then cs_k1 σ kn i else cs_k1 σ kn i ||| cs_bf σ i 4
def cs_kn (σ : ck_S) (kn : Int32) : Nat → Int32
  | 0 => kn
  | r + 1 => cs_k1 σ (cs_kn σ kn r) (cs_n σ)
theorem cc_comesBefore (hR : Rp ad K C) (hc : Cl ad σ K) {j : Nat} (hj : j < cs_n σ) (x : Int32) : px_W ps_Y ps_P B sc (d + 2) 7 [.ref (ad 0), .int x, .ref (ad (40 + j))] C 0 0 (px_bo (¬ ((cs_kn σ (cs_bf σ j 4) 16 >>> (x &&& 31)) &&& 1) = 0) C) px_no := by
  have h0 := hR.1 0 _ hc.1.1
  have hn := hc.2.2.2.2.2.2.2.2.2
  refine ⟨pm_Mo_comesBefore, rfl, Nat.le_of_ble_eq_true rfl, fun X hw hX => ?_⟩
  have loop : ∀ kr r, r + kr = 16 → X (8, [(0, .ref (ad 0)), (1, .int (x)), (3, .int (cs_kn σ (cs_bf σ j 4) r)), (4, .int (nI r))], [], C, 0, 0) := by
    intro kr
    induction kr with
    | zero =>
      intro r hir
      have hltr : r = 16 := hir
      iterate 3 refine px_go hX ?_
      refine ⟨fun (c1 : (16 : Int32) ≤ nI r) => ?_, fun (c1 : ¬ (16 : Int32) ≤ nI r) => absurd (by rw [hltr]; exact Int32.le_refl _) c1⟩
      iterate 6 refine px_go hX ?_
      refine ⟨fun (c2 : ((cs_kn σ (cs_bf σ j 4) r) >>> ((x) &&& 31)) &&& ((1 : Int32)) = 0) => ?_, fun (c2 : ¬ ((cs_kn σ (cs_bf σ j 4) r) >>> ((x) &&& 31)) &&& ((1 : Int32)) = 0) => ?_⟩
      · iterate 2 refine px_go hX ?_
        rw [hltr] at c2
        exact ⟨Or.inl rfl, rfl, Or.inr ⟨fun q => q c2, rfl⟩⟩
      · iterate 3 refine px_go hX ?_
        rw [hltr] at c2
        exact ⟨Or.inr rfl, rfl, Or.inl ⟨c2, rfl⟩⟩
    | succ kr ihr =>
      intro r hir
      have hltr : r < 16 := by omega
      iterate 3 refine px_go hX ?_
      refine ⟨fun (c3 : (16 : Int32) ≤ nI r) => absurd c3 (nI_ge hltr (by omega : 16 < 2 ^ 31)), fun (c3 : ¬ (16 : Int32) ≤ nI r) => ?_⟩
      iterate 2 refine px_go hX ?_
      have loopi : ∀ k i, i + k = cs_n σ → X (18, [(0, .ref (ad 0)), (1, .int (x)), (3, .int (cs_k1 σ (cs_kn σ (cs_bf σ j 4) r) i)), (4, .int (nI r)), (5, .int (nI i))], [], C, 0, 0) := by
        intro k
        induction k with
        | zero =>
          intro i hi
          have hlt : i = cs_n σ := hi
          iterate 3 refine px_go hX ?_
          refine ⟨_, _, h0, rfl, ?_⟩
          refine px_go hX ?_
          refine ⟨fun (c4 : nI (cs_n σ) ≤ nI i) => ?_, fun (c4 : ¬ nI (cs_n σ) ≤ nI i) => absurd (nI_le (by omega) (by omega)) c4⟩
          iterate 2 refine px_go hX ?_
          exact px_lw hw [(0, .ref (ad 0)), (1, .int (x)), (3, .int (cs_kn σ (cs_bf σ j 4) (r + 1))), (4, .int (nI (r + 1)))] (ihr (r + 1) (by omega)) ⟨rfl, rfl, (congrArg (fun z => some (Value.int z)) (by rw [hlt]; rfl)), (congrArg (fun z => some (Value.int z)) (nI_succ _).symm), trivial⟩
        | succ k ih =>
          intro i hi
          have hlt : i < cs_n σ := by omega
          iterate 3 refine px_go hX ?_
          refine ⟨_, _, h0, rfl, ?_⟩
          refine px_go hX ?_
          refine ⟨fun (c5 : nI (cs_n σ) ≤ nI i) => absurd c5 (nI_ge hlt (by omega)), fun (c5 : ¬ nI (cs_n σ) ≤ nI i) => ?_⟩
          iterate 3 refine px_go hX ?_
          refine ⟨_, h0, 0, 0, _, Nat.le_of_ble_eq_true rfl, Nat.le_of_ble_eq_true rfl, Nat.le_of_ble_eq_true rfl, cc_boxAtI hR hc hlt, ?_⟩
          rintro _ C ⟨rfl, rfl⟩
          iterate 9 refine px_go hX ?_
          refine ⟨fun (c6 : ((cs_k1 σ (cs_kn σ (cs_bf σ j 4) r) i) >>> ((nI i) &&& 31)) &&& ((1 : Int32)) = 0) => ?_, fun (c6 : ¬ ((cs_k1 σ (cs_kn σ (cs_bf σ j 4) r) i) >>> ((nI i) &&& 31)) &&& ((1 : Int32)) = 0) => ?_⟩
          · iterate 2 refine px_go hX ?_
            exact px_lw hw [(0, .ref (ad 0)), (1, .int (x)), (3, .int (cs_k1 σ (cs_kn σ (cs_bf σ j 4) r) (i + 1))), (4, .int (nI r)), (5, .int (nI (i + 1)))] (ih (i + 1) (by omega)) ⟨rfl, rfl, (congrArg (fun z => some (Value.int z)) (if_pos c6).symm), rfl, (congrArg (fun z => some (Value.int z)) (nI_succ _).symm), trivial⟩
          · iterate 3 refine px_go hX ?_
            refine ⟨_, _, (hR.1 _ _ (hc.2.2.2.1 i hlt)), rfl, ?_⟩
            iterate 4 refine px_go hX ?_
            exact px_lw hw [(0, .ref (ad 0)), (1, .int (x)), (3, .int (cs_k1 σ (cs_kn σ (cs_bf σ j 4) r) (i + 1))), (4, .int (nI r)), (5, .int (nI (i + 1)))] (ih (i + 1) (by omega)) ⟨rfl, rfl, (congrArg (fun z => some (Value.int z)) (if_neg c6).symm), rfl, (congrArg (fun z => some (Value.int z)) (nI_succ _).symm), trivial⟩
      exact px_lw hw [(0, .ref (ad 0)), (1, .int (x)), (3, .int (cs_k1 σ (cs_kn σ (cs_bf σ j 4) r) 0)), (4, .int (nI r)), (5, .int (nI 0))] (loopi (cs_n σ - 0) 0 (by omega)) ⟨rfl, rfl, rfl, rfl, rfl, trivial⟩
  iterate 2 refine px_go hX ?_
  refine ⟨_, _, (hR.1 _ _ (hc.2.2.2.1 j hj)), rfl, ?_⟩
  iterate 3 refine px_go hX ?_
  exact px_lw hw [(0, .ref (ad 0)), (1, .int (x)), (3, .int (cs_kn σ (cs_bf σ j 4) 0)), (4, .int (nI 0))] (loop (16 - 0) 0 (by omega)) ⟨rfl, rfl, rfl, rfl, trivial⟩
end RI
