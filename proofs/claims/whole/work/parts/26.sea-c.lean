/-! The search: reach. -/
section RM
variable {B : Nat} {sc : Option (Nat × Nat × (Nat → Int32))} {d : Nat} {ad : Nat → Nat} {σ : ck_S} {K : rp_K} {C : px_P}
def bitL (c : Nat) : Int64 := lN 1 <<< ((nI c &&& 63).toInt64 &&& 63)
theorem ie_row {c : Nat} (hc : c < 65536) : (nI c >>> ((6 : Int32) &&& 31)) &&& 1023 = nI (c / 64) := by
  rw [pk_shrN (by omega) _ 6 (by decide +kernel), pk_andN (by omega) 10 (by decide +kernel), Nat.mod_eq_of_lt (by omega)]
def cs_rc1 (σ : ck_S) (r c : Nat) (p s : Int32) : ck_S := cs_jk σ (va_up (va_up (va_up (cs_sa σ) 4 (upd (cs_sa σ 4) r (nI c))) 5 (upd (cs_sa σ 5) r p)) 6 (upd (cs_sa σ 6) r s), vp_updL (cs_sn σ) (c / 64) (cs_sn σ (c / 64) ||| bitL c), cs_si σ)
def cs_rc (σ : ck_S) (r c : Nat) (p s e : Int32) : ck_S := cs_sSi (cs_rc1 σ r c p s) (fun q => match q with | 0 => cs_si σ 0 | 1 => cs_si σ 1 | 2 => cs_si σ 2 | 3 => nI r + 1 | _ => e)
theorem cc_reach (hR : Rp ad K C) (hc : Cl ad σ K) {n c r : Nat} (hc4 : c < 65536) (hsz : cs_si σ 0 = nI n) (hn4 : n ≤ 4) (hr : cs_si σ 3 = nI r) (hr2 : r ≤ 1240) (p s : Int32) : px_W ps_Y ps_P B sc (d + 2) 34 [.ref (ad 3), .int (nI c), .int p, .int s] C 0 0 (fun v C' => v = none ∧ ((C' = C ∧ (¬ cs_si σ 4 = -1 ∨ 1240 ≤ r ∨ ¬ (cs_sn σ (c / 64) &&& bitL c) = 0)) ∨ (cs_si σ 4 = -1 ∧ r < 1240 ∧ (cs_sn σ (c / 64) &&& bitL c) = 0 ∧ Ck ad (cs_rc σ r c p s (if en (cs_lv σ) c n = true then nI r else -1)) K C'))) px_no := by
  have h3 : C (ad 3) = some (px_o 3 [.int (nI (cs_ti σ)), .ref (ad 4), .ref (ad 5), .ref (ad 6), .ref (ad 7), .ref (ad 8), .ref (ad 9), .ref (ad 10), .ref (ad 11), .int (cs_si σ 0), .int (cs_si σ 1), .int (cs_si σ 2), .int (nI r), .int (cs_si σ 4)]) := by rw [← hr]; exact hR.1 3 _ hc.1.2.2.2
  refine ⟨pm_Sea_reach, rfl, Nat.le_of_ble_eq_true rfl, fun X hw hX => ?_⟩
  iterate 12 refine px_go hX ?_
  refine px_lw hw [(0, .ref (ad 3)), (1, .int (nI c)), (2, .int (p)), (3, .int (s)), (4, .int (nI (c / 64))), (5, .long (bitL c))] ?_ ⟨rfl, rfl, rfl, rfl, congrArg (fun z => some (Value.int z)) (ie_row hc4), rfl, trivial⟩
  iterate 2 refine px_go hX ?_
  refine ⟨_, _, h3, rfl, ?_⟩
  iterate 2 refine px_go hX ?_
  refine ⟨fun (c1 : ¬ cs_si σ 4 = (-1 : Int32)) => ?_, fun (c1 : cs_si σ 4 = (-1 : Int32)) => ?_⟩
  · refine px_go hX ?_
    exact ⟨rfl, Or.inl ⟨rfl, Or.inl c1⟩⟩
  · iterate 2 refine px_go hX ?_
    refine ⟨_, _, h3, rfl, ?_⟩
    iterate 2 refine px_go hX ?_
    refine ⟨fun (c2 : (1240 : Int32) ≤ nI r) => ?_, fun (c2 : ¬ (1240 : Int32) ≤ nI r) => ?_⟩
    · refine px_go hX ?_
      exact ⟨rfl, Or.inl ⟨rfl, Or.inr (Or.inl (Nat.le_of_not_lt (fun w => nI_ge w (by omega : 1240 < 2 ^ 31) c2)))⟩⟩
    · have hrl : r < 1240 := by
        rcases Nat.lt_or_ge r 1240 with h | h
        · exact h
        · exact absurd (nI_le h (by omega) : nI 1240 ≤ nI r) c2
      iterate 2 refine px_go hX ?_
      refine ⟨_, _, h3, rfl, ?_⟩
      iterate 2 refine px_go hX ?_
      refine ⟨_, _, (hR.1 11 _ hc.2.1.2.2.2.2.2.2.2), (vp_in_nI (by omega) (by omega)), ?_⟩
      rw [nI_clamp (by omega)]
      iterate 5 refine px_go hX ?_
      refine ⟨fun (c3 : lg_cmp ((cs_sn σ (c / 64)) &&& (bitL c)) (lN 0) = 0) => ?_, fun (c3 : ¬ lg_cmp ((cs_sn σ (c / 64)) &&& (bitL c)) (lN 0) = 0) => ?_⟩
      · iterate 2 refine px_go hX ?_
        refine ⟨_, _, h3, rfl, ?_⟩
        iterate 3 refine px_go hX ?_
        refine ⟨_, _, (hR.1 11 _ hc.2.1.2.2.2.2.2.2.2), (vp_in_nI (by omega) (by omega)), ?_⟩
        rw [nI_clamp (by omega)]
        iterate 3 refine px_go hX ?_
        refine ⟨_, _, (hR.1 11 _ hc.2.1.2.2.2.2.2.2.2), (vp_in_nI (by omega) (by omega)), ?_⟩
        rw [nI_clamp (by omega)]
        iterate 2 refine px_go hX ?_
        refine ⟨_, _, ((px_up_n _ _ (hR.ne hc.1.2.2.2 hc.2.1.2.2.2.2.2.2.2 (by omega))).trans h3), rfl, ?_⟩
        iterate 2 refine px_go hX ?_
        refine ⟨_, _, ((px_up_n _ _ (hR.ne hc.1.2.2.2 hc.2.1.2.2.2.2.2.2.2 (by omega))).trans h3), rfl, ?_⟩
        iterate 2 refine px_go hX ?_
        refine ⟨_, _, ((px_up_n _ _ (hR.ne hc.2.1.2.2.2.2.1 hc.2.1.2.2.2.2.2.2.2 (by omega))).trans (hR.1 8 _ hc.2.1.2.2.2.2.1)), (vp_in_nI hrl (by omega)), ?_⟩
        rw [nI_clamp (by omega)]
        iterate 2 refine px_go hX ?_
        refine ⟨_, _, ((px_up_n _ _ (hR.ne hc.1.2.2.2 hc.2.1.2.2.2.2.1 (by omega))).trans ((px_up_n _ _ (hR.ne hc.1.2.2.2 hc.2.1.2.2.2.2.2.2.2 (by omega))).trans h3)), rfl, ?_⟩
        iterate 2 refine px_go hX ?_
        refine ⟨_, _, ((px_up_n _ _ (hR.ne hc.1.2.2.2 hc.2.1.2.2.2.2.1 (by omega))).trans ((px_up_n _ _ (hR.ne hc.1.2.2.2 hc.2.1.2.2.2.2.2.2.2 (by omega))).trans h3)), rfl, ?_⟩
        iterate 2 refine px_go hX ?_
        refine ⟨_, _, ((px_up_n _ _ (hR.ne hc.2.1.2.2.2.2.2.1 hc.2.1.2.2.2.2.1 (by omega))).trans ((px_up_n _ _ (hR.ne hc.2.1.2.2.2.2.2.1 hc.2.1.2.2.2.2.2.2.2 (by omega))).trans (hR.1 9 _ hc.2.1.2.2.2.2.2.1))), (vp_in_nI hrl (by omega)), ?_⟩
        rw [nI_clamp (by omega)]
        iterate 2 refine px_go hX ?_
        refine ⟨_, _, ((px_up_n _ _ (hR.ne hc.1.2.2.2 hc.2.1.2.2.2.2.2.1 (by omega))).trans ((px_up_n _ _ (hR.ne hc.1.2.2.2 hc.2.1.2.2.2.2.1 (by omega))).trans ((px_up_n _ _ (hR.ne hc.1.2.2.2 hc.2.1.2.2.2.2.2.2.2 (by omega))).trans h3))), rfl, ?_⟩
        iterate 2 refine px_go hX ?_
        refine ⟨_, _, ((px_up_n _ _ (hR.ne hc.1.2.2.2 hc.2.1.2.2.2.2.2.1 (by omega))).trans ((px_up_n _ _ (hR.ne hc.1.2.2.2 hc.2.1.2.2.2.2.1 (by omega))).trans ((px_up_n _ _ (hR.ne hc.1.2.2.2 hc.2.1.2.2.2.2.2.2.2 (by omega))).trans h3))), rfl, ?_⟩
        iterate 2 refine px_go hX ?_
        refine ⟨_, _, ((px_up_n _ _ (hR.ne hc.2.1.2.2.2.2.2.2.1 hc.2.1.2.2.2.2.2.1 (by omega))).trans ((px_up_n _ _ (hR.ne hc.2.1.2.2.2.2.2.2.1 hc.2.1.2.2.2.2.1 (by omega))).trans ((px_up_n _ _ (hR.ne hc.2.1.2.2.2.2.2.2.1 hc.2.1.2.2.2.2.2.2.2 (by omega))).trans (hR.1 10 _ hc.2.1.2.2.2.2.2.2.1)))), (vp_in_nI hrl (by omega)), ?_⟩
        rw [nI_clamp (by omega)]
        have hR1 := ((((hR.put (i := 11) hc.2.1.2.2.2.2.2.2.2 (px_j 1024 (vp_updL (cs_sn σ) (c / 64) ((cs_sn σ (c / 64)) ||| (bitL c))))).put (i := 8) ((rp_up_n _ _ (by omega)).trans hc.2.1.2.2.2.2.1) (px_i 1240 (upd (cs_sa σ 4) (r) (nI c)))).put (i := 9) ((rp_up_n _ _ (by omega)).trans ((rp_up_n _ _ (by omega)).trans hc.2.1.2.2.2.2.2.1)) (px_i 1240 (upd (cs_sa σ 5) (r) (p)))).put (i := 10) ((rp_up_n _ _ (by omega)).trans ((rp_up_n _ _ (by omega)).trans ((rp_up_n _ _ (by omega)).trans hc.2.1.2.2.2.2.2.2.1))) (px_i 1240 (upd (cs_sa σ 6) (r) (s))))
        have hc1 : Cl ad (cs_rc1 σ r c p s) (rp_up (rp_up (rp_up (rp_up (K) (11) (px_j 1024 (vp_updL (cs_sn σ) (c / 64) ((cs_sn σ (c / 64)) ||| (bitL c))))) (8) (px_i 1240 (upd (cs_sa σ 4) (r) (nI c)))) (9) (px_i 1240 (upd (cs_sa σ 5) (r) (p)))) (10) (px_i 1240 (upd (cs_sa σ 6) (r) (s)))) := by
          exact (((hc.sSn _).sSa (k := 4) (by omega) _).sSa (k := 5) (by omega) _).sSa (k := 6) (by omega) _
        have hK1 : ∀ zz, 100 ≤ zz → (rp_up (rp_up (rp_up (rp_up (K) (11) (px_j 1024 (vp_updL (cs_sn σ) (c / 64) ((cs_sn σ (c / 64)) ||| (bitL c))))) (8) (px_i 1240 (upd (cs_sa σ 4) (r) (nI c)))) (9) (px_i 1240 (upd (cs_sa σ 5) (r) (p)))) (10) (px_i 1240 (upd (cs_sa σ 6) (r) (s)))) zz = (K) zz := fun zz hzz => by rw [rp_up_n _ _ (by omega), rp_up_n _ _ (by omega), rp_up_n _ _ (by omega), rp_up_n _ _ (by omega)]
        iterate 3 refine px_go hX ?_
        refine ⟨_, ((px_up_n _ _ (hR.ne hc.1.2.2.2 hc.2.1.2.2.2.2.2.2.1 (by omega))).trans ((px_up_n _ _ (hR.ne hc.1.2.2.2 hc.2.1.2.2.2.2.2.1 (by omega))).trans ((px_up_n _ _ (hR.ne hc.1.2.2.2 hc.2.1.2.2.2.2.1 (by omega))).trans ((px_up_n _ _ (hR.ne hc.1.2.2.2 hc.2.1.2.2.2.2.2.2.2 (by omega))).trans h3)))), 0, 0, _, Nat.le_of_ble_eq_true rfl, Nat.le_of_ble_eq_true rfl, Nat.le_of_ble_eq_true rfl, cc_isEnd (σ := cs_rc1 σ r c p s) hR1 hc1 hc4 hsz hn4, ?_⟩
        rintro _ C ⟨rfl, ⟨b4, rfl⟩ | ⟨b4, rfl⟩⟩
        · refine px_go hX ?_
          refine ⟨fun (c5 : 1 = 0) => absurd c5 (by decide), fun (c5 : ¬ 1 = 0) => ?_⟩
          iterate 3 refine px_go hX ?_
          refine ⟨_, _, ((px_up_n _ _ (hR.ne hc.1.2.2.2 hc.2.1.2.2.2.2.2.2.1 (by omega))).trans ((px_up_n _ _ (hR.ne hc.1.2.2.2 hc.2.1.2.2.2.2.2.1 (by omega))).trans ((px_up_n _ _ (hR.ne hc.1.2.2.2 hc.2.1.2.2.2.2.1 (by omega))).trans ((px_up_n _ _ (hR.ne hc.1.2.2.2 hc.2.1.2.2.2.2.2.2.2 (by omega))).trans h3)))), rfl, ?_⟩
          refine px_go hX ?_
          refine ⟨_, ((px_up_n _ _ (hR.ne hc.1.2.2.2 hc.2.1.2.2.2.2.2.2.1 (by omega))).trans ((px_up_n _ _ (hR.ne hc.1.2.2.2 hc.2.1.2.2.2.2.2.1 (by omega))).trans ((px_up_n _ _ (hR.ne hc.1.2.2.2 hc.2.1.2.2.2.2.1 (by omega))).trans ((px_up_n _ _ (hR.ne hc.1.2.2.2 hc.2.1.2.2.2.2.2.2.2 (by omega))).trans h3)))), Nat.le_of_ble_eq_true rfl, rfl, rfl, ?_⟩
          iterate 3 refine px_go hX ?_
          refine ⟨_, _, (px_up_s _ _ _), rfl, ?_⟩
          iterate 3 refine px_go hX ?_
          refine ⟨_, (px_up_s _ _ _), Nat.le_of_ble_eq_true rfl, rfl, rfl, ?_⟩
          refine px_go hX ?_
          have hR2 := ((hR1.put (i := 3) hc1.1.2.2.2 (px_o 3 [.int (nI (cs_ti σ)), .ref (ad 4), .ref (ad 5), .ref (ad 6), .ref (ad 7), .ref (ad 8), .ref (ad 9), .ref (ad 10), .ref (ad 11), .int (cs_si σ 0), .int (cs_si σ 1), .int (cs_si σ 2), .int (nI r), .int (nI r)])).put (i := 3) (rp_up_s _ _ _) (px_o 3 [.int (nI (cs_ti σ)), .ref (ad 4), .ref (ad 5), .ref (ad 6), .ref (ad 7), .ref (ad 8), .ref (ad 9), .ref (ad 10), .ref (ad 11), .int (cs_si σ 0), .int (cs_si σ 1), .int (cs_si σ 2), .int ((nI r) + ((1 : Int32))), .int (nI r)]))
          have hc2 : Cl ad (cs_rc σ r c p s (nI r)) (rp_up (rp_up (rp_up (rp_up (rp_up (rp_up (K) (11) (px_j 1024 (vp_updL (cs_sn σ) (c / 64) ((cs_sn σ (c / 64)) ||| (bitL c))))) (8) (px_i 1240 (upd (cs_sa σ 4) (r) (nI c)))) (9) (px_i 1240 (upd (cs_sa σ 5) (r) (p)))) (10) (px_i 1240 (upd (cs_sa σ 6) (r) (s)))) (3) (px_o 3 [.int (nI (cs_ti σ)), .ref (ad 4), .ref (ad 5), .ref (ad 6), .ref (ad 7), .ref (ad 8), .ref (ad 9), .ref (ad 10), .ref (ad 11), .int (cs_si σ 0), .int (cs_si σ 1), .int (cs_si σ 2), .int (nI r), .int (nI r)])) (3) (px_o 3 [.int (nI (cs_ti σ)), .ref (ad 4), .ref (ad 5), .ref (ad 6), .ref (ad 7), .ref (ad 8), .ref (ad 9), .ref (ad 10), .ref (ad 11), .int (cs_si σ 0), .int (cs_si σ 1), .int (cs_si σ 2), .int ((nI r) + ((1 : Int32))), .int (nI r)])) := by
            exact (hc1.sSi (fun q => match q with | 0 => cs_si σ 0 | 1 => cs_si σ 1 | 2 => cs_si σ 2 | 3 => nI r | _ => nI r)).sSi _
          have hK2 : ∀ zz, 100 ≤ zz → (rp_up (rp_up (rp_up (rp_up (rp_up (rp_up (K) (11) (px_j 1024 (vp_updL (cs_sn σ) (c / 64) ((cs_sn σ (c / 64)) ||| (bitL c))))) (8) (px_i 1240 (upd (cs_sa σ 4) (r) (nI c)))) (9) (px_i 1240 (upd (cs_sa σ 5) (r) (p)))) (10) (px_i 1240 (upd (cs_sa σ 6) (r) (s)))) (3) (px_o 3 [.int (nI (cs_ti σ)), .ref (ad 4), .ref (ad 5), .ref (ad 6), .ref (ad 7), .ref (ad 8), .ref (ad 9), .ref (ad 10), .ref (ad 11), .int (cs_si σ 0), .int (cs_si σ 1), .int (cs_si σ 2), .int (nI r), .int (nI r)])) (3) (px_o 3 [.int (nI (cs_ti σ)), .ref (ad 4), .ref (ad 5), .ref (ad 6), .ref (ad 7), .ref (ad 8), .ref (ad 9), .ref (ad 10), .ref (ad 11), .int (cs_si σ 0), .int (cs_si σ 1), .int (cs_si σ 2), .int ((nI r) + ((1 : Int32))), .int (nI r)])) zz = (rp_up (rp_up (rp_up (rp_up (K) (11) (px_j 1024 (vp_updL (cs_sn σ) (c / 64) ((cs_sn σ (c / 64)) ||| (bitL c))))) (8) (px_i 1240 (upd (cs_sa σ 4) (r) (nI c)))) (9) (px_i 1240 (upd (cs_sa σ 5) (r) (p)))) (10) (px_i 1240 (upd (cs_sa σ 6) (r) (s)))) zz := fun zz hzz => by rw [rp_up_n _ _ (by omega), rp_up_n _ _ (by omega)]
          refine ⟨rfl, Or.inr ⟨c1, hrl, (lg_cmp_eq _ _).mp c3, ?_⟩⟩
          rw [if_pos (show en (cs_lv σ) c n = true from b4)]
          exact ⟨_, hR2, hc2, fun q hq => (hK2 q hq).trans (hK1 q hq)⟩
        · refine px_go hX ?_
          refine ⟨fun (c6 : 0 = 0) => ?_, fun (c6 : ¬ 0 = 0) => absurd rfl c6⟩
          iterate 3 refine px_go hX ?_
          refine ⟨_, _, ((px_up_n _ _ (hR.ne hc.1.2.2.2 hc.2.1.2.2.2.2.2.2.1 (by omega))).trans ((px_up_n _ _ (hR.ne hc.1.2.2.2 hc.2.1.2.2.2.2.2.1 (by omega))).trans ((px_up_n _ _ (hR.ne hc.1.2.2.2 hc.2.1.2.2.2.2.1 (by omega))).trans ((px_up_n _ _ (hR.ne hc.1.2.2.2 hc.2.1.2.2.2.2.2.2.2 (by omega))).trans h3)))), rfl, ?_⟩
          iterate 3 refine px_go hX ?_
          refine ⟨_, ((px_up_n _ _ (hR.ne hc.1.2.2.2 hc.2.1.2.2.2.2.2.2.1 (by omega))).trans ((px_up_n _ _ (hR.ne hc.1.2.2.2 hc.2.1.2.2.2.2.2.1 (by omega))).trans ((px_up_n _ _ (hR.ne hc.1.2.2.2 hc.2.1.2.2.2.2.1 (by omega))).trans ((px_up_n _ _ (hR.ne hc.1.2.2.2 hc.2.1.2.2.2.2.2.2.2 (by omega))).trans h3)))), Nat.le_of_ble_eq_true rfl, rfl, rfl, ?_⟩
          refine px_go hX ?_
          have hR2 := (hR1.put (i := 3) hc1.1.2.2.2 (px_o 3 [.int (nI (cs_ti σ)), .ref (ad 4), .ref (ad 5), .ref (ad 6), .ref (ad 7), .ref (ad 8), .ref (ad 9), .ref (ad 10), .ref (ad 11), .int (cs_si σ 0), .int (cs_si σ 1), .int (cs_si σ 2), .int ((nI r) + ((1 : Int32))), .int (cs_si σ 4)]))
          have hc2 : Cl ad (cs_rc σ r c p s (cs_si σ 4)) (rp_up (rp_up (rp_up (rp_up (rp_up (K) (11) (px_j 1024 (vp_updL (cs_sn σ) (c / 64) ((cs_sn σ (c / 64)) ||| (bitL c))))) (8) (px_i 1240 (upd (cs_sa σ 4) (r) (nI c)))) (9) (px_i 1240 (upd (cs_sa σ 5) (r) (p)))) (10) (px_i 1240 (upd (cs_sa σ 6) (r) (s)))) (3) (px_o 3 [.int (nI (cs_ti σ)), .ref (ad 4), .ref (ad 5), .ref (ad 6), .ref (ad 7), .ref (ad 8), .ref (ad 9), .ref (ad 10), .ref (ad 11), .int (cs_si σ 0), .int (cs_si σ 1), .int (cs_si σ 2), .int ((nI r) + ((1 : Int32))), .int (cs_si σ 4)])) := by
            exact hc1.sSi _
          have hK2 : ∀ zz, 100 ≤ zz → (rp_up (rp_up (rp_up (rp_up (rp_up (K) (11) (px_j 1024 (vp_updL (cs_sn σ) (c / 64) ((cs_sn σ (c / 64)) ||| (bitL c))))) (8) (px_i 1240 (upd (cs_sa σ 4) (r) (nI c)))) (9) (px_i 1240 (upd (cs_sa σ 5) (r) (p)))) (10) (px_i 1240 (upd (cs_sa σ 6) (r) (s)))) (3) (px_o 3 [.int (nI (cs_ti σ)), .ref (ad 4), .ref (ad 5), .ref (ad 6), .ref (ad 7), .ref (ad 8), .ref (ad 9), .ref (ad 10), .ref (ad 11), .int (cs_si σ 0), .int (cs_si σ 1), .int (cs_si σ 2), .int ((nI r) + ((1 : Int32))), .int (cs_si σ 4)])) zz = (rp_up (rp_up (rp_up (rp_up (K) (11) (px_j 1024 (vp_updL (cs_sn σ) (c / 64) ((cs_sn σ (c / 64)) ||| (bitL c))))) (8) (px_i 1240 (upd (cs_sa σ 4) (r) (nI c)))) (9) (px_i 1240 (upd (cs_sa σ 5) (r) (p)))) (10) (px_i 1240 (upd (cs_sa σ 6) (r) (s)))) zz := fun zz hzz => by rw [rp_up_n _ _ (by omega)]
          refine ⟨rfl, Or.inr ⟨c1, hrl, (lg_cmp_eq _ _).mp c3, ?_⟩⟩
          rw [if_neg (show ¬ en (cs_lv σ) c n = true from b4), ← c1]
          exact ⟨_, hR2, hc2, fun q hq => (hK2 q hq).trans (hK1 q hq)⟩
      · refine px_go hX ?_
        exact ⟨rfl, Or.inl ⟨rfl, Or.inr (Or.inr (fun w => c3 ((lg_cmp_eq _ _).mpr w)))⟩⟩
end RM
