/-! The plan is told; the seen states are forgotten. -/
def cs_sP (σ : ck_S) (b : Nat) (x : Int32) : ck_S := cs_sY (cs_fp σ b) b (fun q => match q with | 0 => 1 | 1 => x | 2 => cs_yf (cs_fp σ b) b 2 | _ => cs_yf (cs_fp σ b) b 3)
section RQ
variable {B : Nat} {sc : Option (Nat × Nat × (Nat → Int32))} {d : Nat} {ad : Nat → Nat} {σ : ck_S} {K : rp_K} {C : px_P}
theorem cc_startPlan (hR : Rp ad K C) (hc : Cl ad σ K) {b : Nat} (hb : b < cs_nb σ) (x : Int32) : px_W ps_Y ps_P B sc (d + 2) 43 [.ref (ad (20 + 4 * b)), .int x] C 0 0 (fun v C' => v = none ∧ Ck ad (cs_sP σ b x) K C') px_no := by
  have hnb := hc.2.2.2.2.2.2.1
  have hby := hR.1 _ _ (hc.2.2.1 b hb).1
  refine ⟨pm_Bay_startPlan, rfl, Nat.le_of_ble_eq_true rfl, fun X hw hX => ?_⟩
  iterate 2 refine px_go hX ?_
  refine ⟨_, hby, 0, 0, _, Nat.le_of_ble_eq_true rfl, Nat.le_of_ble_eq_true rfl, Nat.le_of_ble_eq_true rfl, cc_forgetPlan hR hc hb, ?_⟩
  rintro _ C ⟨rfl, K1, hR1, hc1, hK1⟩
  iterate 3 refine px_go hX ?_
  refine ⟨_, (hR1.1 _ _ (hc1.2.2.1 b hb).1), Nat.le_of_ble_eq_true rfl, rfl, rfl, ?_⟩
  iterate 3 refine px_go hX ?_
  refine ⟨_, (px_up_s _ _ _), Nat.le_of_ble_eq_true rfl, rfl, rfl, ?_⟩
  refine px_go hX ?_
  have hR2 := ((hR1.put (i := 20 + 4 * b) (hc1.2.2.1 b hb).1 (px_o 1 [.ref (ad (21 + 4 * b)), .ref (ad (22 + 4 * b)), .ref (ad (23 + 4 * b)), .int ((1 : Int32)), .int (cs_yf (cs_fp σ b) b 1), .int (cs_yf (cs_fp σ b) b 2), .int (cs_yf (cs_fp σ b) b 3)])).put (i := 20 + 4 * b) (rp_up_s _ _ _) (px_o 1 [.ref (ad (21 + 4 * b)), .ref (ad (22 + 4 * b)), .ref (ad (23 + 4 * b)), .int ((1 : Int32)), .int (x), .int (cs_yf (cs_fp σ b) b 2), .int (cs_yf (cs_fp σ b) b 3)]))
  have hc2 : Cl ad (cs_sP σ b x) (rp_up (rp_up (K1) (20 + 4 * b) (px_o 1 [.ref (ad (21 + 4 * b)), .ref (ad (22 + 4 * b)), .ref (ad (23 + 4 * b)), .int ((1 : Int32)), .int (cs_yf (cs_fp σ b) b 1), .int (cs_yf (cs_fp σ b) b 2), .int (cs_yf (cs_fp σ b) b 3)])) (20 + 4 * b) (px_o 1 [.ref (ad (21 + 4 * b)), .ref (ad (22 + 4 * b)), .ref (ad (23 + 4 * b)), .int ((1 : Int32)), .int (x), .int (cs_yf (cs_fp σ b) b 2), .int (cs_yf (cs_fp σ b) b 3)])) := by
    rw [rp_up_up]
    exact hc1.sY (b := b) hb _
  have hK2 : ∀ zz, 100 ≤ zz → (rp_up (rp_up (K1) (20 + 4 * b) (px_o 1 [.ref (ad (21 + 4 * b)), .ref (ad (22 + 4 * b)), .ref (ad (23 + 4 * b)), .int ((1 : Int32)), .int (cs_yf (cs_fp σ b) b 1), .int (cs_yf (cs_fp σ b) b 2), .int (cs_yf (cs_fp σ b) b 3)])) (20 + 4 * b) (px_o 1 [.ref (ad (21 + 4 * b)), .ref (ad (22 + 4 * b)), .ref (ad (23 + 4 * b)), .int ((1 : Int32)), .int (x), .int (cs_yf (cs_fp σ b) b 2), .int (cs_yf (cs_fp σ b) b 3)])) zz = (K1) zz := fun zz hzz => by rw [rp_up_n _ _ (by omega), rp_up_n _ _ (by omega)]
  exact ⟨rfl, _, hR2, hc2, fun q hq => (hK2 q hq).trans (hK1 q hq)⟩
def cs_sMv (σ : ck_S) (b i : Nat) (x y z : Int32) : ck_S := cs_sA (cs_sA (cs_sA σ b 0 (upd (cs_ya σ b 0) i x)) b 1 (upd (cs_ya σ b 1) i y)) b 2 (upd (cs_ya σ b 2) i z)
theorem cc_setMove (hR : Rp ad K C) (hc : Cl ad σ K) {b i : Nat} (hb : b < cs_nb σ) (hi : i < 12) (hm : ¬ cs_yf σ b 0 = 0 ∧ ¬ nI i < 0 ∧ ¬ cs_yf σ b 1 ≤ nI i ∧ ¬ 12 ≤ nI i) (x y z : Int32) : px_W ps_Y ps_P B sc (d + 2) 44 [.ref (ad (20 + 4 * b)), .int (nI i), .int x, .int y, .int z] C 0 0 (fun v C' => v = none ∧ Ck ad (cs_sMv σ b i x y z) K C') px_no := by
  have hnb := hc.2.2.2.2.2.2.1
  have hby := hR.1 _ _ (hc.2.2.1 b hb).1
  refine ⟨pm_Bay_setMove, rfl, Nat.le_of_ble_eq_true rfl, fun X hw hX => ?_⟩
  iterate 3 refine px_go hX ?_
  refine ⟨_, hby, 0, 0, _, Nat.le_of_ble_eq_true rfl, Nat.le_of_ble_eq_true rfl, Nat.le_of_ble_eq_true rfl, cc_hasMove hR hc hb _, ?_⟩
  rintro _ C ⟨rfl, ⟨b1, rfl⟩ | ⟨b1, rfl⟩⟩
  · refine px_go hX ?_
    refine ⟨fun (c2 : 1 = 0) => absurd c2 (by decide), fun (c2 : ¬ 1 = 0) => ?_⟩
    iterate 2 refine px_go hX ?_
    refine ⟨_, _, hby, rfl, ?_⟩
    iterate 3 refine px_go hX ?_
    refine ⟨_, _, (hR.1 _ _ (hc.2.2.1 b hb).2.1), (vp_in_nI hi (by omega)), ?_⟩
    rw [nI_clamp (by omega)]
    iterate 2 refine px_go hX ?_
    refine ⟨_, _, ((px_up_n _ _ (hR.ne (hc.2.2.1 b hb).1 (hc.2.2.1 b hb).2.1 (by omega))).trans hby), rfl, ?_⟩
    iterate 3 refine px_go hX ?_
    refine ⟨_, _, ((px_up_n _ _ (hR.ne (hc.2.2.1 b hb).2.2.1 (hc.2.2.1 b hb).2.1 (by omega))).trans (hR.1 _ _ (hc.2.2.1 b hb).2.2.1)), (vp_in_nI hi (by omega)), ?_⟩
    rw [nI_clamp (by omega)]
    iterate 2 refine px_go hX ?_
    refine ⟨_, _, ((px_up_n _ _ (hR.ne (hc.2.2.1 b hb).1 (hc.2.2.1 b hb).2.2.1 (by omega))).trans ((px_up_n _ _ (hR.ne (hc.2.2.1 b hb).1 (hc.2.2.1 b hb).2.1 (by omega))).trans hby)), rfl, ?_⟩
    iterate 3 refine px_go hX ?_
    refine ⟨_, _, ((px_up_n _ _ (hR.ne (hc.2.2.1 b hb).2.2.2 (hc.2.2.1 b hb).2.2.1 (by omega))).trans ((px_up_n _ _ (hR.ne (hc.2.2.1 b hb).2.2.2 (hc.2.2.1 b hb).2.1 (by omega))).trans (hR.1 _ _ (hc.2.2.1 b hb).2.2.2))), (vp_in_nI hi (by omega)), ?_⟩
    rw [nI_clamp (by omega)]
    refine px_go hX ?_
    have hR1 := (((hR.put (i := 21 + 4 * b) (hc.2.2.1 b hb).2.1 (px_i 12 (upd (cs_ya σ b 0) (i) (x)))).put (i := 22 + 4 * b) ((rp_up_n _ _ (by omega)).trans (hc.2.2.1 b hb).2.2.1) (px_i 12 (upd (cs_ya σ b 1) (i) (y)))).put (i := 23 + 4 * b) ((rp_up_n _ _ (by omega)).trans ((rp_up_n _ _ (by omega)).trans (hc.2.2.1 b hb).2.2.2)) (px_i 12 (upd (cs_ya σ b 2) (i) (z))))
    have hc1 : Cl ad (cs_sMv σ b i x y z) (rp_up (rp_up (rp_up (K) (21 + 4 * b) (px_i 12 (upd (cs_ya σ b 0) (i) (x)))) (22 + 4 * b) (px_i 12 (upd (cs_ya σ b 1) (i) (y)))) (23 + 4 * b) (px_i 12 (upd (cs_ya σ b 2) (i) (z)))) := by
      have q1 := hc.sA hb (by omega : 0 < 3) (upd (cs_ya σ b 0) i x)
      have q2 := q1.sA hb (by omega : 1 < 3) (upd (cs_ya σ b 1) i y)
      have q3 := q2.sA hb (by omega : 2 < 3) (upd (cs_ya σ b 2) i z)
      rw [show 21 + 4 * b + 0 = 21 + 4 * b from rfl, show 21 + 4 * b + 1 = 22 + 4 * b by omega, show 21 + 4 * b + 2 = 23 + 4 * b by omega] at q3
      exact q3
    have hK1 : ∀ zz, 100 ≤ zz → (rp_up (rp_up (rp_up (K) (21 + 4 * b) (px_i 12 (upd (cs_ya σ b 0) (i) (x)))) (22 + 4 * b) (px_i 12 (upd (cs_ya σ b 1) (i) (y)))) (23 + 4 * b) (px_i 12 (upd (cs_ya σ b 2) (i) (z)))) zz = (K) zz := fun zz hzz => by rw [rp_up_n _ _ (by omega), rp_up_n _ _ (by omega), rp_up_n _ _ (by omega)]
    exact ⟨rfl, _, hR1, hc1, hK1⟩
  · refine px_go hX ?_
    refine ⟨fun (c3 : 0 = 0) => ?_, fun (c3 : ¬ 0 = 0) => absurd rfl c3⟩
    refine px_go hX ?_
    exact absurd hm b1
theorem cc_forgetSeen (hR : Rp ad K C) (hc : Cl ad σ K) {S : qS} (hS : Sq σ S) : px_W ps_Y ps_P B sc (d + 1) 46 [.ref (ad 3)] C 0 0 (fun v C' => v = none ∧ ∃ g : Nat → Int64, (∀ r, r < 1024 → g r = 0) ∧ Ck ad (cs_sSn σ g) K C') px_no := by
  refine ⟨pm_Sea_forgetSeen, rfl, Nat.le_of_ble_eq_true rfl, fun X hw hX => ?_⟩
  have loop : ∀ kk i (g : Nat → Int64) (K1 : rp_K) (C1 : px_P), i + kk = S.1.length → (Rp ad K1 C1 ∧ Cl ad (cs_sSn σ g) K1 ∧ (∀ q, 100 ≤ q → K1 q = K q) ∧ (∀ r, g r = cs_sn σ r ∨ g r = 0) ∧ ∀ (j : Nat) (x : qE), j < i → S.1[j]? = some x → g (x.1 / 64) = 0) → X (2, [(0, .ref (ad 3)), (1, .int (nI i))], [], C1, 0, 0) := by
    intro kk
    induction kk with
    | zero =>
      intro i g K1 C1 hi ⟨hR1, hc1, hK1, hg, hz⟩
      have hlt : i = S.1.length := hi
      have h3 : C1 (ad 3) = some (px_o 3 [.int (nI (cs_ti σ)), .ref (ad 4), .ref (ad 5), .ref (ad 6), .ref (ad 7), .ref (ad 8), .ref (ad 9), .ref (ad 10), .ref (ad 11), .int (cs_si σ 0), .int (cs_si σ 1), .int (cs_si σ 2), .int (nI S.1.length), .int (cs_si σ 4)]) := by rw [← hS.1]; exact hR1.1 3 _ hc1.1.2.2.2
      have h1240 := hS.2.1
      iterate 3 refine px_go hX ?_
      refine ⟨fun (c1 : (1240 : Int32) ≤ nI i) => ?_, fun (c1 : ¬ (1240 : Int32) ≤ nI i) => ?_⟩
      · refine px_go hX ?_
        rw [hlt] at hz
        refine ⟨rfl, g, fun r hr => ?_, K1, hR1, hc1, hK1⟩
        by_cases hq : ∃ (j : Nat) (x : qE), S.1[j]? = some x ∧ x.1 / 64 = r
        · obtain ⟨j, x, hx, hxr⟩ := hq
          rw [← hxr]
          exact hz j x (List.getElem?_eq_some_iff.mp hx).1 hx
        · rcases hg r with h | h
          · rw [h]
            refine lb_zero (fun m hm => ?_)
            have h6 := hS.2.2.2.2.2 (64 * r + m) (by omega)
            rw [show (64 * r + m) / 64 = r by omega, show (64 * r + m) % 64 = m by omega] at h6
            cases hl : lb (cs_sn σ r) m with
            | false => rfl
            | true =>
              exfalso
              obtain ⟨x, hx, hx2⟩ := List.mem_map.mp (h6.mp hl)
              obtain ⟨j, hj⟩ := List.getElem?_of_mem hx
              exact hq ⟨j, x, hj, by omega⟩
          · exact h
      · iterate 3 refine px_go hX ?_
        refine ⟨_, _, h3, rfl, ?_⟩
        refine px_go hX ?_
        refine ⟨fun (c2 : nI S.1.length ≤ nI i) => ?_, fun (c2 : ¬ nI S.1.length ≤ nI i) => absurd (nI_le (by omega) (by omega)) c2⟩
        refine px_go hX ?_
        rw [hlt] at hz
        refine ⟨rfl, g, fun r hr => ?_, K1, hR1, hc1, hK1⟩
        by_cases hq : ∃ (j : Nat) (x : qE), S.1[j]? = some x ∧ x.1 / 64 = r
        · obtain ⟨j, x, hx, hxr⟩ := hq
          rw [← hxr]
          exact hz j x (List.getElem?_eq_some_iff.mp hx).1 hx
        · rcases hg r with h | h
          · rw [h]
            refine lb_zero (fun m hm => ?_)
            have h6 := hS.2.2.2.2.2 (64 * r + m) (by omega)
            rw [show (64 * r + m) / 64 = r by omega, show (64 * r + m) % 64 = m by omega] at h6
            cases hl : lb (cs_sn σ r) m with
            | false => rfl
            | true =>
              exfalso
              obtain ⟨x, hx, hx2⟩ := List.mem_map.mp (h6.mp hl)
              obtain ⟨j, hj⟩ := List.getElem?_of_mem hx
              exact hq ⟨j, x, hj, by omega⟩
          · exact h
    | succ kk ih =>
      intro i g K1 C1 hi ⟨hR1, hc1, hK1, hg, hz⟩
      have hlt : i < S.1.length := by omega
      have h3 : C1 (ad 3) = some (px_o 3 [.int (nI (cs_ti σ)), .ref (ad 4), .ref (ad 5), .ref (ad 6), .ref (ad 7), .ref (ad 8), .ref (ad 9), .ref (ad 10), .ref (ad 11), .int (cs_si σ 0), .int (cs_si σ 1), .int (cs_si σ 2), .int (nI S.1.length), .int (cs_si σ 4)]) := by rw [← hS.1]; exact hR1.1 3 _ hc1.1.2.2.2
      have h1240 := hS.2.1
      iterate 3 refine px_go hX ?_
      refine ⟨fun (c3 : (1240 : Int32) ≤ nI i) => absurd c3 (nI_ge (by omega : i < 1240) (by omega : 1240 < 2 ^ 31)), fun (c3 : ¬ (1240 : Int32) ≤ nI i) => ?_⟩
      iterate 3 refine px_go hX ?_
      refine ⟨_, _, h3, rfl, ?_⟩
      refine px_go hX ?_
      refine ⟨fun (c4 : nI S.1.length ≤ nI i) => absurd c4 (nI_ge hlt (by omega)), fun (c4 : ¬ nI S.1.length ≤ nI i) => ?_⟩
      obtain ⟨x, hx⟩ : ∃ x, S.1[i]? = some x := ⟨_, List.getElem?_eq_getElem hlt⟩
      obtain ⟨hst, -, -, hx4⟩ := hS.2.2.2.2.1 i x hx
      iterate 2 refine px_go hX ?_
      refine ⟨_, _, h3, rfl, ?_⟩
      iterate 2 refine px_go hX ?_
      refine ⟨_, _, h3, rfl, ?_⟩
      iterate 2 refine px_go hX ?_
      refine ⟨_, _, (hR1.1 8 _ hc1.2.1.2.2.2.2.1), (vp_in_nI (by omega) (by omega)), ?_⟩
      rw [nI_clamp (by omega), show cs_sa (cs_sSn σ g) 4 i = nI x.1 from hst]
      iterate 6 refine px_go hX ?_
      refine ⟨_, _, (hR1.1 11 _ hc1.2.1.2.2.2.2.2.2.2), (by rw [show (nI x.1 >>> (px_ic 6 &&& 31)) &&& px_ic 1023 = nI (x.1 / 64) from ie_row hx4]; exact vp_in_nI (by omega) (by omega)), ?_⟩
      rw [show ((nI x.1 >>> (px_ic 6 &&& 31)) &&& px_ic 1023) = nI (x.1 / 64) from ie_row hx4, nI_clamp (by omega)]
      iterate 2 refine px_go hX ?_
      have hR2 := (hR1.put (i := 11) hc1.2.1.2.2.2.2.2.2.2 (px_j 1024 (vp_updL (g) (x.1 / 64) (lN 0))))
      have hc2 : Cl ad (cs_sSn σ (vp_updL g (x.1 / 64) (lN 0))) (rp_up (K1) (11) (px_j 1024 (vp_updL (g) (x.1 / 64) (lN 0)))) := by
        exact hc1.sSn _
      have hK2 : ∀ zz, 100 ≤ zz → (rp_up (K1) (11) (px_j 1024 (vp_updL (g) (x.1 / 64) (lN 0)))) zz = (K1) zz := fun zz hzz => by rw [rp_up_n _ _ (by omega)]
      exact px_lw hw [(0, .ref (ad 3)), (1, .int (nI (i + 1)))] (ih (i + 1) (vp_updL g (x.1 / 64) (lN 0)) _ _ (by omega) ⟨hR2, hc2, fun q hq => (hK2 q hq).trans (hK1 q hq), fun r => by
              by_cases h : r = x.1 / 64
              · rw [h, pk_uLs]
                exact Or.inr rfl
              · rw [pk_uLn h]
                exact hg r, fun j y hj hy => by
              by_cases h : y.1 / 64 = x.1 / 64
              · rw [h, pk_uLs]
                rfl
              · rw [pk_uLn h]
                rcases Nat.lt_succ_iff_lt_or_eq.mp hj with h2 | h2
                · exact hz j y h2 hy
                · rw [h2, hx] at hy
                  exact absurd (congrArg (fun z => z.1 / 64) (Option.some.inj hy)).symm h⟩) ⟨rfl, (congrArg (fun z => some (Value.int z)) (nI_succ _).symm), trivial⟩
  iterate 2 refine px_go hX ?_
  exact px_lw hw [(0, .ref (ad 3)), (1, .int (nI 0))] (loop (S.1.length - 0) 0 (cs_sn σ) K C (by omega) ⟨hR, hc, fun _ _ => rfl, fun _ => Or.inl rfl, fun j x hj => absurd hj (Nat.not_lt_zero j)⟩) ⟨rfl, rfl, trivial⟩
end RQ
