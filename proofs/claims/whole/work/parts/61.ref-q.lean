/-! The reference's plan. -/
section SQ
variable {B : Nat} {sc : Option (Nat × Nat × (Nat → Int32))} {d : Nat} {ad : Nat → Nat} {σ : ck_S} {ρ : rs_S} {K : rp_K} {C : px_P}
theorem rr_plan (hR : Rp ad K C) (hr : Rl ad ρ K) (hs : Sim σ ρ) (hn : cs_n σ ≤ 16) (hnb : cs_nb σ ≤ 4) (hrg : cs_rg σ) (hb4 : ∀ x, pn_ct (fun j => decide (cs_bf σ j 1 = x ∧ ¬ cs_bf σ j 2 = 3)) (cs_n σ) ≤ 4) (hti : cs_ti σ ≤ 4) (ht1 : 1 ≤ cs_ti σ) (hnb1 : cs_nb1 σ) {b : Nat} (hb : b < cs_nb σ) {σ1 : ck_S} {c0 : Nat} (hA : Ad σ σ1 (bjs σ (nI b) (cs_n σ)) c0) (hc0 : Vd (bjs σ (nI b) (cs_n σ)).length (cs_ti σ) c0) : px_W ps_Y ps_P B sc (d + 6) 79 [.ref (ad 100), .int (nI b)] C 0 0 (fun v C' => ∃ ρ', Cr ad ρ' K C' ∧ rs_sc ρ' 0 = 0 ∧ (((cs_F σ1 (bjs σ (nI b) (cs_n σ)).length c0).2 = 0 ∧ v = some (.int (-1)) ∧ Sim (cs_fp σ b) ρ') ∨ ∃ e L, (cs_F σ1 (bjs σ (nI b) (cs_n σ)).length c0).2 = e + 1 ∧ v = some (.int (nI L)) ∧ ∀ L' Y, Told σ1 (cs_F σ1 (bjs σ (nI b) (cs_n σ)).length c0) e b L' Y → L' = L ∧ Sim (cs_yA (cs_sP σ b (nI L)) Y) ρ')) px_no := by
  obtain ⟨p, fs, fa, fw⟩ := ρ
  obtain rfl : p = σ.1 := hs.1.1
  have hmg := hA.mg hn hnb1 (t := cs_ti σ)
  have hep := hA.ep (t := cs_ti σ)
  have hwj := hA.wj
  have hAA := hA.2.2.2.2.2.2
  have hn4 := hA.2.2.1
  have hσ1 : cs_ti σ1 = cs_ti σ ∧ cs_ya σ1 = cs_ya σ := by
    obtain ⟨⟨J0, rfl, -⟩, -⟩ := hA
    exact ⟨rfl, rfl⟩
  generalize hjs : bjs σ (nI b) (cs_n σ) = js at *
  refine ⟨pm_Ref_plan, rfl, Nat.le_of_ble_eq_true rfl, fun X hw hX => ?_⟩
  iterate 3 refine px_go hX ?_
  refine ⟨_, (hR.1 100 _ hr.1), 0, 0, _, Nat.le_of_ble_eq_true rfl, Nat.le_of_ble_eq_true rfl, Nat.le_of_ble_eq_true rfl, rr_isBay hR hr hs _, ?_⟩
  rintro _ C ⟨rfl, ⟨b1, rfl⟩ | ⟨b1, rfl⟩⟩
  · refine px_go hX ?_
    refine ⟨fun (c2 : ¬ 1 = 0) => ?_, fun (c2 : 1 = 0) => absurd c2 (by decide)⟩
    iterate 3 refine px_go hX ?_
    refine ⟨_, (hR.1 100 _ hr.1), Nat.le_of_ble_eq_true rfl, rfl, rfl, ?_⟩
    have hR1 := (hR.put (i := 100) hr.1 (px_o 4 [.int ((0 : Int32)), .int (nI (cs_nb σ)), .int (nI (cs_ti σ)), .int (nI (cs_n σ)), .ref (ad 101), .ref (ad 102), .ref (ad 103), .ref (ad 104), .ref (ad 105), .ref (ad 106), .int (fs 1), .int (fs 2), .ref (ad 107), .ref (ad 108), .ref (ad 109), .ref (ad 110), .ref (ad 111), .ref (ad 112), .ref (ad 113), .ref (ad 114), .ref (ad 115), .int (fs 3), .ref (ad 116), .ref (ad 117), .int (fs 4)]))
    have hr1 : Rl ad (rs_th (σ.1, fs, fa, fw) 0) (rp_up (K) (100) (px_o 4 [.int ((0 : Int32)), .int (nI (cs_nb σ)), .int (nI (cs_ti σ)), .int (nI (cs_n σ)), .ref (ad 101), .ref (ad 102), .ref (ad 103), .ref (ad 104), .ref (ad 105), .ref (ad 106), .int (fs 1), .int (fs 2), .ref (ad 107), .ref (ad 108), .ref (ad 109), .ref (ad 110), .ref (ad 111), .ref (ad 112), .ref (ad 113), .ref (ad 114), .ref (ad 115), .int (fs 3), .ref (ad 116), .ref (ad 117), .int (fs 4)])) := hr.sO _ _
    have hK1 : ∀ zz, zz < 100 ∨ 118 ≤ zz → (rp_up (K) (100) (px_o 4 [.int ((0 : Int32)), .int (nI (cs_nb σ)), .int (nI (cs_ti σ)), .int (nI (cs_n σ)), .ref (ad 101), .ref (ad 102), .ref (ad 103), .ref (ad 104), .ref (ad 105), .ref (ad 106), .int (fs 1), .int (fs 2), .ref (ad 107), .ref (ad 108), .ref (ad 109), .ref (ad 110), .ref (ad 111), .ref (ad 112), .ref (ad 113), .ref (ad 114), .ref (ad 115), .int (fs 3), .ref (ad 116), .ref (ad 117), .int (fs 4)])) zz = (K) zz := fun zz hzz => by rw [rp_up_n _ _ (by omega)]
    have hs1 : Sim σ (rs_th (σ.1, fs, fa, fw) 0) := hs
    iterate 3 refine px_go hX ?_
    refine ⟨_, (px_up_s _ _ _), 0, 0, _, Nat.le_of_ble_eq_true rfl, Nat.le_of_ble_eq_true rfl, Nat.le_of_ble_eq_true rfl, rr_search hR1 hr1 hs1 hn hrg hb4 hti hjs.symm hn4 hc0 hwj hmg hep, ?_⟩
    rintro _ C ⟨ρ2, ⟨K2, hR2, hr2, hK2⟩, hKd, hM2, ⟨e, y, rfl, hee, hy, hey, hno, hH⟩ | ⟨rfl, hno⟩⟩
    · have hA7p : C (ad 107) = some (px_z 4 (rs_a ρ2 7)) := hR2.1 107 _ (hr2.2.1 7 (by decide) (by decide) (by decide))
      have he2 : e < (fq (fun c => suc js.length (cs_ti σ) (mgc σ1 js.length c) c) c0 e).length := (List.getElem?_eq_some_iff.mp hy).1
      rw [← hσ1.1] at hy hno hH hc0 hti ht1 he2
      obtain ⟨hS2, L, hL12, hL0, hLp, hLe, hTold⟩ := plan_L hn4 hti ht1 hc0 hee hy hey hno
      have hQo := Qo.f (fun c => suc js.length (cs_ti σ1) (mgc σ1 js.length c) c) c0 e
      have hQv : Qv (Vd js.length (cs_ti σ1)) (fq (fun c => suc js.length (cs_ti σ1) (mgc σ1 js.length c) c) c0 e) := Qv.f hc0 (fun c hc z hz => hc.nx hn4 hti hz) e
      generalize hQ : fq (fun c => suc js.length (cs_ti σ1) (mgc σ1 js.length c) c) c0 e = Q at *
      have hx : ∀ j, ∃ x : qE, Q[anc Q e j]? = some x := fun j => ⟨_, List.getElem?_eq_getElem (Nat.lt_of_le_of_lt (hLe j) he2)⟩
      have hst : ∀ j, j < L → ∃ (x z : qE), Q[anc Q e j]? = some x ∧ Q[anc Q e (j + 1)]? = some z ∧ x.2.1 = anc Q e (j + 1) + 1 ∧ (x.1, x.2.2) ∈ suc js.length (cs_ti σ1) (mgc σ1 js.length z.1) z.1 := fun j hj => by
        obtain ⟨x, hxx⟩ := hx j
        obtain ⟨-, -, q⟩ := hQo.1 _ x hxx
        obtain ⟨q1, z, hz, hm⟩ := q (hLp j hj)
        have e1 := anc_s hxx
        exact ⟨x, z, hxx, by rw [e1]; exact hz, by omega, hm⟩
      have h14 : ∀ j, j < L → rs_a ρ2 14 (anc Q e j) = nI (anc Q e (j + 1)) := fun j hj => by
        obtain ⟨x, z, hxx, hz, e1, -⟩ := hst j hj
        rw [(hH.2.2.1 _ x hxx).2.1, e1, nI_pred]
      have h14e : rs_a ρ2 14 (anc Q e L) = -1 := by
        obtain ⟨x, hxx⟩ := hx L
        have e1 := (hQo.1 _ x hxx).2.1
        rw [hL0] at e1 hxx
        rw [hL0, (hH.2.2.1 _ x hxx).2.1, show x.2.1 = 0 by omega]
        decide +kernel
      rw [hσ1.1] at hti ht1 hc0
      iterate 3 refine px_go hX ?_
      refine ⟨_, _, (hR2.1 100 _ hr2.1), rfl, ?_⟩
      iterate 3 refine px_go hX ?_
      refine ⟨fun (c3 : nI e < 0) => absurd c3 (nI_pos (by omega)), fun (c3 : ¬ nI e < 0) => ?_⟩
      iterate 3 refine px_go hX ?_
      refine ⟨_, _, hA7p, (vp_in_nI (by omega) (by omega)), ?_⟩
      rw [nI_clamp (n := b) (by omega)]
      iterate 2 refine px_go hX ?_
      refine ⟨fun (c4 : 0 ≤ nI e) => ?_, fun (c4 : ¬ 0 ≤ nI e) => absurd (nI_pos' (by omega)) c4⟩
      iterate 4 refine px_go hX ?_
      have hR3 := (hR2.put (i := 107) (hr2.2.1 7 (by decide) (by decide) (by decide)) (px_z 4 (upd (rs_a ρ2 7) (b) (1))))
      have hr3 : Rl ad ((rs_sA ρ2 7 (upd (rs_a ρ2 7) b 1))) (rp_up (K2) (107) (px_z 4 (upd (rs_a ρ2 7) (b) (1)))) := hr2.sA (q := 7) (by decide) (by decide) (by decide) _
      have hK3 : ∀ zz, zz < 100 ∨ 118 ≤ zz → (rp_up (K2) (107) (px_z 4 (upd (rs_a ρ2 7) (b) (1)))) zz = (K2) zz := fun zz hzz => by rw [rp_up_n _ _ (by omega)]
      have loop : ∀ kk j (K4 : rp_K) (C4 : px_P), j + kk = L → (Rp ad K4 C4 ∧ Rl ad (rs_sA ρ2 7 (upd (rs_a ρ2 7) b 1)) K4 ∧ (∀ zz, zz < 100 ∨ 118 ≤ zz → K4 zz = K zz)) → X (51, [(0, .ref (ad 100)), (1, .int (nI b)), (2, .int (nI e)), (3, .int (nI j)), (4, .int (nI (anc Q e j)))], [], C4, 0, 0) := by
        intro kk
        induction kk with
        | zero =>
          intro j K4 C4 hi ⟨hR4, hr4, hK4⟩
          have hlt : j = L := hi
          have hA8q : C4 (ad 108) = some (px_i 4 (rs_a ρ2 8)) := hR4.1 108 _ (hr4.2.1 8 (by decide) (by decide) (by decide))
          have hA9q : C4 (ad 109) = some (px_i 4 (rs_a ρ2 9)) := hR4.1 109 _ (hr4.2.1 9 (by decide) (by decide) (by decide))
          have hA14q : C4 (ad 114) = some (px_i 2048 (rs_a ρ2 14)) := hR4.1 114 _ (hr4.2.1 14 (by decide) (by decide) (by decide))
          iterate 2 refine px_go hX ?_
          refine ⟨_, _, (hR4.1 100 _ hr4.1), rfl, ?_⟩
          iterate 2 refine px_go hX ?_
          refine ⟨_, _, hA14q, (vp_in_nI (by have := hLe j; omega) (by omega)), ?_⟩
          rw [nI_clamp (n := anc Q e j) (by have := hLe j; omega), hlt, h14e]
          refine px_go hX ?_
          refine ⟨fun (c5 : (-1 : Int32) < 0) => ?_, fun (c5 : ¬ (-1 : Int32) < 0) => absurd (by decide) c5⟩
          iterate 2 refine px_go hX ?_
          refine ⟨_, _, (hR4.1 100 _ hr4.1), rfl, ?_⟩
          iterate 3 refine px_go hX ?_
          refine ⟨_, _, hA8q, (vp_in_nI (by omega) (by omega)), ?_⟩
          rw [nI_clamp (n := b) (by omega)]
          iterate 2 refine px_go hX ?_
          refine ⟨_, _, ((px_up_n _ _ (hR.ne hr.1 (hr.2.1 8 (by decide) (by decide) (by decide)) (by decide))).trans (hR4.1 100 _ hr4.1)), rfl, ?_⟩
          iterate 3 refine px_go hX ?_
          refine ⟨_, _, ((px_up_n _ _ (hR.ne (hr.2.1 9 (by decide) (by decide) (by decide)) (hr.2.1 8 (by decide) (by decide) (by decide)) (by decide))).trans hA9q), (vp_in_nI (by omega) (by omega)), ?_⟩
          rw [nI_clamp (n := b) (by omega)]
          iterate 8 refine px_go hX ?_
          have hR5 := ((hR4.put (i := 108) (hr4.2.1 8 (by decide) (by decide) (by decide)) (px_i 4 (upd (rs_a ρ2 8) (b) (nI L)))).put (i := 109) ((rp_up_n _ _ (by decide)).trans (hr4.2.1 9 (by decide) (by decide) (by decide))) (px_i 4 (upd (rs_a ρ2 9) (b) ((0 : Int32)))))
          have hr5 : Rl ad (((ρ2.1, rs_sc ρ2, (va_up (va_up (va_up (rs_a ρ2) 7 (upd (rs_a ρ2 7) b 1)) 8 (upd (rs_a ρ2 8) b (nI L))) 9 (upd (rs_a ρ2 9) b 0)), rs_w ρ2) : rs_S)) (rp_up (rp_up (K4) (108) (px_i 4 (upd (rs_a ρ2 8) (b) (nI L)))) (109) (px_i 4 (upd (rs_a ρ2 9) (b) ((0 : Int32))))) := (hr4.sA (q := 8) (by decide) (by decide) (by decide) _).sA (q := 9) (by decide) (by decide) (by decide) _
          have hK5 : ∀ zz, zz < 100 ∨ 118 ≤ zz → (rp_up (rp_up (K4) (108) (px_i 4 (upd (rs_a ρ2 8) (b) (nI L)))) (109) (px_i 4 (upd (rs_a ρ2 9) (b) ((0 : Int32))))) zz = (K4) zz := fun zz hzz => by rw [rp_up_n _ _ (by omega), rp_up_n _ _ (by omega)]
          have loopb : ∀ kk j (F : Nat → Nat → Int32) (K6 : rp_K) (C6 : px_P), j + kk = L → (Rp ad K6 C6 ∧ Rl ad ((ρ2.1, rs_sc ρ2, F, rs_w ρ2) : rs_S) K6 ∧ (∀ zz, zz < 100 ∨ 118 ≤ zz → K6 zz = K zz) ∧ (∀ q, q ≠ 10 → q ≠ 11 → q ≠ 12 → F q = (va_up (va_up (va_up (rs_a ρ2) 7 (upd (rs_a ρ2 7) b 1)) 8 (upd (rs_a ρ2 8) b (nI L))) 9 (upd (rs_a ρ2 9) b 0)) q) ∧ (∀ p, (p < 40 * b ∨ 40 * b + 12 ≤ p) → F 10 p = rs_a ρ2 10 p ∧ F 11 p = rs_a ρ2 11 p ∧ F 12 p = rs_a ρ2 12 p) ∧ (∀ (j2 : Nat) (x : qE), j2 < j → Q[anc Q e j2]? = some x → F 10 (40 * b + (L - 1 - j2)) = nI (jn js (x.2.2 / 64)) ∧ F 11 (40 * b + (L - 1 - j2)) = nI (x.2.2 / 8 % 8) ∧ F 12 (40 * b + (L - 1 - j2)) = nI (x.2.2 % 8))) → X (101, [(0, .ref (ad 100)), (1, .int (nI b)), (2, .int (nI e)), (3, .int (nI L)), (4, .int (nI (40 * b + L - j))), (5, .int (nI (anc Q e j)))], [], C6, 0, 0) := by
            intro kk
            induction kk with
            | zero =>
              intro j F K6 C6 hi ⟨hR6, hr6, hK6, hF, hout, hfil⟩
              have hlt : j = L := hi
              have e14 : F 14 = rs_a ρ2 14 := (hF 14 (by omega) (by omega) (by omega)).trans (by rw [va_up_ne _ _ (by omega), va_up_ne _ _ (by omega), va_up_ne _ _ (by omega)])
              have e15 : F 15 = rs_a ρ2 15 := (hF 15 (by omega) (by omega) (by omega)).trans (by rw [va_up_ne _ _ (by omega), va_up_ne _ _ (by omega), va_up_ne _ _ (by omega)])
              have e17 : F 17 = rs_a ρ2 17 := (hF 17 (by omega) (by omega) (by omega)).trans (by rw [va_up_ne _ _ (by omega), va_up_ne _ _ (by omega), va_up_ne _ _ (by omega)])
              have hA10r : C6 (ad 110) = some (px_i 160 (F 10)) := hR6.1 110 _ (hr6.2.1 10 (by decide) (by decide) (by decide))
              have hA11r : C6 (ad 111) = some (px_i 160 (F 11)) := hR6.1 111 _ (hr6.2.1 11 (by decide) (by decide) (by decide))
              have hA12r : C6 (ad 112) = some (px_i 160 (F 12)) := hR6.1 112 _ (hr6.2.1 12 (by decide) (by decide) (by decide))
              have hA13r : C6 (ad 113) = some (px_j 2048 (rs_w ρ2)) := hR6.1 113 _ hr6.2.2
              have hA14r : C6 (ad 114) = some (px_i 2048 (F 14)) := hR6.1 114 _ (hr6.2.1 14 (by decide) (by decide) (by decide))
              have hA15r : C6 (ad 115) = some (px_i 2048 (F 15)) := hR6.1 115 _ (hr6.2.1 15 (by decide) (by decide) (by decide))
              have hA17r : C6 (ad 117) = some (px_i 4 (F 17)) := hR6.1 117 _ (hr6.2.1 17 (by decide) (by decide) (by decide))
              iterate 2 refine px_go hX ?_
              refine ⟨_, _, (hR6.1 100 _ hr6.1), rfl, ?_⟩
              iterate 2 refine px_go hX ?_
              refine ⟨_, _, hA14r, (vp_in_nI (by have := hLe j; omega) (by omega)), ?_⟩
              rw [nI_clamp (n := anc Q e j) (by have := hLe j; omega), e14, hlt, h14e]
              refine px_go hX ?_
              refine ⟨fun (c6 : (-1 : Int32) < 0) => ?_, fun (c6 : ¬ (-1 : Int32) < 0) => absurd (by decide) c6⟩
              iterate 2 refine px_go hX ?_
              refine ⟨_, ⟨K6, hR6, hr6, hK6⟩, hKd.2.1 0 (by omega), Or.inr ⟨e, L, hS2, rfl, fun L2 Y hT => ?_⟩⟩
              obtain ⟨rfl, hY, hYj⟩ := hTold b L2 Y hT
              refine ⟨rfl, ?_⟩
              rw [hlt] at hfil
              obtain ⟨p2, g2, a2, w2⟩ := ρ2
              have hp2 : p2 = σ.1 := hKd.1
              subst hp2
              have b7 : ∀ q, q ≤ 12 → a2 q = fa q := hKd.2.2
              refine Sim.pl hs1 hL12 (fun q hq _ => hKd.2.1 q hq) (fun q hq => ?_) ?_ ?_ ?_ (fun c i hcb hi => ?_) (fun i hi => ?_) (fun b2 hb2 => by rw [hY b2 hb2, hσ1.2])
              · rw [hF q (by omega) (by omega) (by omega), va_up_ne _ _ (by omega), va_up_ne _ _ (by omega), va_up_ne _ _ (by omega)]
                exact b7 q (by omega)
              · rw [hF 7 (by omega) (by omega) (by omega), va_up_ne _ _ (by omega), va_up_ne _ _ (by omega), va_up_self]
                exact congrArg (fun z => upd z b 1) (b7 7 (by omega))
              · rw [hF 8 (by omega) (by omega) (by omega), va_up_ne _ _ (by omega), va_up_self]
                exact congrArg (fun z => upd z b _) (b7 8 (by omega))
              · rw [hF 9 (by omega) (by omega) (by omega), va_up_self]
                exact congrArg (fun z => upd z b 0) (b7 9 (by omega))
              · obtain ⟨o1, o2, o3⟩ := hout (40 * c + i) (by omega)
                rw [o1, o2, o3]
                exact ⟨congrFun (b7 10 (by omega)) _, congrFun (b7 11 (by omega)) _, congrFun (b7 12 (by omega)) _⟩
              · obtain ⟨x, z, hxx, hzz, hpar, hmem⟩ := hst (L2 - 1 - i) (by omega)
                obtain ⟨hstk, hf7, ht5, h256, hsf⟩ := suc_stk hn4 hmem
                have hkl := stk_le (c := z.1) hn4 (x.2.2 / 8 % 8)
                have hstk : stk js.length z.1 (x.2.2 / 8 % 8) = x.2.2 / 64 + 1 := hstk
                obtain ⟨y0, y1, y2⟩ := hYj (L2 - 1 - i) x (by omega) hxx
                obtain ⟨f0, f1, f2⟩ := hfil (L2 - 1 - i) x (by omega) hxx
                rw [show L2 - 1 - (L2 - 1 - i) = i by omega] at y0 y1 y2 f0 f1 f2
                rw [y0, y1, y2, f0, f1, f2]
                refine ⟨?_, rfl, rfl⟩
                rw [show x.2.2 / 64 % 4 = x.2.2 / 64 by omega]
                exact (hAA _ _ (jn_some (by omega))).1.symm
            | succ kk ih =>
              intro j F K6 C6 hi ⟨hR6, hr6, hK6, hF, hout, hfil⟩
              have hlt : j < L := by omega
              have e14 : F 14 = rs_a ρ2 14 := (hF 14 (by omega) (by omega) (by omega)).trans (by rw [va_up_ne _ _ (by omega), va_up_ne _ _ (by omega), va_up_ne _ _ (by omega)])
              have e15 : F 15 = rs_a ρ2 15 := (hF 15 (by omega) (by omega) (by omega)).trans (by rw [va_up_ne _ _ (by omega), va_up_ne _ _ (by omega), va_up_ne _ _ (by omega)])
              have e17 : F 17 = rs_a ρ2 17 := (hF 17 (by omega) (by omega) (by omega)).trans (by rw [va_up_ne _ _ (by omega), va_up_ne _ _ (by omega), va_up_ne _ _ (by omega)])
              have hA10r : C6 (ad 110) = some (px_i 160 (F 10)) := hR6.1 110 _ (hr6.2.1 10 (by decide) (by decide) (by decide))
              have hA11r : C6 (ad 111) = some (px_i 160 (F 11)) := hR6.1 111 _ (hr6.2.1 11 (by decide) (by decide) (by decide))
              have hA12r : C6 (ad 112) = some (px_i 160 (F 12)) := hR6.1 112 _ (hr6.2.1 12 (by decide) (by decide) (by decide))
              have hA13r : C6 (ad 113) = some (px_j 2048 (rs_w ρ2)) := hR6.1 113 _ hr6.2.2
              have hA14r : C6 (ad 114) = some (px_i 2048 (F 14)) := hR6.1 114 _ (hr6.2.1 14 (by decide) (by decide) (by decide))
              have hA15r : C6 (ad 115) = some (px_i 2048 (F 15)) := hR6.1 115 _ (hr6.2.1 15 (by decide) (by decide) (by decide))
              have hA17r : C6 (ad 117) = some (px_i 4 (F 17)) := hR6.1 117 _ (hr6.2.1 17 (by decide) (by decide) (by decide))
              iterate 2 refine px_go hX ?_
              refine ⟨_, _, (hR6.1 100 _ hr6.1), rfl, ?_⟩
              iterate 2 refine px_go hX ?_
              refine ⟨_, _, hA14r, (vp_in_nI (by have := hLe j; omega) (by omega)), ?_⟩
              rw [nI_clamp (n := anc Q e j) (by have := hLe j; omega), e14, h14 j hlt]
              refine px_go hX ?_
              refine ⟨fun (c7 : nI (anc Q e (j + 1)) < 0) => absurd c7 (nI_pos (by have := hLe (j + 1); omega)), fun (c7 : ¬ nI (anc Q e (j + 1)) < 0) => ?_⟩
              obtain ⟨x, z, hxx, hzz, hpar, hmem⟩ := hst j hlt
              have h15 : rs_a ρ2 15 (anc Q e j) = nI (x.2.2 % 64) := (hH.2.2.1 _ x hxx).2.2
              have h13 : rs_w ρ2 (anc Q e (j + 1)) = lN (ew z.1 js.length) := (hH.2.2.1 _ z hzz).1
              have hzv : Vd js.length (cs_ti σ) z.1 := hσ1.1 ▸ hQv.2 z (List.mem_of_getElem? hzz)
              obtain ⟨hstk, hf7, ht5, h256, hsf⟩ := suc_stk hn4 hmem
              have hstk : stk js.length z.1 (x.2.2 / 8 % 8) = x.2.2 / 64 + 1 := hstk
              have hf7 : x.2.2 / 8 % 8 < 7 := hf7
              have hsf : x.2.2 % 64 / 8 = x.2.2 / 8 % 8 := hsf
              have hkl := stk_le (c := z.1) hn4 (x.2.2 / 8 % 8)
              have h17 : rs_a ρ2 17 (x.2.2 / 64) = nI (jn js (x.2.2 / 64)) := (hM2.2.2 _ (by omega)).1
              have hat : nI (40 * b + L - j) + px_ic (-1) = nI (40 * b + (L - 1 - j)) := by
                rw [show 40 * b + L - j = 40 * b + (L - 1 - j) + 1 by omega]
                exact pk_m1 _
              have hdv : nI (x.2.2 % 64) / (8 : Int32) = nI (x.2.2 / 8 % 8) := by
                rw [← hsf]
                exact pk_div (d := 8) (by omega) (by omega) (by omega)
              have hrm : nI (x.2.2 % 64) - nI (x.2.2 % 64) / (8 : Int32) * (8 : Int32) = nI (x.2.2 % 8) := by
                rw [show x.2.2 % 8 = x.2.2 % 64 % 8 by omega]
                exact pk_rem (d := 8) (by omega) (by omega) (by omega)
              iterate 3 refine px_go hX ?_
              refine ⟨_, _, (hR6.1 100 _ hr6.1), rfl, ?_⟩
              iterate 3 refine px_go hX ?_
              refine ⟨_, _, (hR6.1 100 _ hr6.1), rfl, ?_⟩
              iterate 2 refine px_go hX ?_
              refine ⟨_, _, hA15r, (vp_in_nI (by have := hLe j; omega) (by omega)), ?_⟩
              rw [nI_clamp (n := anc Q e j) (by have := hLe j; omega), e15, h15]
              iterate 2 refine px_go hX ?_
              refine ⟨by decide +kernel, ?_⟩
              refine px_go hX ?_
              refine ⟨_, _, hA11r, (by rw [hat]; exact vp_in_nI (by omega) (by omega)), ?_⟩
              rw [hat, nI_clamp (n := 40 * b + (L - 1 - j)) (by omega)]
              iterate 2 refine px_go hX ?_
              refine ⟨_, _, ((px_up_n _ _ (hR.ne hr.1 (hr.2.1 11 (by decide) (by decide) (by decide)) (by decide))).trans (hR6.1 100 _ hr6.1)), rfl, ?_⟩
              iterate 3 refine px_go hX ?_
              refine ⟨_, _, ((px_up_n _ _ (hR.ne hr.1 (hr.2.1 11 (by decide) (by decide) (by decide)) (by decide))).trans (hR6.1 100 _ hr6.1)), rfl, ?_⟩
              iterate 2 refine px_go hX ?_
              refine ⟨_, _, ((px_up_n _ _ (hR.ne (hr.2.1 15 (by decide) (by decide) (by decide)) (hr.2.1 11 (by decide) (by decide) (by decide)) (by decide))).trans hA15r), (vp_in_nI (by have := hLe j; omega) (by omega)), ?_⟩
              rw [nI_clamp (n := anc Q e j) (by have := hLe j; omega), e15, h15]
              iterate 2 refine px_go hX ?_
              refine ⟨by decide +kernel, ?_⟩
              refine px_go hX ?_
              refine ⟨_, _, ((px_up_n _ _ (hR.ne (hr.2.1 12 (by decide) (by decide) (by decide)) (hr.2.1 11 (by decide) (by decide) (by decide)) (by decide))).trans hA12r), (vp_in_nI (by omega) (by omega)), ?_⟩
              rw [nI_clamp (n := 40 * b + (L - 1 - j)) (by omega)]
              iterate 2 refine px_go hX ?_
              refine ⟨_, _, ((px_up_n _ _ (hR.ne hr.1 (hr.2.1 12 (by decide) (by decide) (by decide)) (by decide))).trans ((px_up_n _ _ (hR.ne hr.1 (hr.2.1 11 (by decide) (by decide) (by decide)) (by decide))).trans (hR6.1 100 _ hr6.1))), rfl, ?_⟩
              iterate 3 refine px_go hX ?_
              refine ⟨_, _, ((px_up_n _ _ (hR.ne hr.1 (hr.2.1 12 (by decide) (by decide) (by decide)) (by decide))).trans ((px_up_n _ _ (hR.ne hr.1 (hr.2.1 11 (by decide) (by decide) (by decide)) (by decide))).trans (hR6.1 100 _ hr6.1))), rfl, ?_⟩
              iterate 3 refine px_go hX ?_
              refine ⟨_, _, ((px_up_n _ _ (hR.ne hr.1 (hr.2.1 12 (by decide) (by decide) (by decide)) (by decide))).trans ((px_up_n _ _ (hR.ne hr.1 (hr.2.1 11 (by decide) (by decide) (by decide)) (by decide))).trans (hR6.1 100 _ hr6.1))), rfl, ?_⟩
              iterate 2 refine px_go hX ?_
              refine ⟨_, _, ((px_up_n _ _ (hR.ne hr.1 (hr.2.1 12 (by decide) (by decide) (by decide)) (by decide))).trans ((px_up_n _ _ (hR.ne hr.1 (hr.2.1 11 (by decide) (by decide) (by decide)) (by decide))).trans (hR6.1 100 _ hr6.1))), rfl, ?_⟩
              iterate 2 refine px_go hX ?_
              refine ⟨_, _, ((px_up_n _ _ (hR.ne (hr.2.1 14 (by decide) (by decide) (by decide)) (hr.2.1 12 (by decide) (by decide) (by decide)) (by decide))).trans ((px_up_n _ _ (hR.ne (hr.2.1 14 (by decide) (by decide) (by decide)) (hr.2.1 11 (by decide) (by decide) (by decide)) (by decide))).trans hA14r)), (vp_in_nI (by have := hLe j; omega) (by omega)), ?_⟩
              rw [nI_clamp (n := anc Q e j) (by have := hLe j; omega), e14, h14 j hlt]
              refine px_go hX ?_
              refine ⟨_, _, ((px_up_n _ _ (hR.ne hr.2.2 (hr.2.1 12 (by decide) (by decide) (by decide)) (by decide))).trans ((px_up_n _ _ (hR.ne hr.2.2 (hr.2.1 11 (by decide) (by decide) (by decide)) (by decide))).trans hA13r)), (vp_in_nI (by have := hLe (j + 1); omega) (by omega)), ?_⟩
              rw [nI_clamp (n := anc Q e (j + 1)) (by have := hLe (j + 1); omega), h13]
              iterate 2 refine px_go hX ?_
              refine ⟨_, _, ((px_up_n _ _ (hR.ne hr.1 (hr.2.1 12 (by decide) (by decide) (by decide)) (by decide))).trans ((px_up_n _ _ (hR.ne hr.1 (hr.2.1 11 (by decide) (by decide) (by decide)) (by decide))).trans (hR6.1 100 _ hr6.1))), rfl, ?_⟩
              iterate 2 refine px_go hX ?_
              refine ⟨_, _, ((px_up_n _ _ (hR.ne (hr.2.1 15 (by decide) (by decide) (by decide)) (hr.2.1 12 (by decide) (by decide) (by decide)) (by decide))).trans ((px_up_n _ _ (hR.ne (hr.2.1 15 (by decide) (by decide) (by decide)) (hr.2.1 11 (by decide) (by decide) (by decide)) (by decide))).trans hA15r)), (vp_in_nI (by have := hLe j; omega) (by omega)), ?_⟩
              rw [nI_clamp (n := anc Q e j) (by have := hLe j; omega), e15, h15]
              iterate 2 refine px_go hX ?_
              refine ⟨by decide +kernel, ?_⟩
              have hR7 := ((hR6.put (i := 111) (hr6.2.1 11 (by decide) (by decide) (by decide)) (px_i 160 (upd (F 11) (40 * b + (L - 1 - j)) ((nI (x.2.2 % 64)) / ((8 : Int32)))))).put (i := 112) ((rp_up_n _ _ (by decide)).trans (hr6.2.1 12 (by decide) (by decide) (by decide))) (px_i 160 (upd (F 12) (40 * b + (L - 1 - j)) ((nI (x.2.2 % 64)) - (nI (x.2.2 % 64)) / ((8 : Int32)) * ((8 : Int32))))))
              have hr7 : Rl ad (((ρ2.1, rs_sc ρ2, va_up (va_up F 11 (upd (F 11) (40 * b + (L - 1 - j)) ((nI (x.2.2 % 64)) / ((8 : Int32))))) 12 (upd (F 12) (40 * b + (L - 1 - j)) ((nI (x.2.2 % 64)) - (nI (x.2.2 % 64)) / ((8 : Int32)) * ((8 : Int32)))), rs_w ρ2) : rs_S)) (rp_up (rp_up (K6) (111) (px_i 160 (upd (F 11) (40 * b + (L - 1 - j)) ((nI (x.2.2 % 64)) / ((8 : Int32)))))) (112) (px_i 160 (upd (F 12) (40 * b + (L - 1 - j)) ((nI (x.2.2 % 64)) - (nI (x.2.2 % 64)) / ((8 : Int32)) * ((8 : Int32)))))) := (hr6.sA (q := 11) (by decide) (by decide) (by decide) _).sA (q := 12) (by decide) (by decide) (by decide) _
              have hK7 : ∀ zz, zz < 100 ∨ 118 ≤ zz → (rp_up (rp_up (K6) (111) (px_i 160 (upd (F 11) (40 * b + (L - 1 - j)) ((nI (x.2.2 % 64)) / ((8 : Int32)))))) (112) (px_i 160 (upd (F 12) (40 * b + (L - 1 - j)) ((nI (x.2.2 % 64)) - (nI (x.2.2 % 64)) / ((8 : Int32)) * ((8 : Int32)))))) zz = (K6) zz := fun zz hzz => by rw [rp_up_n _ _ (by omega), rp_up_n _ _ (by omega)]
              have hM7 : Mn σ ((ρ2.1, rs_sc ρ2, va_up (va_up F 11 (upd (F 11) (40 * b + (L - 1 - j)) ((nI (x.2.2 % 64)) / ((8 : Int32))))) 12 (upd (F 12) (40 * b + (L - 1 - j)) ((nI (x.2.2 % 64)) - (nI (x.2.2 % 64)) / ((8 : Int32)) * ((8 : Int32)))), rs_w ρ2) : rs_S) js.length (jn js) := ⟨hM2.1, hM2.2.1, fun k hk => ⟨by show (va_up (va_up F 11 (upd (F 11) (40 * b + (L - 1 - j)) ((nI (x.2.2 % 64)) / ((8 : Int32))))) 12 (upd (F 12) (40 * b + (L - 1 - j)) ((nI (x.2.2 % 64)) - (nI (x.2.2 % 64)) / ((8 : Int32)) * ((8 : Int32))))) 17 k = _; rw [va_up_ne _ _ (by omega), va_up_ne _ _ (by omega), e17]; exact (hM2.2.2 k hk).1, (hM2.2.2 k hk).2⟩⟩
              refine px_go hX ?_
              refine ⟨_, ((px_up_n _ _ (hR.ne hr.1 (hr.2.1 12 (by decide) (by decide) (by decide)) (by decide))).trans ((px_up_n _ _ (hR.ne hr.1 (hr.2.1 11 (by decide) (by decide) (by decide)) (by decide))).trans (hR6.1 100 _ hr6.1))), 0, 0, _, Nat.le_of_ble_eq_true rfl, Nat.le_of_ble_eq_true rfl, Nat.le_of_ble_eq_true rfl, rr_taken1 (σ := σ) (W := ew z.1 js.length) (f := x.2.2 / 8 % 8) (k := x.2.2 / 64) hR7 hr7 ⟨⟨hKd.1, trivial⟩, trivial⟩ hM7 (Nat.lt_trans (hzv.lt hn4) (by omega)) hf7 hti (by rw [hzv.tk hn4 hti hf7]; exact hstk) rfl hdv, ?_⟩
              rintro _ C ⟨rfl, rfl⟩
              refine px_go hX ?_
              refine ⟨_, _, ((px_up_n _ _ (hR.ne (hr.2.1 17 (by decide) (by decide) (by decide)) (hr.2.1 12 (by decide) (by decide) (by decide)) (by decide))).trans ((px_up_n _ _ (hR.ne (hr.2.1 17 (by decide) (by decide) (by decide)) (hr.2.1 11 (by decide) (by decide) (by decide)) (by decide))).trans hA17r)), (vp_in_nI (by omega) (by omega)), ?_⟩
              rw [nI_clamp (n := x.2.2 / 64) (by omega), e17, h17]
              refine px_go hX ?_
              refine ⟨_, _, ((px_up_n _ _ (hR.ne (hr.2.1 10 (by decide) (by decide) (by decide)) (hr.2.1 12 (by decide) (by decide) (by decide)) (by decide))).trans ((px_up_n _ _ (hR.ne (hr.2.1 10 (by decide) (by decide) (by decide)) (hr.2.1 11 (by decide) (by decide) (by decide)) (by decide))).trans hA10r)), (vp_in_nI (by omega) (by omega)), ?_⟩
              rw [nI_clamp (n := 40 * b + (L - 1 - j)) (by omega)]
              iterate 2 refine px_go hX ?_
              refine ⟨_, _, ((px_up_n _ _ (hR.ne hr.1 (hr.2.1 10 (by decide) (by decide) (by decide)) (by decide))).trans ((px_up_n _ _ (hR.ne hr.1 (hr.2.1 12 (by decide) (by decide) (by decide)) (by decide))).trans ((px_up_n _ _ (hR.ne hr.1 (hr.2.1 11 (by decide) (by decide) (by decide)) (by decide))).trans (hR6.1 100 _ hr6.1)))), rfl, ?_⟩
              iterate 2 refine px_go hX ?_
              refine ⟨_, _, ((px_up_n _ _ (hR.ne (hr.2.1 14 (by decide) (by decide) (by decide)) (hr.2.1 10 (by decide) (by decide) (by decide)) (by decide))).trans ((px_up_n _ _ (hR.ne (hr.2.1 14 (by decide) (by decide) (by decide)) (hr.2.1 12 (by decide) (by decide) (by decide)) (by decide))).trans ((px_up_n _ _ (hR.ne (hr.2.1 14 (by decide) (by decide) (by decide)) (hr.2.1 11 (by decide) (by decide) (by decide)) (by decide))).trans hA14r))), (vp_in_nI (by have := hLe j; omega) (by omega)), ?_⟩
              rw [nI_clamp (n := anc Q e j) (by have := hLe j; omega), e14, h14 j hlt]
              iterate 2 refine px_go hX ?_
              have hR8 := (((hR6.put (i := 111) (hr6.2.1 11 (by decide) (by decide) (by decide)) (px_i 160 (upd (F 11) (40 * b + (L - 1 - j)) ((nI (x.2.2 % 64)) / ((8 : Int32)))))).put (i := 112) ((rp_up_n _ _ (by decide)).trans (hr6.2.1 12 (by decide) (by decide) (by decide))) (px_i 160 (upd (F 12) (40 * b + (L - 1 - j)) ((nI (x.2.2 % 64)) - (nI (x.2.2 % 64)) / ((8 : Int32)) * ((8 : Int32)))))).put (i := 110) ((rp_up_n _ _ (by decide)).trans ((rp_up_n _ _ (by decide)).trans (hr6.2.1 10 (by decide) (by decide) (by decide)))) (px_i 160 (upd (F 10) (40 * b + (L - 1 - j)) (nI (jn js (x.2.2 / 64))))))
              have hr8 : Rl ad (((ρ2.1, rs_sc ρ2, va_up (va_up (va_up F 11 (upd (F 11) (40 * b + (L - 1 - j)) ((nI (x.2.2 % 64)) / ((8 : Int32))))) 12 (upd (F 12) (40 * b + (L - 1 - j)) ((nI (x.2.2 % 64)) - (nI (x.2.2 % 64)) / ((8 : Int32)) * ((8 : Int32))))) 10 (upd (F 10) (40 * b + (L - 1 - j)) (nI (jn js (x.2.2 / 64)))), rs_w ρ2) : rs_S)) (rp_up (rp_up (rp_up (K6) (111) (px_i 160 (upd (F 11) (40 * b + (L - 1 - j)) ((nI (x.2.2 % 64)) / ((8 : Int32)))))) (112) (px_i 160 (upd (F 12) (40 * b + (L - 1 - j)) ((nI (x.2.2 % 64)) - (nI (x.2.2 % 64)) / ((8 : Int32)) * ((8 : Int32)))))) (110) (px_i 160 (upd (F 10) (40 * b + (L - 1 - j)) (nI (jn js (x.2.2 / 64)))))) := ((hr6.sA (q := 11) (by decide) (by decide) (by decide) _).sA (q := 12) (by decide) (by decide) (by decide) _).sA (q := 10) (by decide) (by decide) (by decide) _
              have hK8 : ∀ zz, zz < 100 ∨ 118 ≤ zz → (rp_up (rp_up (rp_up (K6) (111) (px_i 160 (upd (F 11) (40 * b + (L - 1 - j)) ((nI (x.2.2 % 64)) / ((8 : Int32)))))) (112) (px_i 160 (upd (F 12) (40 * b + (L - 1 - j)) ((nI (x.2.2 % 64)) - (nI (x.2.2 % 64)) / ((8 : Int32)) * ((8 : Int32)))))) (110) (px_i 160 (upd (F 10) (40 * b + (L - 1 - j)) (nI (jn js (x.2.2 / 64)))))) zz = (K6) zz := fun zz hzz => by rw [rp_up_n _ _ (by omega), rp_up_n _ _ (by omega), rp_up_n _ _ (by omega)]
              have g10 : (va_up (va_up (va_up F 11 (upd (F 11) (40 * b + (L - 1 - j)) ((nI (x.2.2 % 64)) / ((8 : Int32))))) 12 (upd (F 12) (40 * b + (L - 1 - j)) ((nI (x.2.2 % 64)) - (nI (x.2.2 % 64)) / ((8 : Int32)) * ((8 : Int32))))) 10 (upd (F 10) (40 * b + (L - 1 - j)) (nI (jn js (x.2.2 / 64))))) 10 = upd (F 10) (40 * b + (L - 1 - j)) (nI (jn js (x.2.2 / 64))) := va_up_self _ _ _
              have g11 : (va_up (va_up (va_up F 11 (upd (F 11) (40 * b + (L - 1 - j)) ((nI (x.2.2 % 64)) / ((8 : Int32))))) 12 (upd (F 12) (40 * b + (L - 1 - j)) ((nI (x.2.2 % 64)) - (nI (x.2.2 % 64)) / ((8 : Int32)) * ((8 : Int32))))) 10 (upd (F 10) (40 * b + (L - 1 - j)) (nI (jn js (x.2.2 / 64))))) 11 = upd (F 11) (40 * b + (L - 1 - j)) (nI (x.2.2 / 8 % 8)) := by rw [va_up_ne _ _ (by omega), va_up_ne _ _ (by omega), va_up_self, hdv]
              have g12 : (va_up (va_up (va_up F 11 (upd (F 11) (40 * b + (L - 1 - j)) ((nI (x.2.2 % 64)) / ((8 : Int32))))) 12 (upd (F 12) (40 * b + (L - 1 - j)) ((nI (x.2.2 % 64)) - (nI (x.2.2 % 64)) / ((8 : Int32)) * ((8 : Int32))))) 10 (upd (F 10) (40 * b + (L - 1 - j)) (nI (jn js (x.2.2 / 64))))) 12 = upd (F 12) (40 * b + (L - 1 - j)) (nI (x.2.2 % 8)) := by rw [va_up_ne _ _ (by omega), va_up_self, hrm]
              exact px_lw hw [(0, .ref (ad 100)), (1, .int (nI b)), (2, .int (nI e)), (3, .int (nI L)), (4, .int (nI (40 * b + L - (j + 1)))), (5, .int (nI (anc Q e (j + 1))))] (ih (j + 1) _ _ _ (by omega) ⟨hR8, hr8, fun zz hz => (hK8 zz hz).trans (hK6 zz hz), fun q a1 a2 a3 => (by rw [va_up_ne _ _ a1, va_up_ne _ _ a3, va_up_ne _ _ a2]; exact hF q a1 a2 a3), fun p hp => by
                      rw [g10, g11, g12, pk_un (by omega), pk_un (by omega), pk_un (by omega)]
                      exact hout p hp, fun j2 x2 hj2 hx2 => by
                      rw [g10, g11, g12]
                      rcases Nat.lt_or_ge j2 j with q | q
                      · rw [pk_un (by omega), pk_un (by omega), pk_un (by omega)]
                        exact hfil j2 x2 q hx2
                      · obtain rfl : j2 = j := by omega
                        rw [hxx] at hx2
                        cases hx2
                        rw [pk_us, pk_us, pk_us]
                        exact ⟨rfl, rfl, rfl⟩⟩) ⟨rfl, rfl, rfl, rfl, (congrArg (fun z => some (Value.int (nI z))) (by omega)), rfl, trivial⟩
          exact px_lw hw [(0, .ref (ad 100)), (1, .int (nI b)), (2, .int (nI e)), (3, .int (nI L)), (4, .int (nI (40 * b + L - 0))), (5, .int (nI (anc Q e 0)))] (loopb (L - 0) 0 _ _ _ (by omega) ⟨hR5, hr5, fun zz hz => (hK5 zz hz).trans (hK4 zz hz), fun _ _ _ _ => rfl, fun p hp => by rw [va_up_ne _ _ (by omega), va_up_ne _ _ (by omega), va_up_ne _ _ (by omega), va_up_ne _ _ (by omega), va_up_ne _ _ (by omega), va_up_ne _ _ (by omega), va_up_ne _ _ (by omega), va_up_ne _ _ (by omega), va_up_ne _ _ (by omega)]; exact ⟨rfl, rfl, rfl⟩, fun j2 x hj2 => absurd hj2 (Nat.not_lt_zero j2)⟩) ⟨rfl, rfl, rfl, rfl, (congrArg (fun z => some (Value.int z)) (by rw [Nat.sub_zero]; exact ie_40 b L)), rfl, trivial⟩
        | succ kk ih =>
          intro j K4 C4 hi ⟨hR4, hr4, hK4⟩
          have hlt : j < L := by omega
          have hA8q : C4 (ad 108) = some (px_i 4 (rs_a ρ2 8)) := hR4.1 108 _ (hr4.2.1 8 (by decide) (by decide) (by decide))
          have hA9q : C4 (ad 109) = some (px_i 4 (rs_a ρ2 9)) := hR4.1 109 _ (hr4.2.1 9 (by decide) (by decide) (by decide))
          have hA14q : C4 (ad 114) = some (px_i 2048 (rs_a ρ2 14)) := hR4.1 114 _ (hr4.2.1 14 (by decide) (by decide) (by decide))
          iterate 2 refine px_go hX ?_
          refine ⟨_, _, (hR4.1 100 _ hr4.1), rfl, ?_⟩
          iterate 2 refine px_go hX ?_
          refine ⟨_, _, hA14q, (vp_in_nI (by have := hLe j; omega) (by omega)), ?_⟩
          rw [nI_clamp (n := anc Q e j) (by have := hLe j; omega), h14 j hlt]
          refine px_go hX ?_
          refine ⟨fun (c8 : nI (anc Q e (j + 1)) < 0) => absurd c8 (nI_pos (by have := hLe (j + 1); omega)), fun (c8 : ¬ nI (anc Q e (j + 1)) < 0) => ?_⟩
          iterate 3 refine px_go hX ?_
          refine ⟨_, _, (hR4.1 100 _ hr4.1), rfl, ?_⟩
          iterate 2 refine px_go hX ?_
          refine ⟨_, _, hA14q, (vp_in_nI (by have := hLe j; omega) (by omega)), ?_⟩
          rw [nI_clamp (n := anc Q e j) (by have := hLe j; omega), h14 j hlt]
          iterate 2 refine px_go hX ?_
          exact px_lw hw [(0, .ref (ad 100)), (1, .int (nI b)), (2, .int (nI e)), (3, .int (nI (j + 1))), (4, .int (nI (anc Q e (j + 1))))] (ih (j + 1) _ _ (by omega) ⟨hR4, hr4, hK4⟩) ⟨rfl, rfl, rfl, (congrArg (fun z => some (Value.int z)) (nI_succ _).symm), rfl, trivial⟩
      exact px_lw hw [(0, .ref (ad 100)), (1, .int (nI b)), (2, .int (nI e)), (3, .int (nI 0)), (4, .int (nI (anc Q e 0)))] (loop (L - 0) 0 _ _ (by omega) ⟨hR3, hr3, fun zz hz => (hK3 zz hz).trans ((hK2 zz hz).trans (hK1 zz hz))⟩) ⟨rfl, rfl, rfl, rfl, rfl, trivial⟩
    · have hA7p : C (ad 107) = some (px_z 4 (rs_a ρ2 7)) := hR2.1 107 _ (hr2.2.1 7 (by decide) (by decide) (by decide))
      iterate 3 refine px_go hX ?_
      refine ⟨_, _, (hR2.1 100 _ hr2.1), rfl, ?_⟩
      iterate 3 refine px_go hX ?_
      refine ⟨fun (c9 : (-1 : Int32) < 0) => ?_, fun (c9 : ¬ (-1 : Int32) < 0) => absurd (by decide) c9⟩
      iterate 2 refine px_go hX ?_
      refine ⟨_, _, hA7p, (vp_in_nI (by omega) (by omega)), ?_⟩
      rw [nI_clamp (n := b) (by omega)]
      iterate 2 refine px_go hX ?_
      refine ⟨fun (c10 : 0 ≤ (-1 : Int32)) => absurd c10 (by decide), fun (c10 : ¬ 0 ≤ (-1 : Int32)) => ?_⟩
      iterate 2 refine px_go hX ?_
      have hR3 := (hR2.put (i := 107) (hr2.2.1 7 (by decide) (by decide) (by decide)) (px_z 4 (upd (rs_a ρ2 7) (b) (0))))
      have hr3 : Rl ad (rs_sA ρ2 7 (upd (rs_a ρ2 7) b 0)) (rp_up (K2) (107) (px_z 4 (upd (rs_a ρ2 7) (b) (0)))) := hr2.sA (q := 7) (by decide) (by decide) (by decide) _
      have hK3 : ∀ zz, zz < 100 ∨ 118 ≤ zz → (rp_up (K2) (107) (px_z 4 (upd (rs_a ρ2 7) (b) (0)))) zz = (K2) zz := fun zz hzz => by rw [rp_up_n _ _ (by omega)]
      have hS0 : (cs_F σ1 js.length c0).2 = 0 := by
        rw [← hσ1.1] at hno hc0 hti
        exact (cs_Rq hn4 hti hc0).non hno
      refine ⟨_, ⟨_, hR3, hr3, fun zz hz => (hK3 zz hz).trans ((hK2 zz hz).trans (hK1 zz hz))⟩, hKd.2.1 0 (by omega), Or.inl ⟨hS0, rfl, ?_⟩⟩
      obtain ⟨p2, g2, a2, w2⟩ := ρ2
      have hp2 : p2 = σ.1 := hKd.1
      subst hp2
      exact Sim.np hs1 (fun q hq _ => hKd.2.1 q hq) ((va_up_self _ _ _).trans (congrArg (fun z => upd z b 0) (hKd.2.2 7 (by omega)))) (fun q hq h7 => (va_up_ne _ _ h7).trans (hKd.2.2 q hq))
  · exact absurd ⟨nI_pos (by omega), nI_ge hb (by omega)⟩ b1
end SQ
