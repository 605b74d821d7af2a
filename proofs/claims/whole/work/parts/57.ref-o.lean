/-! The reference's search. -/
theorem sml_mem {n t c : Nat} {ml : Nat → Bool} (hn : n ≤ 4) : ∀ p, p ≤ 35 → ∀ y ∈ sml n t c ml p, y ∈ suc n t ml c
  | 0, _, y, hy => by cases hy
  | p + 1, hp, y, hy => by
    rcases List.mem_append.mp (show y ∈ sml n t c ml p ++ smv n t c (p / 5) (p % 5) ml from hy) with q | q
    · exact sml_mem hn p (by omega) y q
    · exact smv_mem hn (by omega) (by omega) q
theorem sml_s {n t c : Nat} {ml : Nat → Bool} {f to : Nat} (hto : to < 5) : sml n t c ml (5 * f + (to + 1)) = sml n t c ml (5 * f + to) ++ smv n t c f to ml := by
  show sml n t c ml (5 * f + to) ++ smv n t c ((5 * f + to) / 5) ((5 * f + to) % 5) ml = _
  rw [show (5 * f + to) / 5 = f by omega, show (5 * f + to) % 5 = to by omega]
/-- behind the search: boxes, bays and needs are the same -/
def Kd (ρ ρ' : rs_S) : Prop := ρ'.1 = ρ.1 ∧ (∀ q, q < 3 → rs_sc ρ' q = rs_sc ρ q) ∧ (∀ q, q ≤ 12 → rs_a ρ' q = rs_a ρ q)
theorem ie_8 (f t k : Nat) (ht : t < 5) (hf : f < 7) : (8 : Int32) * nI f + nI t = nI ((64 * k + 8 * f + t) % 64) := by
  rw [show (8 : Int32) * nI f = nI (8 * f) from pk_mul 8 f, nI_add, show (64 * k + 8 * f + t) % 64 = 8 * f + t by omega]
section SO
variable {B : Nat} {sc : Option (Nat × Nat × (Nat → Int32))} {d : Nat} {ad : Nat → Nat} {σ : ck_S} {ρ : rs_S} {K : rp_K} {C : px_P}
theorem rr_comes2 (hR : Rp ad K C) (hr : Rl ad ρ K) {n : Nat} {Q : List qE} (hH : Hq n ρ Q) {c p s : Nat} (hl : Q.length < 1240 ∨ c ∈ qc Q) (hinj : ∀ x ∈ Q, ew x.1 n = ew c n → x.1 = c) (hwb : ∀ x ∈ Q, ew x.1 n < 2 ^ 44) (hwc : ew c n < 2 ^ 44) {w : Int64} (hw : w = lN (ew c n)) {xa xb : Int32} (hxa : xa = nI p - 1) (hxb : xb = nI (s % 64)) : px_W ps_Y ps_P B sc (d + 1) 69 [.ref (ad 100), .long w, .int xa, .int xb] C 0 0 (fun v C' => v = none ∧ ∃ ρ', Cr ad ρ' K C' ∧ Kc ρ ρ' ∧ Hq n ρ' (ad1 Q (c, p, s))) px_no := by
  subst hw
  exact rr_comes hR hr hH hl hinj hwb hwc hxa hxb
theorem rr_search (hR : Rp ad K C) (hr : Rl ad ρ K) (hs : Sim σ ρ) (hn : cs_n σ ≤ 16) (hrg : cs_rg σ) (hb4 : ∀ x, pn_ct (fun j => decide (cs_bf σ j 1 = x ∧ ¬ cs_bf σ j 2 = 3)) (cs_n σ) ≤ 4) (hti : cs_ti σ ≤ 4) {x : Int32} {js : List Nat} (hjs : js = bjs σ x (cs_n σ)) (hn4 : js.length ≤ 4) {c0 : Nat} (hc0 : Vd js.length (cs_ti σ) c0) (hw0 : wjs σ js = ew c0 js.length) {mg : Nat → Nat → Bool} (hmg : ∀ c, Vd js.length (cs_ti σ) c → ∀ k, k < js.length → (mg c k = true ↔ rml σ js.length (jn js) (ew c js.length) k)) {ep : Nat → Bool} (hep : ∀ c, Vd js.length (cs_ti σ) c → (ep c = true ↔ ∀ k, k < js.length → (¬ rsd (ew c js.length) k = true ∧ (¬ cs_bf σ (jn js k) 0 = 0 ∨ rod (ew c js.length) k = true)))) : px_W ps_Y ps_P B sc (d + 5) 78 [.ref (ad 100), .int x] C 0 0 (fun v C' => ∃ ρ', Cr ad ρ' K C' ∧ Kd ρ ρ' ∧ Mn σ ρ' js.length (jn js) ∧ ((∃ (e : Nat) (y : qE), v = some (.int (nI e)) ∧ e < 1240 ∧ (fq (fun c => suc js.length (cs_ti σ) (mg c) c) c0 e)[e]? = some y ∧ ep y.1 = true ∧ (∀ (i : Nat) (z : qE), i < e → (fq (fun c => suc js.length (cs_ti σ) (mg c) c) c0 e)[i]? = some z → ep z.1 = false) ∧ Hq js.length ρ' (fq (fun c => suc js.length (cs_ti σ) (mg c) c) c0 e)) ∨ (v = some (.int (-1)) ∧ ∀ x ∈ (fq (fun c => suc js.length (cs_ti σ) (mg c) c) c0 1240), ep x.1 = false))) px_no := by
  obtain ⟨p, fs, fa, fw⟩ := ρ
  obtain rfl : p = σ.1 := hs.1.1
  have hA16 : C (ad 116) = some (px_i 4096 (fa 16)) := hR.1 116 _ (hr.2.1 16 (by decide) (by decide) (by decide))
  have hVsc : ∀ c, Vd js.length (cs_ti σ) c → ∀ y ∈ suc js.length (cs_ti σ) (mg c) c, Vd js.length (cs_ti σ) y.1 := fun c hc y hy => hc.nx hn4 hti hy
  refine ⟨pm_Ref_search, rfl, Nat.le_of_ble_eq_true rfl, fun X hw hX => ?_⟩
  have loop : ∀ kka ia (F : Nat → Nat → Int32) (K1 : rp_K) (C1 : px_P), ia + kka = 4096 → (Rp ad K1 C1 ∧ Rl ad ((σ.1, fs, F, fw) : rs_S) K1 ∧ (∀ zz, zz < 100 ∨ 118 ≤ zz → K1 zz = K zz) ∧ (∀ q, q ≠ 16 → F q = fa q) ∧ ∀ s, s < ia → F 16 s = 0) → X (2, [(0, .ref (ad 100)), (1, .int (x)), (2, .int (nI ia))], [], C1, 0, 0) := by
    intro kka
    induction kka with
    | zero =>
      intro ia F K1 C1 hia ⟨hR1, hr1, hK1, hF, hz⟩
      have hlta : ia = 4096 := hia
      have hA16x : C1 (ad 116) = some (px_i 4096 (F 16)) := hR1.1 116 _ (hr1.2.1 16 (by decide) (by decide) (by decide))
      iterate 3 refine px_go hX ?_
      refine ⟨fun (c1 : (4096 : Int32) ≤ nI ia) => ?_, fun (c1 : ¬ (4096 : Int32) ≤ nI ia) => absurd (by rw [hlta]; exact Int32.le_refl _) c1⟩
      iterate 3 refine px_go hX ?_
      refine ⟨_, (hR1.1 100 _ hr1.1), Nat.le_of_ble_eq_true rfl, rfl, rfl, ?_⟩
      have hR3 := (hR1.put (i := 100) hr1.1 (px_o 4 [.int (fs 0), .int (nI (cs_nb σ)), .int (nI (cs_ti σ)), .int (nI (cs_n σ)), .ref (ad 101), .ref (ad 102), .ref (ad 103), .ref (ad 104), .ref (ad 105), .ref (ad 106), .int (fs 1), .int (fs 2), .ref (ad 107), .ref (ad 108), .ref (ad 109), .ref (ad 110), .ref (ad 111), .ref (ad 112), .ref (ad 113), .ref (ad 114), .ref (ad 115), .int ((0 : Int32)), .ref (ad 116), .ref (ad 117), .int (fs 4)]))
      have hr3 : Rl ad (((σ.1, (fun q => match q with | 0 => fs 0 | 1 => fs 1 | 2 => fs 2 | 3 => 0 | _ => fs 4), F, fw) : rs_S)) (rp_up (K1) (100) (px_o 4 [.int (fs 0), .int (nI (cs_nb σ)), .int (nI (cs_ti σ)), .int (nI (cs_n σ)), .ref (ad 101), .ref (ad 102), .ref (ad 103), .ref (ad 104), .ref (ad 105), .ref (ad 106), .int (fs 1), .int (fs 2), .ref (ad 107), .ref (ad 108), .ref (ad 109), .ref (ad 110), .ref (ad 111), .ref (ad 112), .ref (ad 113), .ref (ad 114), .ref (ad 115), .int ((0 : Int32)), .ref (ad 116), .ref (ad 117), .int (fs 4)])) := hr1.sO _ (fun q => match q with | 0 => fs 0 | 1 => fs 1 | 2 => fs 2 | 3 => 0 | _ => fs 4)
      have hK3 : ∀ zz, zz < 100 ∨ 118 ≤ zz → (rp_up (K1) (100) (px_o 4 [.int (fs 0), .int (nI (cs_nb σ)), .int (nI (cs_ti σ)), .int (nI (cs_n σ)), .ref (ad 101), .ref (ad 102), .ref (ad 103), .ref (ad 104), .ref (ad 105), .ref (ad 106), .int (fs 1), .int (fs 2), .ref (ad 107), .ref (ad 108), .ref (ad 109), .ref (ad 110), .ref (ad 111), .ref (ad 112), .ref (ad 113), .ref (ad 114), .ref (ad 115), .int ((0 : Int32)), .ref (ad 116), .ref (ad 117), .int (fs 4)])) zz = (K1) zz := fun zz hzz => by rw [rp_up_n _ _ (by omega)]
      have hs3 : Sim σ ((σ.1, (fun q => match q with | 0 => fs 0 | 1 => fs 1 | 2 => fs 2 | 3 => 0 | _ => fs 4), F, fw) : rs_S) := hs.kp (fun q hq => by match q, hq with | 0, _ => rfl | 1, _ => rfl | 2, _ => rfl) (fun q hq => hF q (by omega))
      iterate 4 refine px_go hX ?_
      refine ⟨_, (px_up_s _ _ _), 0, 0, _, Nat.le_of_ble_eq_true rfl, Nat.le_of_ble_eq_true rfl, Nat.le_of_ble_eq_true rfl, rr_begins hR3 hr3 hs3 hn hrg hb4 _, ?_⟩
      rintro _ C ⟨ρ2, ⟨K2, hR2, hr2, hK2⟩, hKb, hM2, rfl⟩
      rw [← hjs] at hM2
      have hs2 : Sim σ ρ2 := by
        obtain ⟨p2, g2, a2, w2⟩ := ρ2
        obtain ⟨k1, k2, k3, k4⟩ := hKb
        have k1 : p2 = σ.1 := k1
        subst k1
        exact hs3.kp (fun q hq => k2 q (by omega)) (fun q hq => k3 q (by omega))
      have hH0 : Hq js.length ρ2 [] := by
        have e16 : ∀ s, s < 4096 → rs_a ρ2 16 s = 0 := fun s hs4 => by
          rw [hKb.2.2.1 16 (by omega)]
          exact hz s (by omega)
        refine ⟨hKb.2.1 3 (by omega), Nat.zero_le _, fun i x hx => by simp at hx, fun s hs4 => ⟨0, Nat.le_refl 0, e16 s hs4⟩, ?_, fun i x hx => by simp at hx⟩
        have key : ∀ n, n ≤ 4096 → pn_ct (fun s => !decide (rs_a ρ2 16 s = 0)) n = 0 := fun n => by
          induction n with
          | zero => intro _; rfl
          | succ n ih =>
            intro hn2
            rw [pn_ct_f (by simp [e16 n (by omega)])]
            exact ih (by omega)
        exact key 4096 (Nat.le_refl _)
      iterate 3 refine px_go hX ?_
      refine ⟨_, (hR2.1 100 _ hr2.1), 0, 0, _, Nat.le_of_ble_eq_true rfl, Nat.le_of_ble_eq_true rfl, Nat.le_of_ble_eq_true rfl, rr_comes2 (n := js.length) (Q := []) (c := c0) (p := 0) (s := 0) hR2 hr2 hH0 (Or.inl (by show 0 < 1240; omega)) (fun x hx => by cases hx) (fun x hx => by cases hx) (hc0.lt hn4) (by rw [← hjs, hw0]) rfl rfl, ?_⟩
      rintro _ C ⟨rfl, ρ4, ⟨K4, hR4, hr4, hK4⟩, hKc4, hH4⟩
      iterate 2 refine px_go hX ?_
      have loop2 : ∀ kkq i (ρ5 : rs_S) (K5 : rp_K) (C5 : px_P), i + kkq = 1241 → (Rp ad K5 C5 ∧ Rl ad ρ5 K5 ∧ (∀ zz, zz < 100 ∨ 118 ≤ zz → K5 zz = K zz) ∧ Kc ρ2 ρ5 ∧ Hq js.length ρ5 (fq (fun c => suc js.length (cs_ti σ) (mg c) c) c0 i) ∧ ∀ (i2 : Nat) (z : qE), i2 < i → (fq (fun c => suc js.length (cs_ti σ) (mg c) c) c0 i)[i2]? = some z → ep z.1 = false) → X (40, [(0, .ref (ad 100)), (1, .int (x)), (2, .int (nI i))], [], C5, 0, 0) := by
        intro kkq
        induction kkq with
        | zero =>
          intro i ρ5 K5 C5 hiq ⟨hR5, hr5, hK5, hKc5, hH5, hno5⟩
          have hltq : i = 1241 := hiq
          have hs5 : Sim σ ρ5 := hKc5.sim hs2
          have hM5 := hKc5.mn hM2
          have hQ5 : Qv (Vd js.length (cs_ti σ)) (fq (fun c => suc js.length (cs_ti σ) (mg c) c) c0 i) := Qv.f hc0 hVsc i
          have hl5 := hQ5.l1240 hn4
          have h35 : rs_sc ρ5 3 = nI (fq (fun c => suc js.length (cs_ti σ) (mg c) c) c0 i).length := hH5.1
          iterate 3 refine px_go hX ?_
          refine ⟨_, _, (hR5.1 100 _ hr5.1), rfl, ?_⟩
          refine px_go hX ?_
          refine ⟨fun (c2 : rs_sc ρ5 3 ≤ nI i) => ?_, fun (c2 : ¬ rs_sc ρ5 3 ≤ nI i) => absurd (by rw [h35]; exact nI_le (by omega) (by omega)) c2⟩
          iterate 2 refine px_go hX ?_
          have hKd5 : Kd (σ.1, fs, fa, fw) ρ5 := ⟨hKc5.1.trans hKb.1, fun q hq => (hKc5.2.1 q (by omega) (by omega)).trans ((hKb.2.1 q (by omega)).trans (by match q, hq with | 0, _ => rfl | 1, _ => rfl | 2, _ => rfl)), fun q hq => (hKc5.2.2 q (by omega) (by omega) (by omega)).trans ((hKb.2.2.1 q (by omega)).trans (hF q (by omega)))⟩
          have hle : (fq (fun c => suc js.length (cs_ti σ) (mg c) c) c0 i).length ≤ i := by omega
          have he : (fq (fun c => suc js.length (cs_ti σ) (mg c) c) c0 1240) = (fq (fun c => suc js.length (cs_ti σ) (mg c) c) c0 i) := by
            rcases Nat.lt_or_ge 1240 i with q | q
            · have q2 : i = 1241 := by omega
              have hQ6 : Qv (Vd js.length (cs_ti σ)) (fq (fun c => suc js.length (cs_ti σ) (mg c) c) c0 1240) := Qv.f hc0 hVsc 1240
              rw [q2]
              exact (fq_st (hQ6.l1240 hn4) 1241 (by omega)).symm
            · exact fq_st hle 1240 q
          exact ⟨ρ5, ⟨K5, hR5, hr5, hK5⟩, hKd5, hM5, Or.inr ⟨rfl, fun z hz => by
            rw [he] at hz
            obtain ⟨i2, hi2⟩ := List.getElem?_of_mem hz
            exact hno5 i2 z (by have := (List.getElem?_eq_some_iff.mp hi2).1; omega) hi2⟩⟩
        | succ kkq ihq =>
          intro i ρ5 K5 C5 hiq ⟨hR5, hr5, hK5, hKc5, hH5, hno5⟩
          have hltq : i < 1241 := by omega
          have hs5 : Sim σ ρ5 := hKc5.sim hs2
          have hM5 := hKc5.mn hM2
          have hQ5 : Qv (Vd js.length (cs_ti σ)) (fq (fun c => suc js.length (cs_ti σ) (mg c) c) c0 i) := Qv.f hc0 hVsc i
          have hl5 := hQ5.l1240 hn4
          have h35 : rs_sc ρ5 3 = nI (fq (fun c => suc js.length (cs_ti σ) (mg c) c) c0 i).length := hH5.1
          iterate 3 refine px_go hX ?_
          refine ⟨_, _, (hR5.1 100 _ hr5.1), rfl, ?_⟩
          refine px_go hX ?_
          refine ⟨fun (c3 : rs_sc ρ5 3 ≤ nI i) => ?_, fun (c3 : ¬ rs_sc ρ5 3 ≤ nI i) => ?_⟩
          · iterate 2 refine px_go hX ?_
            have hKd5 : Kd (σ.1, fs, fa, fw) ρ5 := ⟨hKc5.1.trans hKb.1, fun q hq => (hKc5.2.1 q (by omega) (by omega)).trans ((hKb.2.1 q (by omega)).trans (by match q, hq with | 0, _ => rfl | 1, _ => rfl | 2, _ => rfl)), fun q hq => (hKc5.2.2 q (by omega) (by omega) (by omega)).trans ((hKb.2.2.1 q (by omega)).trans (hF q (by omega)))⟩
            have hle : (fq (fun c => suc js.length (cs_ti σ) (mg c) c) c0 i).length ≤ i := Nat.le_of_not_lt (fun w => nI_ge w (by omega) (by rw [← h35]; exact c3))
            have he : (fq (fun c => suc js.length (cs_ti σ) (mg c) c) c0 1240) = (fq (fun c => suc js.length (cs_ti σ) (mg c) c) c0 i) := by
              rcases Nat.lt_or_ge 1240 i with q | q
              · have q2 : i = 1241 := by omega
                have hQ6 : Qv (Vd js.length (cs_ti σ)) (fq (fun c => suc js.length (cs_ti σ) (mg c) c) c0 1240) := Qv.f hc0 hVsc 1240
                rw [q2]
                exact (fq_st (hQ6.l1240 hn4) 1241 (by omega)).symm
              · exact fq_st hle 1240 q
            exact ⟨ρ5, ⟨K5, hR5, hr5, hK5⟩, hKd5, hM5, Or.inr ⟨rfl, fun z hz => by
              rw [he] at hz
              obtain ⟨i2, hi2⟩ := List.getElem?_of_mem hz
              exact hno5 i2 z (by have := (List.getElem?_eq_some_iff.mp hi2).1; omega) hi2⟩⟩
          · iterate 2 refine px_go hX ?_
            refine ⟨_, _, (hR5.1 100 _ hr5.1), rfl, ?_⟩
            iterate 2 refine px_go hX ?_
            refine ⟨fun (c4 : (2008 : Int32) ≤ rs_sc ρ5 3) => absurd c4 (by rw [h35]; exact nI_ge (b := 2008) (by omega) (by omega)), fun (c4 : ¬ (2008 : Int32) ≤ rs_sc ρ5 3) => ?_⟩
            have hil : i < (fq (fun c => suc js.length (cs_ti σ) (mg c) c) c0 i).length := Nat.lt_of_not_le (fun w => c3 (by rw [h35]; exact nI_le w (by omega)))
            obtain ⟨x5, hx5⟩ : ∃ x5, (fq (fun c => suc js.length (cs_ti σ) (mg c) c) c0 i)[i]? = some x5 := ⟨_, List.getElem?_eq_getElem hil⟩
            have hv5 : Vd js.length (cs_ti σ) x5.1 := hQ5.2 x5 (List.mem_of_getElem? hx5)
            have hw5 : rs_w ρ5 i = lN (ew x5.1 js.length) := (hH5.2.2.1 i x5 hx5).1
            have hb5 := hv5.lt hn4
            iterate 3 refine px_go hX ?_
            refine ⟨_, _, (hR5.1 100 _ hr5.1), rfl, ?_⟩
            iterate 2 refine px_go hX ?_
            refine ⟨_, _, (hR5.1 113 _ hr5.2.2), (vp_in_nI (by omega) (by omega)), ?_⟩
            rw [nI_clamp (n := i) (by omega), hw5]
            refine px_go hX ?_
            refine ⟨_, (hR5.1 100 _ hr5.1), 0, 0, _, Nat.le_of_ble_eq_true rfl, Nat.le_of_ble_eq_true rfl, Nat.le_of_ble_eq_true rfl, rr_isEnd hR5 hr5 hs5 hM5 hn (W := ew x5.1 js.length) (by omega), ?_⟩
            rintro _ C ⟨rfl, ⟨b5, rfl⟩ | ⟨b5, rfl⟩⟩
            · refine px_go hX ?_
              refine ⟨fun (c6 : 1 = 0) => absurd c6 (by decide), fun (c6 : ¬ 1 = 0) => ?_⟩
              iterate 2 refine px_go hX ?_
              have hKd5 : Kd (σ.1, fs, fa, fw) ρ5 := ⟨hKc5.1.trans hKb.1, fun q hq => (hKc5.2.1 q (by omega) (by omega)).trans ((hKb.2.1 q (by omega)).trans (by match q, hq with | 0, _ => rfl | 1, _ => rfl | 2, _ => rfl)), fun q hq => (hKc5.2.2 q (by omega) (by omega) (by omega)).trans ((hKb.2.2.1 q (by omega)).trans (hF q (by omega)))⟩
              exact ⟨ρ5, ⟨K5, hR5, hr5, hK5⟩, hKd5, hM5, Or.inl ⟨i, x5, rfl, by omega, hx5, (hep x5.1 hv5).mpr b5, hno5, hH5⟩⟩
            · refine px_go hX ?_
              refine ⟨fun (c7 : 0 = 0) => ?_, fun (c7 : ¬ 0 = 0) => absurd rfl c7⟩
              iterate 2 refine px_go hX ?_
              have loop3 : ∀ kkf f (ρ6 : rs_S) (K6 : rp_K) (C6 : px_P), f + kkf = 7 → (Rp ad K6 C6 ∧ Rl ad ρ6 K6 ∧ (∀ zz, zz < 100 ∨ 118 ≤ zz → K6 zz = K zz) ∧ Kc ρ2 ρ6 ∧ Hq js.length ρ6 (adl (i + 1) (fq (fun c => suc js.length (cs_ti σ) (mg c) c) c0 i) (sml js.length (cs_ti σ) x5.1 (mg x5.1) (5 * f)))) → X (75, [(0, .ref (ad 100)), (1, .int (x)), (2, .int (nI i)), (3, .int (nI f))], [], C6, 0, 0) := by
                intro kkf
                induction kkf with
                | zero =>
                  intro f ρ6 K6 C6 hif ⟨hR6, hr6, hK6, hKc6, hH6⟩
                  have hltf : f = 7 := hif
                  iterate 3 refine px_go hX ?_
                  refine ⟨fun (c8 : (7 : Int32) ≤ nI f) => ?_, fun (c8 : ¬ (7 : Int32) ≤ nI f) => absurd (by rw [hltf]; exact Int32.le_refl _) c8⟩
                  iterate 2 refine px_go hX ?_
                  have hfqs : (adl (i + 1) (fq (fun c => suc js.length (cs_ti σ) (mg c) c) c0 i) (sml js.length (cs_ti σ) x5.1 (mg x5.1) (5 * f))) = (fq (fun c => suc js.length (cs_ti σ) (mg c) c) c0 (i + 1)) := by
                    rw [fq_s hx5, hltf]
                    show adl (i + 1) _ (sml js.length (cs_ti σ) x5.1 (mg x5.1) 35) = adl (i + 1) _ (suc js.length (cs_ti σ) (mg x5.1) x5.1)
                    rw [sml_suc hn4 (asc_le _ _)]
                  exact px_lw hw [(0, .ref (ad 100)), (1, .int (x)), (2, .int (nI (i + 1)))] (ihq (i + 1) _ _ _ (by omega) ⟨hR6, hr6, hK6, hKc6, hfqs ▸ hH6, fun i2 z hi2 hz2 => by
                        rcases Nat.lt_or_ge i2 i with q | q
                        · exact hno5 i2 z q (by rw [← pre_at2 (fq_pre1 _ c0 i) (by omega)]; exact hz2)
                        · obtain rfl : i2 = i := by omega
                          rw [pre_at (fq_pre1 _ c0 i2) hx5] at hz2
                          cases hz2
                          cases hee : ep x5.1 with
                          | false => rfl
                          | true => exact absurd ((hep x5.1 hv5).mp hee) b5⟩) ⟨rfl, rfl, (congrArg (fun z => some (Value.int z)) (nI_succ _).symm), trivial⟩
                | succ kkf ihf =>
                  intro f ρ6 K6 C6 hif ⟨hR6, hr6, hK6, hKc6, hH6⟩
                  have hltf : f < 7 := by omega
                  iterate 3 refine px_go hX ?_
                  refine ⟨fun (c9 : (7 : Int32) ≤ nI f) => absurd c9 (nI_ge hltf (by omega : 7 < 2 ^ 31)), fun (c9 : ¬ (7 : Int32) ≤ nI f) => ?_⟩
                  iterate 2 refine px_go hX ?_
                  have loop4 : ∀ kkt t (ρ7 : rs_S) (K7 : rp_K) (C7 : px_P), t + kkt = 5 → (Rp ad K7 C7 ∧ Rl ad ρ7 K7 ∧ (∀ zz, zz < 100 ∨ 118 ≤ zz → K7 zz = K zz) ∧ Kc ρ2 ρ7 ∧ Hq js.length ρ7 (adl (i + 1) (fq (fun c => suc js.length (cs_ti σ) (mg c) c) c0 i) (sml js.length (cs_ti σ) x5.1 (mg x5.1) (5 * f + t)))) → X (84, [(0, .ref (ad 100)), (1, .int (x)), (2, .int (nI i)), (3, .int (nI f)), (4, .int (nI t))], [], C7, 0, 0) := by
                    intro kkt
                    induction kkt with
                    | zero =>
                      intro t ρ7 K7 C7 hit ⟨hR7, hr7, hK7, hKc7, hH7⟩
                      have hltt : t = 5 := hit
                      have hs7 : Sim σ ρ7 := hKc7.sim hs2
                      have hM7 := hKc7.mn hM2
                      have hQ7 : Qv (Vd js.length (cs_ti σ)) (adl (i + 1) (fq (fun c => suc js.length (cs_ti σ) (mg c) c) c0 i) (sml js.length (cs_ti σ) x5.1 (mg x5.1) (5 * f + t))) := hQ5.al (fun y hy => hVsc x5.1 hv5 y (sml_mem hn4 _ (by omega) y hy))
                      have hx7 : (adl (i + 1) (fq (fun c => suc js.length (cs_ti σ) (mg c) c) c0 i) (sml js.length (cs_ti σ) x5.1 (mg x5.1) (5 * f + t)))[i]? = some x5 := pre_at (adl_pre _ _ _) hx5
                      have hw7 : rs_w ρ7 i = lN (ew x5.1 js.length) := (hH7.2.2.1 i x5 hx7).1
                      iterate 3 refine px_go hX ?_
                      refine ⟨fun (c10 : (5 : Int32) ≤ nI t) => ?_, fun (c10 : ¬ (5 : Int32) ≤ nI t) => absurd (by rw [hltt]; exact Int32.le_refl _) c10⟩
                      iterate 2 refine px_go hX ?_
                      exact px_lw hw [(0, .ref (ad 100)), (1, .int (x)), (2, .int (nI i)), (3, .int (nI (f + 1)))] (ihf (f + 1) _ _ _ (by omega) ⟨hR7, hr7, hK7, hKc7, by rw [hltt] at hH7; exact hH7⟩) ⟨rfl, rfl, rfl, (congrArg (fun z => some (Value.int z)) (nI_succ _).symm), trivial⟩
                    | succ kkt iht =>
                      intro t ρ7 K7 C7 hit ⟨hR7, hr7, hK7, hKc7, hH7⟩
                      have hltt : t < 5 := by omega
                      have hs7 : Sim σ ρ7 := hKc7.sim hs2
                      have hM7 := hKc7.mn hM2
                      have hQ7 : Qv (Vd js.length (cs_ti σ)) (adl (i + 1) (fq (fun c => suc js.length (cs_ti σ) (mg c) c) c0 i) (sml js.length (cs_ti σ) x5.1 (mg x5.1) (5 * f + t))) := hQ5.al (fun y hy => hVsc x5.1 hv5 y (sml_mem hn4 _ (by omega) y hy))
                      have hx7 : (adl (i + 1) (fq (fun c => suc js.length (cs_ti σ) (mg c) c) c0 i) (sml js.length (cs_ti σ) x5.1 (mg x5.1) (5 * f + t)))[i]? = some x5 := pre_at (adl_pre _ _ _) hx5
                      have hw7 : rs_w ρ7 i = lN (ew x5.1 js.length) := (hH7.2.2.1 i x5 hx7).1
                      iterate 3 refine px_go hX ?_
                      refine ⟨fun (c11 : (5 : Int32) ≤ nI t) => absurd c11 (nI_ge hltt (by omega : 5 < 2 ^ 31)), fun (c11 : ¬ (5 : Int32) ≤ nI t) => ?_⟩
                      iterate 3 refine px_go hX ?_
                      refine ⟨_, _, (hR7.1 100 _ hr7.1), rfl, ?_⟩
                      iterate 2 refine px_go hX ?_
                      refine ⟨_, _, (hR7.1 113 _ hr7.2.2), (vp_in_nI (by omega) (by omega)), ?_⟩
                      rw [nI_clamp (n := i) (by omega), hw7]
                      iterate 3 refine px_go hX ?_
                      refine ⟨_, (hR7.1 100 _ hr7.1), 0, 0, _, Nat.le_of_ble_eq_true rfl, Nat.le_of_ble_eq_true rfl, Nat.le_of_ble_eq_true rfl, rr_moved (W := ew x5.1 js.length) hR7 hr7 hs7 hM7 hn (by omega) (by omega : f < 7) (by omega) hti (by rw [hv5.tk hn4 hti (by omega)]; exact stk_le hn4 _) (fun k hk => hmg x5.1 hv5 k hk), ?_⟩
                      rintro _ C ⟨rfl, ⟨hk0, rfl⟩ | ⟨k, hk0, ⟨hno, rfl⟩ | ⟨hno, rfl⟩⟩⟩
                      · have hsv := (sm_W (ml := mg x5.1) hv5 hn4 hti (to := t) (by omega : f < 7) (by omega)).1 hk0
                        iterate 5 refine px_go hX ?_
                        refine ⟨fun (c12 : lg_cmp (px_jc (-1)) (px_jc (-1)) = 0) => ?_, fun (c12 : ¬ lg_cmp (px_jc (-1)) (px_jc (-1)) = 0) => absurd ((lg_cmp_eq _ _).mpr rfl) c12⟩
                        iterate 2 refine px_go hX ?_
                        exact px_lw hw [(0, .ref (ad 100)), (1, .int (x)), (2, .int (nI i)), (3, .int (nI f)), (4, .int (nI (t + 1)))] (iht (t + 1) _ _ _ (by omega) ⟨hR7, hr7, hK7, hKc7, by rw [sml_s (by omega), hsv, List.append_nil]; exact hH7⟩) ⟨rfl, rfl, rfl, rfl, (congrArg (fun z => some (Value.int z)) (nI_succ _).symm), trivial⟩
                      · have hsv := ((sm_W (ml := mg x5.1) hv5 hn4 hti (to := t) (by omega : f < 7) (by omega)).2 k hk0).1 hno
                        iterate 5 refine px_go hX ?_
                        refine ⟨fun (c13 : lg_cmp (px_jc (-1)) (px_jc (-1)) = 0) => ?_, fun (c13 : ¬ lg_cmp (px_jc (-1)) (px_jc (-1)) = 0) => absurd ((lg_cmp_eq _ _).mpr rfl) c13⟩
                        iterate 2 refine px_go hX ?_
                        exact px_lw hw [(0, .ref (ad 100)), (1, .int (x)), (2, .int (nI i)), (3, .int (nI f)), (4, .int (nI (t + 1)))] (iht (t + 1) _ _ _ (by omega) ⟨hR7, hr7, hK7, hKc7, by rw [sml_s (by omega), hsv, List.append_nil]; exact hH7⟩) ⟨rfl, rfl, rfl, rfl, (congrArg (fun z => some (Value.int z)) (nI_succ _).symm), trivial⟩
                      · obtain ⟨hsv, hrv, hkn⟩ := ((sm_W (ml := mg x5.1) hv5 hn4 hti (to := t) (by omega : f < 7) (by omega)).2 k hk0).2 hno
                        have hmem : ((wp x5.1 k (spl js.length x5.1 t), 64 * k + 8 * f + t) : Nat × Nat) ∈ suc js.length (cs_ti σ) (mg x5.1) x5.1 := smv_mem hn4 (by omega) (by omega) (by rw [hsv]; exact List.mem_singleton.mpr rfl)
                        have hvc : Vd js.length (cs_ti σ) (wp x5.1 k (spl js.length x5.1 t)) := hVsc x5.1 hv5 _ hmem
                        iterate 5 refine px_go hX ?_
                        refine ⟨fun (c14 : lg_cmp (lN (rv (cs_ti σ) (ew x5.1 js.length) k f t)) (px_jc (-1)) = 0) => absurd ((lg_cmp_eq _ _).mp c14) (by rw [hrv]; exact wl_nm1 (Nat.lt_trans (hvc.lt hn4) (by omega))), fun (c14 : ¬ lg_cmp (lN (rv (cs_ti σ) (ew x5.1 js.length) k f t)) (px_jc (-1)) = 0) => ?_⟩
                        iterate 9 refine px_go hX ?_
                        refine ⟨_, (hR7.1 100 _ hr7.1), 0, 0, _, Nat.le_of_ble_eq_true rfl, Nat.le_of_ble_eq_true rfl, Nat.le_of_ble_eq_true rfl, rr_comes2 (n := js.length) (c := wp x5.1 k (spl js.length x5.1 t)) (p := i + 1) (s := 64 * k + 8 * f + t) hR7 hr7 hH7 (hQ7.room hvc hn4) (fun x hx e => (hQ7.2 x hx).inj hvc hn4 e) (fun x hx => (hQ7.2 x hx).lt hn4) (hvc.lt hn4) (by rw [hrv]) (nI_pred i).symm (ie_8 f t k (by omega) (by omega)), ?_⟩
                        rintro _ C ⟨rfl, ρ8, ⟨K8, hR8, hr8, hK8⟩, hKc8, hH8⟩
                        iterate 2 refine px_go hX ?_
                        exact px_lw hw [(0, .ref (ad 100)), (1, .int (x)), (2, .int (nI i)), (3, .int (nI f)), (4, .int (nI (t + 1)))] (iht (t + 1) _ _ _ (by omega) ⟨hR8, hr8, fun zz hz => (hK8 zz hz).trans (hK7 zz hz), hKc7.tr hKc8, by rw [sml_s (by omega), hsv, adl_app]; exact hH8⟩) ⟨rfl, rfl, rfl, rfl, (congrArg (fun z => some (Value.int z)) (nI_succ _).symm), trivial⟩
                  exact px_lw hw [(0, .ref (ad 100)), (1, .int (x)), (2, .int (nI i)), (3, .int (nI f)), (4, .int (nI 0))] (loop4 (5 - 0) 0 _ _ _ (by omega) ⟨hR6, hr6, hK6, hKc6, hH6⟩) ⟨rfl, rfl, rfl, rfl, rfl, trivial⟩
              exact px_lw hw [(0, .ref (ad 100)), (1, .int (x)), (2, .int (nI i)), (3, .int (nI 0))] (loop3 (7 - 0) 0 _ _ _ (by omega) ⟨hR5, hr5, hK5, hKc5, hH5⟩) ⟨rfl, rfl, rfl, rfl, trivial⟩
      exact px_lw hw [(0, .ref (ad 100)), (1, .int (x)), (2, .int (nI 0))] (loop2 (1241 - 0) 0 _ _ _ (by omega) ⟨hR4, hr4, fun zz hz => (hK4 zz hz).trans ((hK2 zz hz).trans ((hK3 zz hz).trans (hK1 zz hz))), hKc4, hH4, fun i2 z hi2 => absurd hi2 (Nat.not_lt_zero i2)⟩) ⟨rfl, rfl, rfl, trivial⟩
    | succ kka iha =>
      intro ia F K1 C1 hia ⟨hR1, hr1, hK1, hF, hz⟩
      have hlta : ia < 4096 := by omega
      have hA16x : C1 (ad 116) = some (px_i 4096 (F 16)) := hR1.1 116 _ (hr1.2.1 16 (by decide) (by decide) (by decide))
      iterate 3 refine px_go hX ?_
      refine ⟨fun (c15 : (4096 : Int32) ≤ nI ia) => absurd c15 (nI_ge hlta (by omega : 4096 < 2 ^ 31)), fun (c15 : ¬ (4096 : Int32) ≤ nI ia) => ?_⟩
      iterate 2 refine px_go hX ?_
      refine ⟨_, _, (hR1.1 100 _ hr1.1), rfl, ?_⟩
      iterate 3 refine px_go hX ?_
      refine ⟨_, _, hA16x, (vp_in_nI (by omega) (by omega)), ?_⟩
      rw [nI_clamp (by omega)]
      iterate 2 refine px_go hX ?_
      have hR2 := (hR1.put (i := 116) (hr1.2.1 16 (by decide) (by decide) (by decide)) (px_i 4096 (upd (F 16) (ia) ((0 : Int32)))))
      have hr2 : Rl ad (((σ.1, fs, va_up F 16 (upd (F 16) ia 0), fw) : rs_S)) (rp_up (K1) (116) (px_i 4096 (upd (F 16) (ia) ((0 : Int32))))) := hr1.sA (q := 16) (by decide) (by decide) (by decide) _
      have hK2 : ∀ zz, zz < 100 ∨ 118 ≤ zz → (rp_up (K1) (116) (px_i 4096 (upd (F 16) (ia) ((0 : Int32))))) zz = (K1) zz := fun zz hzz => by rw [rp_up_n _ _ (by omega)]
      exact px_lw hw [(0, .ref (ad 100)), (1, .int (x)), (2, .int (nI (ia + 1)))] (iha (ia + 1) _ _ _ (by omega) ⟨hR2, hr2, fun zz hz => (hK2 zz hz).trans (hK1 zz hz), fun q hq => (va_up_ne _ _ hq).trans (hF q hq), fun s hs2 => by
            rw [va_up_self]
            rcases Nat.lt_or_ge s ia with q | q
            · rw [pk_un (by omega)]
              exact hz s q
            · rw [show s = ia by omega, pk_us]⟩) ⟨rfl, rfl, (congrArg (fun z => some (Value.int z)) (nI_succ _).symm), trivial⟩
  iterate 2 refine px_go hX ?_
  exact px_lw hw [(0, .ref (ad 100)), (1, .int (x)), (2, .int (nI 0))] (loop (4096 - 0) 0 _ _ _ (by omega) ⟨hR, hr, fun _ _ => rfl, fun _ _ => rfl, fun s hs2 => absurd hs2 (Nat.not_lt_zero s)⟩) ⟨rfl, rfl, rfl, trivial⟩
end SO
