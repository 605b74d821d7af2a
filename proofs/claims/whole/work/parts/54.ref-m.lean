/-! The reference's search: how a bay begins; what comes, by its table. -/
/-- the reference's boxes, bays and needs are the same -/
theorem Sim.kp {σ : ck_S} {p : Nat × Nat × Nat} {fs G : Nat → Int32} {fa F : Nat → Nat → Int32} {fw fw' : Nat → Int64} (h : Sim σ (p, fs, fa, fw)) (hG : ∀ q, q < 3 → G q = fs q) (hF : ∀ q, q ≤ 12 → F q = fa q) : Sim σ (p, G, F, fw') := by
  obtain ⟨⟨h1, h1a, h1b⟩, h2, h3, h4⟩ := h
  refine ⟨⟨h1, (hG 1 (by omega)).trans h1a, (hG 2 (by omega)).trans h1b⟩, fun i hi => ?_, fun i l hi hl => ?_, fun c hc => ?_⟩
  · show F 1 i = _ ∧ F 2 i = _ ∧ F 3 i = _ ∧ F 4 i = _
    rw [hF 1 (by omega), hF 2 (by omega), hF 3 (by omega), hF 4 (by omega)]
    exact h2 i hi
  · show (_ ∧ F 5 _ = 1) ∨ (_ ∧ F 5 _ = 0)
    rw [hF 5 (by omega)]
    exact h3 i l hi hl
  · show F 6 c = _ ∧ F 7 c = _ ∧ (_ → F 8 c = _ ∧ F 9 c = _ ∧ ∀ i, _ → _ → F 10 _ = _ ∧ F 11 _ = _ ∧ F 12 _ = _) ∧ ∃ m d : Nat, F 8 c = _ ∧ F 9 c = _ ∧ _
    rw [hF 6 (by omega), hF 7 (by omega), hF 8 (by omega), hF 9 (by omega), hF 10 (by omega), hF 11 (by omega), hF 12 (by omega)]
    exact h4 c hc
/-- the way of boxes at places p -/
def wj (p : Nat → Nat) : Nat → Nat
  | 0 => 0
  | k + 1 => wj p k ||| (bif Nat.blt (p k) 12 then (k + 1) * 2 ^ (3 * p k) else bif Nat.beq (p k) 13 then 2 ^ (36 + k) else 2 ^ (40 + k))
theorem wj_c {p q : Nat → Nat} : ∀ n, (∀ k, k < n → p k = q k) → wj p n = wj q n
  | 0, _ => rfl
  | n + 1, h => by
    show wj p n ||| _ = wj q n ||| _
    rw [wj_c n (fun k hk => h k (by omega)), h n (by omega)]
theorem wj_ew (c : Nat) : ∀ n, wj (pl c) n = ew c n
  | 0 => rfl
  | n + 1 => by
    show wj (pl c) n ||| _ = ew c n ||| _
    rw [wj_ew c n]
theorem wj_1 {p k : Nat} (hk : k < 4) (hp : p < 14) : (bif Nat.blt p 12 then (k + 1) * 2 ^ (3 * p) else bif Nat.beq p 13 then 2 ^ (36 + k) else 2 ^ (40 + k)) < 2 ^ 44 := by
  rw [nld, nbd]
  by_cases h : p < 12
  · rw [decide_eq_true h]
    show (k + 1) * 2 ^ (3 * p) < 2 ^ 44
    have h2 := Nat.pow_le_pow_right (n := 2) (by decide) (show 3 * p ≤ 33 by omega)
    have h3 : (k + 1) * 2 ^ (3 * p) ≤ 4 * 2 ^ 33 := Nat.mul_le_mul (by omega) h2
    omega
  · rw [decide_eq_false h]
    by_cases h1 : p = 13
    · rw [decide_eq_true h1]
      exact wb_lt2 (by omega)
    · rw [decide_eq_false h1]
      exact wb_lt2 (by omega)
theorem wj_lt {p : Nat → Nat} : ∀ n, n ≤ 4 → (∀ k, k < n → p k < 14) → wj p n < 2 ^ 44
  | 0, _, _ => by show 0 < 2 ^ 44; omega
  | n + 1, hn, hp => Nat.or_lt_two_pow (wj_lt n (by omega) (fun k hk => hp k (by omega))) (wj_1 (by omega) (hp n (by omega)))
def jn (js : List Nat) (k : Nat) : Nat := js.getD k 0
theorem jn_at {js : List Nat} {k j : Nat} (h : js[k]? = some j) : jn js k = j := by
  unfold jn
  rw [List.getD_eq_getElem?_getD, h]
  rfl
theorem jn_l (js : List Nat) (i : Nat) {k : Nat} (hk : k < js.length) : jn (js ++ [i]) k = jn js k := by
  unfold jn
  rw [List.getD_eq_getElem?_getD, List.getD_eq_getElem?_getD, List.getElem?_append_left hk]
theorem jn_s (js : List Nat) (i : Nat) : jn (js ++ [i]) js.length = i := by
  unfold jn
  rw [List.getD_eq_getElem?_getD, List.getElem?_append_right (Nat.le_refl _), Nat.sub_self]
  rfl
theorem jn_some {js : List Nat} {k : Nat} (hk : k < js.length) : js[k]? = some (jn js k) := by
  unfold jn
  rw [List.getD_eq_getElem?_getD, List.getElem?_eq_getElem hk]
  rfl
def wjs (σ : ck_S) (js : List Nat) : Nat := wj (fun k => plc σ (jn js k)) js.length
theorem wjs_s (σ : ck_S) (js : List Nat) (i : Nat) : wjs σ (js ++ [i]) = wjs σ js ||| (bif Nat.blt (plc σ i) 12 then (js.length + 1) * 2 ^ (3 * plc σ i) else bif Nat.beq (plc σ i) 13 then 2 ^ (36 + js.length) else 2 ^ (40 + js.length)) := by
  unfold wjs
  rw [List.length_append]
  show wj _ js.length ||| _ = _
  simp only [jn_s]
  rw [wj_c (p := fun k => plc σ (jn (js ++ [i]) k)) (q := fun k => plc σ (jn js k)) js.length (fun k hk => by rw [jn_l js i hk])]
/-- behind the beginning: the boxes of the bay stand in their row -/
def Kb (ρ ρ' : rs_S) : Prop := ρ'.1 = ρ.1 ∧ (∀ q, q < 4 → rs_sc ρ' q = rs_sc ρ q) ∧ (∀ q, q ≠ 17 → rs_a ρ' q = rs_a ρ q) ∧ rs_w ρ' = rs_w ρ
section SM
theorem plc_lt {σ : ck_S} (hrg : cs_rg σ) {j : Nat} (hj : j < cs_n σ) (h3 : ¬ cs_bf σ j 2 = 3) : plc σ j < 14 := by
  unfold plc
  rcases hrg j hj with q | q | ⟨s, t, hs, ht, q1, q2⟩
  · exact absurd q h3
  · rw [if_pos q]
    omega
  · split
    · omega
    · rw [q1, q2, nI_clamp (by omega), nI_clamp (by omega)]
      omega
variable {B : Nat} {sc : Option (Nat × Nat × (Nat → Int32))} {d : Nat} {ad : Nat → Nat} {σ : ck_S} {ρ : rs_S} {K : rp_K} {C : px_P}
theorem rr_begins (hR : Rp ad K C) (hr : Rl ad ρ K) (hs : Sim σ ρ) (hn : cs_n σ ≤ 16) (hrg : cs_rg σ) (hb4 : ∀ x, pn_ct (fun j => decide (cs_bf σ j 1 = x ∧ ¬ cs_bf σ j 2 = 3)) (cs_n σ) ≤ 4) (x : Int32) : px_W ps_Y ps_P B sc (d + 1) 68 [.ref (ad 100), .int x] C 0 0 (fun v C' => ∃ ρ', Cr ad ρ' K C' ∧ Kb ρ ρ' ∧ Mn σ ρ' (bjs σ x (cs_n σ)).length (jn (bjs σ x (cs_n σ))) ∧ v = some (.long (lN (wjs σ (bjs σ x (cs_n σ)))))) px_no := by
  obtain ⟨p, fs, fa, fw⟩ := ρ
  obtain rfl : p = σ.1 := hs.1.1
  refine ⟨pm_Ref_begins, rfl, Nat.le_of_ble_eq_true rfl, fun X hw hX => ?_⟩
  iterate 3 refine px_go hX ?_
  refine ⟨_, (hR.1 100 _ hr.1), Nat.le_of_ble_eq_true rfl, rfl, rfl, ?_⟩
  iterate 4 refine px_go hX ?_
  have hR0 := (hR.put (i := 100) hr.1 (px_o 4 [.int (fs 0), .int (nI (cs_nb σ)), .int (nI (cs_ti σ)), .int (nI (cs_n σ)), .ref (ad 101), .ref (ad 102), .ref (ad 103), .ref (ad 104), .ref (ad 105), .ref (ad 106), .int (fs 1), .int (fs 2), .ref (ad 107), .ref (ad 108), .ref (ad 109), .ref (ad 110), .ref (ad 111), .ref (ad 112), .ref (ad 113), .ref (ad 114), .ref (ad 115), .int (fs 3), .ref (ad 116), .ref (ad 117), .int ((0 : Int32))]))
  have hr0 : Rl ad (((σ.1, (fun q => match q with | 0 => fs 0 | 1 => fs 1 | 2 => fs 2 | 3 => fs 3 | _ => 0), fa, fw) : rs_S)) (rp_up (K) (100) (px_o 4 [.int (fs 0), .int (nI (cs_nb σ)), .int (nI (cs_ti σ)), .int (nI (cs_n σ)), .ref (ad 101), .ref (ad 102), .ref (ad 103), .ref (ad 104), .ref (ad 105), .ref (ad 106), .int (fs 1), .int (fs 2), .ref (ad 107), .ref (ad 108), .ref (ad 109), .ref (ad 110), .ref (ad 111), .ref (ad 112), .ref (ad 113), .ref (ad 114), .ref (ad 115), .int (fs 3), .ref (ad 116), .ref (ad 117), .int ((0 : Int32))])) := hr.sO _ (fun q => match q with | 0 => fs 0 | 1 => fs 1 | 2 => fs 2 | 3 => fs 3 | _ => 0)
  have hK0 : ∀ zz, zz < 100 ∨ 118 ≤ zz → (rp_up (K) (100) (px_o 4 [.int (fs 0), .int (nI (cs_nb σ)), .int (nI (cs_ti σ)), .int (nI (cs_n σ)), .ref (ad 101), .ref (ad 102), .ref (ad 103), .ref (ad 104), .ref (ad 105), .ref (ad 106), .int (fs 1), .int (fs 2), .ref (ad 107), .ref (ad 108), .ref (ad 109), .ref (ad 110), .ref (ad 111), .ref (ad 112), .ref (ad 113), .ref (ad 114), .ref (ad 115), .int (fs 3), .ref (ad 116), .ref (ad 117), .int ((0 : Int32))])) zz = (K) zz := fun zz hzz => by rw [rp_up_n _ _ (by omega)]
  have loop : ∀ kk i (G : Nat → Int32) (F : Nat → Nat → Int32) (K1 : rp_K) (C1 : px_P), i + kk = cs_n σ → (Rp ad K1 C1 ∧ Rl ad ((σ.1, G, F, fw) : rs_S) K1 ∧ (∀ zz, zz < 100 ∨ 118 ≤ zz → K1 zz = K zz) ∧ (∀ q, q < 4 → G q = fs q) ∧ (∀ q, q ≠ 17 → F q = fa q) ∧ G 4 = nI (bjs σ x i).length ∧ ∀ k j, (bjs σ x i)[k]? = some j → F 17 k = nI j) → X (10, [(0, .ref (ad 100)), (1, .int (x)), (2, .long (lN (wjs σ (bjs σ x i)))), (4, .int (nI i))], [], C1, 0, 0) := by
    intro kk
    induction kk with
    | zero =>
      intro i G F K1 C1 hi ⟨hR1, hr1, hK1, hG, hF, h4n, h17⟩
      have hlt : i = cs_n σ := hi
      have hA2x : C1 (ad 102) = some (px_i 16 (F 2)) := hR1.1 102 _ (hr1.2.1 2 (by decide) (by decide) (by decide))
      have hA3x : C1 (ad 103) = some (px_i 16 (F 3)) := hR1.1 103 _ (hr1.2.1 3 (by decide) (by decide) (by decide))
      have hA4x : C1 (ad 104) = some (px_i 16 (F 4)) := hR1.1 104 _ (hr1.2.1 4 (by decide) (by decide) (by decide))
      have hA17x : C1 (ad 117) = some (px_i 4 (F 17)) := hR1.1 117 _ (hr1.2.1 17 (by decide) (by decide) (by decide))
      have hs1 : Sim σ ((σ.1, G, F, fw) : rs_S) := hs.kp (fun q hq => hG q (by omega)) (fun q hq => hF q (by omega))
      have h4m : rs_sc ((σ.1, G, F, fw) : rs_S) 4 = nI (bjs σ x i).length := h4n
      have hil : i ≤ cs_n σ := by omega
      have hlen4 : (bjs σ x i).length ≤ 4 := by
        have h5 := hb4 x
        have h6 := pn_ct_mono (fun j => decide (cs_bf σ j 1 = x ∧ ¬ cs_bf σ j 2 = 3)) hil
        rw [← bjs_len] at h6
        omega
      have hwl : wjs σ (bjs σ x i) < 2 ^ 44 := wj_lt _ hlen4 (fun k hk => by
        have q := bjs_at σ x i k _ (jn_some hk)
        exact plc_lt hrg (by omega) q.2.2)
      iterate 3 refine px_go hX ?_
      refine ⟨_, _, (hR1.1 100 _ hr1.1), rfl, ?_⟩
      refine px_go hX ?_
      refine ⟨fun (c1 : nI (cs_n σ) ≤ nI i) => ?_, fun (c1 : ¬ nI (cs_n σ) ≤ nI i) => absurd (nI_le (by omega) (by omega)) c1⟩
      iterate 2 refine px_go hX ?_
      rw [hlt] at h17 h4n hlen4
      exact ⟨_, ⟨K1, hR1, hr1, hK1⟩, ⟨rfl, hG, hF, rfl⟩, ⟨h4n, hlen4, fun k hk => ⟨h17 k _ (jn_some hk), (bjs_at σ x (cs_n σ) k _ (jn_some hk)).1⟩⟩, by rw [hlt]⟩
    | succ kk ih =>
      intro i G F K1 C1 hi ⟨hR1, hr1, hK1, hG, hF, h4n, h17⟩
      have hlt : i < cs_n σ := by omega
      have hA2x : C1 (ad 102) = some (px_i 16 (F 2)) := hR1.1 102 _ (hr1.2.1 2 (by decide) (by decide) (by decide))
      have hA3x : C1 (ad 103) = some (px_i 16 (F 3)) := hR1.1 103 _ (hr1.2.1 3 (by decide) (by decide) (by decide))
      have hA4x : C1 (ad 104) = some (px_i 16 (F 4)) := hR1.1 104 _ (hr1.2.1 4 (by decide) (by decide) (by decide))
      have hA17x : C1 (ad 117) = some (px_i 4 (F 17)) := hR1.1 117 _ (hr1.2.1 17 (by decide) (by decide) (by decide))
      have hs1 : Sim σ ((σ.1, G, F, fw) : rs_S) := hs.kp (fun q hq => hG q (by omega)) (fun q hq => hF q (by omega))
      have h4m : rs_sc ((σ.1, G, F, fw) : rs_S) 4 = nI (bjs σ x i).length := h4n
      have hil : i ≤ cs_n σ := by omega
      have hlen4 : (bjs σ x i).length ≤ 4 := by
        have h5 := hb4 x
        have h6 := pn_ct_mono (fun j => decide (cs_bf σ j 1 = x ∧ ¬ cs_bf σ j 2 = 3)) hil
        rw [← bjs_len] at h6
        omega
      have hwl : wjs σ (bjs σ x i) < 2 ^ 44 := wj_lt _ hlen4 (fun k hk => by
        have q := bjs_at σ x i k _ (jn_some hk)
        exact plc_lt hrg (by omega) q.2.2)
      iterate 3 refine px_go hX ?_
      refine ⟨_, _, (hR1.1 100 _ hr1.1), rfl, ?_⟩
      refine px_go hX ?_
      refine ⟨fun (c2 : nI (cs_n σ) ≤ nI i) => absurd c2 (nI_ge hlt (by omega)), fun (c2 : ¬ nI (cs_n σ) ≤ nI i) => ?_⟩
      iterate 2 refine px_go hX ?_
      refine ⟨_, _, (hR1.1 100 _ hr1.1), rfl, ?_⟩
      iterate 2 refine px_go hX ?_
      refine ⟨_, _, hA2x, (vp_in_nI (by omega) (by omega)), ?_⟩
      rw [nI_clamp (by omega), show F 2 i = cs_bf σ i 1 from (hs1.2.1 i hlt).2.1]
      iterate 2 refine px_go hX ?_
      refine ⟨fun (c3 : ¬ cs_bf σ i 1 = x) => ?_, fun (c3 : cs_bf σ i 1 = x) => ?_⟩
      · iterate 2 refine px_go hX ?_
        exact px_lw hw [(0, .ref (ad 100)), (1, .int (x)), (2, .long (lN (wjs σ (bjs σ x (i + 1))))), (4, .int (nI (i + 1)))] (ih (i + 1) _ _ _ _ (by omega) ⟨hR1, hr1, hK1, hG, hF, by rw [show bjs σ x (i + 1) = bjs σ x i from if_neg (fun w => c3 w.1)]; exact h4n, by rw [show bjs σ x (i + 1) = bjs σ x i from if_neg (fun w => c3 w.1)]; exact h17⟩) ⟨rfl, rfl, (congrArg (fun z => some (Value.long z)) (by rw [show bjs σ x (i + 1) = bjs σ x i from if_neg (fun w => c3 w.1)])), (congrArg (fun z => some (Value.int z)) (nI_succ _).symm), trivial⟩
      · iterate 2 refine px_go hX ?_
        refine ⟨_, _, (hR1.1 100 _ hr1.1), rfl, ?_⟩
        iterate 2 refine px_go hX ?_
        refine ⟨_, _, hA3x, (vp_in_nI (by omega) (by omega)), ?_⟩
        rw [nI_clamp (by omega), show F 3 i = cs_bf σ i 2 from (hs1.2.1 i hlt).2.2.1]
        iterate 2 refine px_go hX ?_
        refine ⟨fun (c4 : cs_bf σ i 2 = (3 : Int32)) => ?_, fun (c4 : ¬ cs_bf σ i 2 = (3 : Int32)) => ?_⟩
        · iterate 2 refine px_go hX ?_
          exact px_lw hw [(0, .ref (ad 100)), (1, .int (x)), (2, .long (lN (wjs σ (bjs σ x (i + 1))))), (4, .int (nI (i + 1)))] (ih (i + 1) _ _ _ _ (by omega) ⟨hR1, hr1, hK1, hG, hF, by rw [show bjs σ x (i + 1) = bjs σ x i from if_neg (fun w => w.2 c4)]; exact h4n, by rw [show bjs σ x (i + 1) = bjs σ x i from if_neg (fun w => w.2 c4)]; exact h17⟩) ⟨rfl, rfl, (congrArg (fun z => some (Value.long z)) (by rw [show bjs σ x (i + 1) = bjs σ x i from if_neg (fun w => w.2 c4)])), (congrArg (fun z => some (Value.int z)) (nI_succ _).symm), trivial⟩
        · have hin : cs_bf σ i 1 = x ∧ ¬ cs_bf σ i 2 = 3 := ⟨c3, c4⟩
          have h4 : (bjs σ x i).length < 4 := by
            have h5 := hb4 x
            have h6 := pn_ct_mono (fun j => decide (cs_bf σ j 1 = x ∧ ¬ cs_bf σ j 2 = 3)) (show i + 1 ≤ cs_n σ from hlt)
            rw [pn_ct_t (decide_eq_true hin), ← bjs_len] at h6
            omega
          have hbs : bjs σ x (i + 1) = bjs σ x i ++ [i] := if_pos hin
          iterate 2 refine px_go hX ?_
          refine ⟨_, _, (hR1.1 100 _ hr1.1), rfl, ?_⟩
          iterate 3 refine px_go hX ?_
          refine ⟨_, _, (hR1.1 100 _ hr1.1), rfl, ?_⟩
          iterate 3 refine px_go hX ?_
          refine ⟨_, _, hA17x, (by rw [h4m]; exact vp_in_nI (by omega) (by omega)), ?_⟩
          rw [h4m, nI_clamp (n := (bjs σ x i).length) (by omega)]
          iterate 3 refine px_go hX ?_
          refine ⟨_, _, ((px_up_n _ _ (hR.ne hr.1 (hr.2.1 17 (by decide) (by decide) (by decide)) (by decide))).trans (hR1.1 100 _ hr1.1)), rfl, ?_⟩
          iterate 3 refine px_go hX ?_
          refine ⟨_, ((px_up_n _ _ (hR.ne hr.1 (hr.2.1 17 (by decide) (by decide) (by decide)) (by decide))).trans (hR1.1 100 _ hr1.1)), Nat.le_of_ble_eq_true rfl, rfl, rfl, ?_⟩
          have hR2 := ((hR1.put (i := 117) (hr1.2.1 17 (by decide) (by decide) (by decide)) (px_i 4 (upd (F 17) ((bjs σ x i).length) (nI i)))).put (i := 100) ((rp_up_n _ _ (by decide)).trans hr1.1) (px_o 4 [.int (G 0), .int (nI (cs_nb σ)), .int (nI (cs_ti σ)), .int (nI (cs_n σ)), .ref (ad 101), .ref (ad 102), .ref (ad 103), .ref (ad 104), .ref (ad 105), .ref (ad 106), .int (G 1), .int (G 2), .ref (ad 107), .ref (ad 108), .ref (ad 109), .ref (ad 110), .ref (ad 111), .ref (ad 112), .ref (ad 113), .ref (ad 114), .ref (ad 115), .int (G 3), .ref (ad 116), .ref (ad 117), .int ((G 4) + ((1 : Int32)))]))
          have hr2 : Rl ad (((σ.1, (fun q => match q with | 0 => G 0 | 1 => G 1 | 2 => G 2 | 3 => G 3 | _ => G 4 + 1), va_up F 17 (upd (F 17) (bjs σ x i).length (nI i)), fw) : rs_S)) (rp_up (rp_up (K1) (117) (px_i 4 (upd (F 17) ((bjs σ x i).length) (nI i)))) (100) (px_o 4 [.int (G 0), .int (nI (cs_nb σ)), .int (nI (cs_ti σ)), .int (nI (cs_n σ)), .ref (ad 101), .ref (ad 102), .ref (ad 103), .ref (ad 104), .ref (ad 105), .ref (ad 106), .int (G 1), .int (G 2), .ref (ad 107), .ref (ad 108), .ref (ad 109), .ref (ad 110), .ref (ad 111), .ref (ad 112), .ref (ad 113), .ref (ad 114), .ref (ad 115), .int (G 3), .ref (ad 116), .ref (ad 117), .int ((G 4) + ((1 : Int32)))])) := (hr1.sA (q := 17) (by decide) (by decide) (by decide) _).sO _ (fun q => match q with | 0 => G 0 | 1 => G 1 | 2 => G 2 | 3 => G 3 | _ => G 4 + 1)
          have hK2 : ∀ zz, zz < 100 ∨ 118 ≤ zz → (rp_up (rp_up (K1) (117) (px_i 4 (upd (F 17) ((bjs σ x i).length) (nI i)))) (100) (px_o 4 [.int (G 0), .int (nI (cs_nb σ)), .int (nI (cs_ti σ)), .int (nI (cs_n σ)), .ref (ad 101), .ref (ad 102), .ref (ad 103), .ref (ad 104), .ref (ad 105), .ref (ad 106), .int (G 1), .int (G 2), .ref (ad 107), .ref (ad 108), .ref (ad 109), .ref (ad 110), .ref (ad 111), .ref (ad 112), .ref (ad 113), .ref (ad 114), .ref (ad 115), .int (G 3), .ref (ad 116), .ref (ad 117), .int ((G 4) + ((1 : Int32)))])) zz = (K1) zz := fun zz hzz => by rw [rp_up_n _ _ (by omega), rp_up_n _ _ (by omega)]
          iterate 3 refine px_go hX ?_
          refine ⟨_, _, (px_up_s _ _ _), rfl, ?_⟩
          iterate 2 refine px_go hX ?_
          refine ⟨_, _, ((px_up_n _ _ (hR.ne (hr.2.1 3 (by decide) (by decide) (by decide)) hr.1 (by decide))).trans ((px_up_n _ _ (hR.ne (hr.2.1 3 (by decide) (by decide) (by decide)) (hr.2.1 17 (by decide) (by decide) (by decide)) (by decide))).trans hA3x)), (vp_in_nI (by omega) (by omega)), ?_⟩
          rw [nI_clamp (by omega), show F 3 i = cs_bf σ i 2 from (hs1.2.1 i hlt).2.2.1]
          iterate 2 refine px_go hX ?_
          refine ⟨fun (c5 : ¬ cs_bf σ i 2 = (4 : Int32)) => ?_, fun (c5 : cs_bf σ i 2 = (4 : Int32)) => ?_⟩
          · iterate 8 refine px_go hX ?_
            refine ⟨_, _, (px_up_s _ _ _), rfl, ?_⟩
            iterate 2 refine px_go hX ?_
            refine ⟨_, _, ((px_up_n _ _ (hR.ne (hr.2.1 3 (by decide) (by decide) (by decide)) hr.1 (by decide))).trans ((px_up_n _ _ (hR.ne (hr.2.1 3 (by decide) (by decide) (by decide)) (hr.2.1 17 (by decide) (by decide) (by decide)) (by decide))).trans hA3x)), (vp_in_nI (by omega) (by omega)), ?_⟩
            rw [nI_clamp (by omega), show F 3 i = cs_bf σ i 2 from (hs1.2.1 i hlt).2.2.1]
            iterate 3 refine px_go hX ?_
            refine ⟨_, _, (px_up_s _ _ _), rfl, ?_⟩
            iterate 2 refine px_go hX ?_
            refine ⟨_, _, ((px_up_n _ _ (hR.ne (hr.2.1 4 (by decide) (by decide) (by decide)) hr.1 (by decide))).trans ((px_up_n _ _ (hR.ne (hr.2.1 4 (by decide) (by decide) (by decide)) (hr.2.1 17 (by decide) (by decide) (by decide)) (by decide))).trans hA4x)), (vp_in_nI (by omega) (by omega)), ?_⟩
            rw [nI_clamp (by omega), show F 4 i = cs_bf σ i 3 from (hs1.2.1 i hlt).2.2.2]
            iterate 7 refine px_go hX ?_
            have h17s : ∀ k j, (bjs σ x (i + 1))[k]? = some j → va_up F 17 (upd (F 17) (bjs σ x i).length (nI i)) 17 k = nI j := fun k j hk => by
              rw [hbs] at hk
              rw [va_up_self]
              rcases Nat.lt_or_ge k (bjs σ x i).length with hl | hl
              · rw [List.getElem?_append_left hl] at hk
                rw [pk_un (by omega)]
                exact h17 k j hk
              · rw [List.getElem?_append_right hl] at hk
                have h1 := (List.getElem?_eq_some_iff.mp hk).1
                have e1 : [i].length = 1 := rfl
                have h2 : j = i := by
                  have := List.mem_of_getElem? hk
                  simpa using this
                rw [show k = (bjs σ x i).length by omega, pk_us, h2]
            exact px_lw hw [(0, .ref (ad 100)), (1, .int (x)), (2, .long (lN (wjs σ (bjs σ x (i + 1))))), (4, .int (nI (i + 1)))] (ih (i + 1) _ _ _ _ (by omega) ⟨hR2, hr2, fun zz hz => (hK2 zz hz).trans (hK1 zz hz), fun q hq => by match q, hq with | 0, _ => exact hG 0 (by omega) | 1, _ => exact hG 1 (by omega) | 2, _ => exact hG 2 (by omega) | 3, _ => exact hG 3 (by omega), fun q hq => (va_up_ne _ _ hq).trans (hF q hq), by rw [hbs, List.length_append]; show G 4 + 1 = nI ((bjs σ x i).length + 1); rw [h4n, nI_succ], h17s⟩) ⟨rfl, rfl, (congrArg (fun z => some (Value.long z)) (by
                  obtain ⟨s, t, hs3, ht4, q1, q2⟩ : ∃ s t : Nat, s < 3 ∧ t < 4 ∧ cs_bf σ i 2 = nI s ∧ cs_bf σ i 3 = nI t := (hrg i hlt).elim (fun w => absurd w hin.2) (fun w => w.elim (fun w => absurd w c5) (fun w => w))
                  have hp : plc σ i = 4 * s + t := by
                    unfold plc
                    rw [if_neg c5, q1, q2, nI_clamp (by omega), nI_clamp (by omega)]
                    omega
                  rw [hbs, wjs_s, hp, nld, decide_eq_true (show 4 * s + t < 12 by omega)]
                  show lN (wjs σ (bjs σ x i)) ||| ((nI (bjs σ x i).length + 1).toInt64 <<< (((3 : Int32) * ((4 : Int32) * (cs_bf σ i 2) + (cs_bf σ i 3))).toInt64 &&& 63)) = lN (wjs σ (bjs σ x i) ||| ((bjs σ x i).length + 1) * 2 ^ (3 * (4 * s + t)))
                  rw [q1, q2, wl_t0 h4 hs3 ht4, wl_o (Nat.lt_trans hwl (by omega)) (wl_t0l h4 hs3 ht4)])), (congrArg (fun z => some (Value.int z)) (nI_succ _).symm), trivial⟩
          · iterate 10 refine px_go hX ?_
            have h17s : ∀ k j, (bjs σ x (i + 1))[k]? = some j → va_up F 17 (upd (F 17) (bjs σ x i).length (nI i)) 17 k = nI j := fun k j hk => by
              rw [hbs] at hk
              rw [va_up_self]
              rcases Nat.lt_or_ge k (bjs σ x i).length with hl | hl
              · rw [List.getElem?_append_left hl] at hk
                rw [pk_un (by omega)]
                exact h17 k j hk
              · rw [List.getElem?_append_right hl] at hk
                have h1 := (List.getElem?_eq_some_iff.mp hk).1
                have e1 : [i].length = 1 := rfl
                have h2 : j = i := by
                  have := List.mem_of_getElem? hk
                  simpa using this
                rw [show k = (bjs σ x i).length by omega, pk_us, h2]
            exact px_lw hw [(0, .ref (ad 100)), (1, .int (x)), (2, .long (lN (wjs σ (bjs σ x (i + 1))))), (4, .int (nI (i + 1)))] (ih (i + 1) _ _ _ _ (by omega) ⟨hR2, hr2, fun zz hz => (hK2 zz hz).trans (hK1 zz hz), fun q hq => by match q, hq with | 0, _ => exact hG 0 (by omega) | 1, _ => exact hG 1 (by omega) | 2, _ => exact hG 2 (by omega) | 3, _ => exact hG 3 (by omega), fun q hq => (va_up_ne _ _ hq).trans (hF q hq), by rw [hbs, List.length_append]; show G 4 + 1 = nI ((bjs σ x i).length + 1); rw [h4n, nI_succ], h17s⟩) ⟨rfl, rfl, (congrArg (fun z => some (Value.long z)) (by
                  rw [hbs, wjs_s, show plc σ i = 13 from if_pos c5]
                  show lN (wjs σ (bjs σ x i)) ||| (lN 1 <<< (((36 : Int32) + nI (bjs σ x i).length).toInt64 &&& 63)) = _
                  rw [wl_36s h4, wl_o (Nat.lt_trans hwl (by omega)) (wb_lt2 (by omega))]
                  rfl)), (congrArg (fun z => some (Value.int z)) (nI_succ _).symm), trivial⟩
  exact px_lw hw [(0, .ref (ad 100)), (1, .int (x)), (2, .long (lN (wjs σ (bjs σ x 0)))), (4, .int (nI 0))] (loop (cs_n σ - 0) 0 _ _ _ _ (by omega) ⟨hR0, hr0, hK0, fun q hq => by match q, hq with | 0, _ => rfl | 1, _ => rfl | 2, _ => rfl | 3, _ => rfl, fun _ _ => rfl, rfl, fun k j hk => by simp [bjs] at hk⟩) ⟨rfl, rfl, rfl, rfl, trivial⟩
end SM
