/-! The reference's search: what comes, by its table. -/
/-- where the table looks first -/
def hh (W : Nat) : Nat := (((((lN W * px_jc (-7046029254386353131)).toUInt64 >>> ((px_ic 40).toInt64.toUInt64 &&& Int64.toUInt64 63)).toInt64 &&& px_jc 4095).toInt32).toNatClampNeg)
theorem hh_ok (W : Nat) : hh W < 4096 ∧ ((((lN W * px_jc (-7046029254386353131)).toUInt64 >>> ((px_ic 40).toInt64.toUInt64 &&& Int64.toUInt64 63)).toInt64 &&& px_jc 4095).toInt32) = nI (hh W) := by
  unfold hh
  obtain ⟨a, ha, e⟩ := wb_of ((lN W * px_jc (-7046029254386353131)).toUInt64 >>> ((px_ic 40).toInt64.toUInt64 &&& Int64.toUInt64 63)).toInt64
  rw [e, show lN a &&& px_jc 4095 = lN (a % 4096) from wb_mask (k := 12) ha (by decide), lN_i, nI_clamp (by omega)]
  exact ⟨Nat.mod_lt _ (by decide), rfl⟩
theorem pn_ct_all {p : Nat → Bool} : ∀ n, (∀ i, i < n → p i = true) → pn_ct p n = n
  | 0, _ => rfl
  | n + 1, h => by
    rw [pn_ct_t (h n (by omega)), pn_ct_all n (fun i hi => h i (by omega))]
theorem pn_ct_up {p q : Nat → Bool} {s : Nat} (h0 : p s = false) (h1 : q s = true) (hn : ∀ i, i ≠ s → q i = p i) : ∀ n, pn_ct q n = pn_ct p n + if s < n then 1 else 0
  | 0 => rfl
  | n + 1 => by
    have ih := pn_ct_up h0 h1 hn n
    by_cases hs : s = n
    · subst hs
      rw [pn_ct_t h1, pn_ct_f h0, ih, if_neg (Nat.lt_irrefl _), if_pos (Nat.lt_succ_self _)]
    · have e : (if s < n then 1 else 0) = (if s < n + 1 then 1 else 0) := by
        by_cases q : s < n
        · rw [if_pos q, if_pos (by omega)]
        · rw [if_neg q, if_neg (by omega)]
      cases hb : p n with
      | true => rw [pn_ct_t ((hn n (fun w => hs w.symm)).trans hb), pn_ct_t hb, ih, e]; omega
      | false => rw [pn_ct_f ((hn n (fun w => hs w.symm)).trans hb), pn_ct_f hb, ih, e]
def sl (W j : Nat) : Nat := (hh W + j) % 4096
theorem sl_0 (W : Nat) : sl W 0 = hh W := by
  unfold sl
  rw [Nat.add_zero]
  exact Nat.mod_eq_of_lt (hh_ok W).1
theorem sl_lt (W j : Nat) : sl W j < 4096 := Nat.mod_lt _ (by decide)
theorem sl_next (W j : Nat) : (nI (sl W j) + px_ic 1) &&& px_ic 4095 = nI (sl W (j + 1)) := by
  have := sl_lt W j
  rw [show px_ic 1 = 1 from rfl, nI_1, pk_andN (by omega) 12 (by decide +kernel)]
  congr 1
  unfold sl
  omega
/-- the table finds what is in the queue -/
def Hh (n : Nat) (h : Nat → Int32) (Q : List qE) : Prop :=
  (∀ s, s < 4096 → ∃ v, v ≤ Q.length ∧ h s = nI v) ∧ pn_ct (fun s => !decide (h s = 0)) 4096 = Q.length ∧
  ∀ (i : Nat) (x : qE), Q[i]? = some x → ∃ j, h (sl (ew x.1 n) j) = nI (i + 1) ∧ ∀ j', j' < j → ¬ h (sl (ew x.1 n) j') = 0
/-- an empty place is met -/
theorem Hh.free {n : Nat} {h : Nat → Int32} {Q : List qE} (hH : Hh n h Q) (hl : Q.length ≤ 1240) (W : Nat) : ∃ J, h (sl W J) = 0 ∧ ∀ j, j < J → ¬ h (sl W j) = 0 := by
  refine pk_least (fun J => h (sl W J) = 0) (Classical.byContradiction (fun hno => ?_))
  have : pn_ct (fun s => !decide (h s = 0)) 4096 = 4096 := pn_ct_all 4096 (fun s hs => by
    have h1 := (hh_ok W).1
    have e : sl W (s + 4096 - hh W) = s := by
      unfold sl
      omega
    have : ¬ h s = 0 := fun w => hno ⟨_, by rw [e]; exact w⟩
    simp [this])
  rw [hH.2.1] at this
  omega
/-- the table with one more -/
theorem Hh.put {n : Nat} {h : Nat → Int32} {Q : List qE} (hH : Hh n h Q) (hl : Q.length < 1240) {c p s J : Nat} (hJ : h (sl (ew c n) J) = 0) (hlt : ∀ j, j < J → ¬ h (sl (ew c n) j) = 0) : Hh n (upd h (sl (ew c n) J) (nI (Q.length + 1))) (Q ++ [(c, p, s)]) := by
  obtain ⟨a, b, d⟩ := hH
  have hlen : (Q ++ [((c, p, s) : qE)]).length = Q.length + 1 := by rw [List.length_append]; rfl
  have keep : ∀ t, ¬ h t = 0 → upd h (sl (ew c n) J) (nI (Q.length + 1)) t = h t := fun t ht => pk_un (fun w => ht (by rw [w]; exact hJ))
  refine ⟨fun t ht => ?_, ?_, fun i x hx => ?_⟩
  · rw [hlen]
    by_cases e : t = sl (ew c n) J
    · exact ⟨Q.length + 1, Nat.le_refl _, by rw [e, pk_us]⟩
    · obtain ⟨v, hv, hv2⟩ := a t ht
      exact ⟨v, by omega, by rw [pk_un e]; exact hv2⟩
  · rw [hlen, pn_ct_up (p := fun s => !decide (h s = 0)) (s := sl (ew c n) J) (by simp [hJ]) (by
      have : ¬ nI (Q.length + 1) = 0 := nI_ne0 (by omega) (by omega)
      simp [pk_us, this]) (fun i hi => by simp [pk_un hi]), b, if_pos (sl_lt _ _)]
  · rcases app_at hx with ⟨q1, q2⟩ | ⟨q1, q2⟩
    · obtain ⟨j, hj, hj2⟩ := d i x q2
      refine ⟨j, ?_, fun j' hj' => ?_⟩
      · rw [keep _ (by rw [hj]; exact nI_ne0 (by omega) (by omega))]
        exact hj
      · rw [keep _ (hj2 j' hj')]
        exact hj2 j' hj'
    · rw [q2, q1]
      refine ⟨J, pk_us, fun j hj => ?_⟩
      rw [keep _ (hlt j hj)]
      exact hlt j hj
/-- the reference's arrays hold the queue -/
def Hq (n : Nat) (ρ : rs_S) (Q : List qE) : Prop :=
  rs_sc ρ 3 = nI Q.length ∧ Q.length ≤ 1240 ∧ (∀ (i : Nat) (x : qE), Q[i]? = some x → rs_w ρ i = lN (ew x.1 n) ∧ rs_a ρ 14 i = nI x.2.1 - 1 ∧ rs_a ρ 15 i = nI (x.2.2 % 64)) ∧ Hh n (rs_a ρ 16) Q
/-- behind what comes: boxes, bays and needs are the same -/
def Kc (ρ ρ' : rs_S) : Prop := ρ'.1 = ρ.1 ∧ (∀ q, q ≠ 3 → q < 5 → rs_sc ρ' q = rs_sc ρ q) ∧ (∀ q, q ≠ 14 → q ≠ 15 → q ≠ 16 → rs_a ρ' q = rs_a ρ q)
theorem Kc.rf (ρ : rs_S) : Kc ρ ρ := ⟨rfl, fun _ _ _ => rfl, fun _ _ _ _ => rfl⟩
theorem Kc.tr {ρ ρ1 ρ2 : rs_S} (h : Kc ρ ρ1) (h2 : Kc ρ1 ρ2) : Kc ρ ρ2 := ⟨h2.1.trans h.1, fun q a b => (h2.2.1 q a b).trans (h.2.1 q a b), fun q a b c => (h2.2.2 q a b c).trans (h.2.2 q a b c)⟩
theorem Kc.sim {σ : ck_S} {ρ ρ' : rs_S} (h : Kc ρ ρ') (hs : Sim σ ρ) : Sim σ ρ' := by
  obtain ⟨p, fs, fa, fw⟩ := ρ
  obtain ⟨p', fs', fa', fw'⟩ := ρ'
  obtain ⟨h1, h2, h3⟩ := h
  have h1 : p' = p := h1
  subst h1
  exact hs.kp (fun q hq => h2 q (by omega) (by omega)) (fun q hq => h3 q (by omega) (by omega) (by omega))
theorem Kc.mn {σ : ck_S} {ρ ρ' : rs_S} (h : Kc ρ ρ') {mc : Nat} {jn : Nat → Nat} (hM : Mn σ ρ mc jn) : Mn σ ρ' mc jn := ⟨(h.2.1 4 (by omega) (by omega)).trans hM.1, hM.2.1, fun k hk => ⟨by rw [h.2.2 17 (by omega) (by omega) (by omega)]; exact (hM.2.2 k hk).1, (hM.2.2 k hk).2⟩⟩
theorem ew_lt {c n : Nat} (hn : n ≤ 4) (h : ∀ k, k < n → pl c k < 14) : ew c n < 2 ^ 44 := by
  rw [← wj_ew]
  exact wj_lt n hn h
section SN
variable {B : Nat} {sc : Option (Nat × Nat × (Nat → Int32))} {d : Nat} {ad : Nat → Nat} {σ : ck_S} {ρ : rs_S} {K : rp_K} {C : px_P}
theorem rr_comes (hR : Rp ad K C) (hr : Rl ad ρ K) {n : Nat} {Q : List qE} (hH : Hq n ρ Q) {c p s : Nat} (hl : Q.length < 1240 ∨ c ∈ qc Q) (hinj : ∀ x ∈ Q, ew x.1 n = ew c n → x.1 = c) (hwb : ∀ x ∈ Q, ew x.1 n < 2 ^ 44) (hwc : ew c n < 2 ^ 44) {xa xb : Int32} (hxa : xa = nI p - 1) (hxb : xb = nI (s % 64)) : px_W ps_Y ps_P B sc (d + 1) 69 [.ref (ad 100), .long (lN (ew c n)), .int xa, .int xb] C 0 0 (fun v C' => v = none ∧ ∃ ρ', Cr ad ρ' K C' ∧ Kc ρ ρ' ∧ Hq n ρ' (ad1 Q (c, p, s))) px_no := by
  obtain ⟨pp, fs, fa, fw⟩ := ρ
  have hA13 : C (ad 113) = some (px_j 2048 (fw)) := hR.1 113 _ hr.2.2
  have hA14 : C (ad 114) = some (px_i 2048 (fa 14)) := hR.1 114 _ (hr.2.1 14 (by decide) (by decide) (by decide))
  have hA15 : C (ad 115) = some (px_i 2048 (fa 15)) := hR.1 115 _ (hr.2.1 15 (by decide) (by decide) (by decide))
  have hA16 : C (ad 116) = some (px_i 4096 (fa 16)) := hR.1 116 _ (hr.2.1 16 (by decide) (by decide) (by decide))
  obtain ⟨h3, hl1, hq, hh1⟩ := hH
  have h3 : fs 3 = nI Q.length := h3
  obtain ⟨J, hJ, hJ2⟩ := hh1.free hl1 (ew c n)
  have hJ : fa 16 (sl (ew c n) J) = 0 := hJ
  refine ⟨pm_Ref_comes, rfl, Nat.le_of_ble_eq_true rfl, fun X hw hX => ?_⟩
  have loop : ∀ kk j, j + kk = J → (∀ j', j' < j → ∀ v, v < Q.length → fa 16 (sl (ew c n) j') = nI (v + 1) → ¬ fw v = lN (ew c n)) → X (15, [(0, .ref (ad 100)), (1, .long (lN (ew c n))), (3, .int (xa)), (4, .int (xb)), (5, .int (nI (sl (ew c n) j)))], [], C, 0, 0) := by
    intro kk
    induction kk with
    | zero =>
      intro j hi hvis
      have hlt : j = J := hi
      have hz0 : fa 16 (sl (ew c n) j) = 0 := by rw [hlt]; exact hJ
      iterate 2 refine px_go hX ?_
      refine ⟨_, _, (hR.1 100 _ hr.1), rfl, ?_⟩
      iterate 2 refine px_go hX ?_
      refine ⟨_, _, hA16, (vp_in_nI (sl_lt _ _) (by omega)), ?_⟩
      rw [nI_clamp (n := sl (ew c n) j) (Nat.lt_trans (sl_lt _ _) (by omega)), hz0]
      refine px_go hX ?_
      refine ⟨fun (c1 : (0 : Int32) ≤ 0) => ?_, fun (c1 : ¬ (0 : Int32) ≤ 0) => absurd (Int32.le_refl _) c1⟩
      have hnm : c ∉ qc Q := fun hm => by
        obtain ⟨x, hx, e⟩ := List.mem_map.mp hm
        obtain ⟨i, hi⟩ := List.getElem?_of_mem hx
        have hil := (List.getElem?_eq_some_iff.mp hi).1
        obtain ⟨j0, hj0, hj1⟩ := hh1.2.2 i x hi
        have e : x.1 = c := e
        rw [e] at hj0 hj1
        have hj2 : j0 < J := by
          rcases Nat.lt_trichotomy j0 J with q | q | q
          · exact q
          · rw [q] at hj0
            exact absurd (hJ.symm.trans hj0) (fun w => nI_ne0 (n := i + 1) (by omega) (by omega) w.symm)
          · exact absurd hJ (hj1 J q)
        exact hvis j0 (by omega) i hil hj0 (by rw [← e]; exact (hq i x hi).1)
      have hlt2 : Q.length < 1240 := hl.elim id (fun w => absurd w hnm)
      have h3m : rs_sc ((pp, fs, fa, fw) : rs_S) 3 = nI Q.length := h3
      iterate 2 refine px_go hX ?_
      refine ⟨_, _, (hR.1 100 _ hr.1), rfl, ?_⟩
      iterate 2 refine px_go hX ?_
      refine ⟨_, _, (hR.1 100 _ hr.1), rfl, ?_⟩
      iterate 2 refine px_go hX ?_
      refine ⟨_, _, hA13, (by rw [h3m]; exact vp_in_nI (by omega) (by omega)), ?_⟩
      rw [h3m, nI_clamp (n := Q.length) (by omega)]
      iterate 2 refine px_go hX ?_
      refine ⟨_, _, ((px_up_n _ _ (hR.ne hr.1 hr.2.2 (by decide))).trans (hR.1 100 _ hr.1)), rfl, ?_⟩
      iterate 2 refine px_go hX ?_
      refine ⟨_, _, ((px_up_n _ _ (hR.ne hr.1 hr.2.2 (by decide))).trans (hR.1 100 _ hr.1)), rfl, ?_⟩
      iterate 2 refine px_go hX ?_
      refine ⟨_, _, ((px_up_n _ _ (hR.ne (hr.2.1 14 (by decide) (by decide) (by decide)) hr.2.2 (by decide))).trans hA14), (by rw [h3m]; exact vp_in_nI (by omega) (by omega)), ?_⟩
      rw [h3m, nI_clamp (n := Q.length) (by omega)]
      iterate 2 refine px_go hX ?_
      refine ⟨_, _, ((px_up_n _ _ (hR.ne hr.1 (hr.2.1 14 (by decide) (by decide) (by decide)) (by decide))).trans ((px_up_n _ _ (hR.ne hr.1 hr.2.2 (by decide))).trans (hR.1 100 _ hr.1))), rfl, ?_⟩
      iterate 2 refine px_go hX ?_
      refine ⟨_, _, ((px_up_n _ _ (hR.ne hr.1 (hr.2.1 14 (by decide) (by decide) (by decide)) (by decide))).trans ((px_up_n _ _ (hR.ne hr.1 hr.2.2 (by decide))).trans (hR.1 100 _ hr.1))), rfl, ?_⟩
      iterate 2 refine px_go hX ?_
      refine ⟨_, _, ((px_up_n _ _ (hR.ne (hr.2.1 15 (by decide) (by decide) (by decide)) (hr.2.1 14 (by decide) (by decide) (by decide)) (by decide))).trans ((px_up_n _ _ (hR.ne (hr.2.1 15 (by decide) (by decide) (by decide)) hr.2.2 (by decide))).trans hA15)), (by rw [h3m]; exact vp_in_nI (by omega) (by omega)), ?_⟩
      rw [h3m, nI_clamp (n := Q.length) (by omega)]
      iterate 3 refine px_go hX ?_
      refine ⟨_, _, ((px_up_n _ _ (hR.ne hr.1 (hr.2.1 15 (by decide) (by decide) (by decide)) (by decide))).trans ((px_up_n _ _ (hR.ne hr.1 (hr.2.1 14 (by decide) (by decide) (by decide)) (by decide))).trans ((px_up_n _ _ (hR.ne hr.1 hr.2.2 (by decide))).trans (hR.1 100 _ hr.1)))), rfl, ?_⟩
      iterate 3 refine px_go hX ?_
      refine ⟨_, ((px_up_n _ _ (hR.ne hr.1 (hr.2.1 15 (by decide) (by decide) (by decide)) (by decide))).trans ((px_up_n _ _ (hR.ne hr.1 (hr.2.1 14 (by decide) (by decide) (by decide)) (by decide))).trans ((px_up_n _ _ (hR.ne hr.1 hr.2.2 (by decide))).trans (hR.1 100 _ hr.1)))), Nat.le_of_ble_eq_true rfl, rfl, rfl, ?_⟩
      iterate 2 refine px_go hX ?_
      refine ⟨_, _, (px_up_s _ _ _), rfl, ?_⟩
      iterate 3 refine px_go hX ?_
      refine ⟨_, _, (px_up_s _ _ _), rfl, ?_⟩
      refine px_go hX ?_
      refine ⟨_, _, ((px_up_n _ _ (hR.ne (hr.2.1 16 (by decide) (by decide) (by decide)) hr.1 (by decide))).trans ((px_up_n _ _ (hR.ne (hr.2.1 16 (by decide) (by decide) (by decide)) (hr.2.1 15 (by decide) (by decide) (by decide)) (by decide))).trans ((px_up_n _ _ (hR.ne (hr.2.1 16 (by decide) (by decide) (by decide)) (hr.2.1 14 (by decide) (by decide) (by decide)) (by decide))).trans ((px_up_n _ _ (hR.ne (hr.2.1 16 (by decide) (by decide) (by decide)) hr.2.2 (by decide))).trans hA16)))), (vp_in_nI (sl_lt _ _) (by omega)), ?_⟩
      rw [nI_clamp (n := sl (ew c n) j) (Nat.lt_trans (sl_lt _ _) (by omega))]
      refine px_go hX ?_
      have hR1 := (((((hR.put (i := 113) hr.2.2 (px_j 2048 (vp_updL (fw) (Q.length) (lN (ew c n))))).put (i := 114) ((rp_up_n _ _ (by decide)).trans (hr.2.1 14 (by decide) (by decide) (by decide))) (px_i 2048 (upd (fa 14) (Q.length) (xa)))).put (i := 115) ((rp_up_n _ _ (by decide)).trans ((rp_up_n _ _ (by decide)).trans (hr.2.1 15 (by decide) (by decide) (by decide)))) (px_i 2048 (upd (fa 15) (Q.length) (xb)))).put (i := 100) ((rp_up_n _ _ (by decide)).trans ((rp_up_n _ _ (by decide)).trans ((rp_up_n _ _ (by decide)).trans hr.1))) (px_o 4 [.int (fs 0), .int (nI (pp.1)), .int (nI (pp.2.1)), .int (nI (pp.2.2)), .ref (ad 101), .ref (ad 102), .ref (ad 103), .ref (ad 104), .ref (ad 105), .ref (ad 106), .int (fs 1), .int (fs 2), .ref (ad 107), .ref (ad 108), .ref (ad 109), .ref (ad 110), .ref (ad 111), .ref (ad 112), .ref (ad 113), .ref (ad 114), .ref (ad 115), .int ((fs 3) + ((1 : Int32))), .ref (ad 116), .ref (ad 117), .int (fs 4)])).put (i := 116) ((rp_up_n _ _ (by decide)).trans ((rp_up_n _ _ (by decide)).trans ((rp_up_n _ _ (by decide)).trans ((rp_up_n _ _ (by decide)).trans (hr.2.1 16 (by decide) (by decide) (by decide)))))) (px_i 4096 (upd (fa 16) (sl (ew c n) j) ((fs 3) + ((1 : Int32))))))
      have hr1 : Rl ad (((pp, (fun q => match q with | 0 => fs 0 | 1 => fs 1 | 2 => fs 2 | 3 => fs 3 + 1 | _ => fs 4), va_up (va_up (va_up fa 14 (upd (fa 14) Q.length xa)) 15 (upd (fa 15) Q.length xb)) 16 (upd (fa 16) (sl (ew c n) j) (fs 3 + 1)), vp_updL fw Q.length (lN (ew c n))) : rs_S)) (rp_up (rp_up (rp_up (rp_up (rp_up (K) (113) (px_j 2048 (vp_updL (fw) (Q.length) (lN (ew c n))))) (114) (px_i 2048 (upd (fa 14) (Q.length) (xa)))) (115) (px_i 2048 (upd (fa 15) (Q.length) (xb)))) (100) (px_o 4 [.int (fs 0), .int (nI (pp.1)), .int (nI (pp.2.1)), .int (nI (pp.2.2)), .ref (ad 101), .ref (ad 102), .ref (ad 103), .ref (ad 104), .ref (ad 105), .ref (ad 106), .int (fs 1), .int (fs 2), .ref (ad 107), .ref (ad 108), .ref (ad 109), .ref (ad 110), .ref (ad 111), .ref (ad 112), .ref (ad 113), .ref (ad 114), .ref (ad 115), .int ((fs 3) + ((1 : Int32))), .ref (ad 116), .ref (ad 117), .int (fs 4)])) (116) (px_i 4096 (upd (fa 16) (sl (ew c n) j) ((fs 3) + ((1 : Int32)))))) := ((((hr.sW _).sA (q := 14) (by decide) (by decide) (by decide) _).sA (q := 15) (by decide) (by decide) (by decide) _).sO _ (fun q => match q with | 0 => fs 0 | 1 => fs 1 | 2 => fs 2 | 3 => fs 3 + 1 | _ => fs 4)).sA (q := 16) (by decide) (by decide) (by decide) _
      have hK1 : ∀ zz, zz < 100 ∨ 118 ≤ zz → (rp_up (rp_up (rp_up (rp_up (rp_up (K) (113) (px_j 2048 (vp_updL (fw) (Q.length) (lN (ew c n))))) (114) (px_i 2048 (upd (fa 14) (Q.length) (xa)))) (115) (px_i 2048 (upd (fa 15) (Q.length) (xb)))) (100) (px_o 4 [.int (fs 0), .int (nI (pp.1)), .int (nI (pp.2.1)), .int (nI (pp.2.2)), .ref (ad 101), .ref (ad 102), .ref (ad 103), .ref (ad 104), .ref (ad 105), .ref (ad 106), .int (fs 1), .int (fs 2), .ref (ad 107), .ref (ad 108), .ref (ad 109), .ref (ad 110), .ref (ad 111), .ref (ad 112), .ref (ad 113), .ref (ad 114), .ref (ad 115), .int ((fs 3) + ((1 : Int32))), .ref (ad 116), .ref (ad 117), .int (fs 4)])) (116) (px_i 4096 (upd (fa 16) (sl (ew c n) j) ((fs 3) + ((1 : Int32)))))) zz = (K) zz := fun zz hzz => by rw [rp_up_n _ _ (by omega), rp_up_n _ _ (by omega), rp_up_n _ _ (by omega), rp_up_n _ _ (by omega), rp_up_n _ _ (by omega)]
      have hl2 : (Q ++ [((c, p, s) : qE)]).length = Q.length + 1 := by rw [List.length_append]; rfl
      refine ⟨rfl, _, ⟨_, hR1, hr1, hK1⟩, ⟨rfl, fun q q1 q2 => ?_, fun q q1 q2 q3 => ?_⟩, ?_⟩
      · match q, q1, q2 with
        | 0, _, _ => rfl
        | 1, _, _ => rfl
        | 2, _, _ => rfl
        | 4, _, _ => rfl
      · show va_up (va_up (va_up fa 14 _) 15 _) 16 _ q = fa q
        rw [va_up_ne _ _ q3, va_up_ne _ _ q2, va_up_ne _ _ q1]
      · rw [show ad1 Q (c, p, s) = Q ++ [(c, p, s)] from if_neg hnm]
        refine ⟨?_, by rw [hl2]; omega, fun i x hx => ?_, ?_⟩
        · show fs 3 + 1 = _
          rw [h3, hl2, nI_succ]
        · show vp_updL fw Q.length (lN (ew c n)) i = _ ∧ va_up (va_up (va_up fa 14 (upd (fa 14) Q.length xa)) 15 (upd (fa 15) Q.length xb)) 16 (upd (fa 16) (sl (ew c n) j) (fs 3 + 1)) 14 i = _ ∧ va_up (va_up (va_up fa 14 (upd (fa 14) Q.length xa)) 15 (upd (fa 15) Q.length xb)) 16 (upd (fa 16) (sl (ew c n) j) (fs 3 + 1)) 15 i = _
          rw [va_up_ne _ _ (by omega), va_up_ne _ _ (by omega), va_up_self, va_up_ne _ _ (by omega), va_up_self]
          rcases app_at hx with ⟨w1, w2⟩ | ⟨w1, w2⟩
          · rw [pk_uLn (by omega), pk_un (by omega), pk_un (by omega)]
            exact hq i x w2
          · rw [w1, w2, pk_uLs, pk_us, pk_us]
            exact ⟨rfl, hxa, hxb⟩
        · show Hh n (va_up (va_up (va_up fa 14 (upd (fa 14) Q.length xa)) 15 (upd (fa 15) Q.length xb)) 16 (upd (fa 16) (sl (ew c n) j) (fs 3 + 1)) 16) _
          rw [va_up_self, h3, ← nI_succ, hlt]
          exact hh1.put hlt2 hJ hJ2
    | succ kk ih =>
      intro j hi hvis
      have hlt : j < J := by omega
      obtain ⟨v, hvl, hv⟩ : ∃ v, v < Q.length ∧ fa 16 (sl (ew c n) j) = nI (v + 1) := by
        obtain ⟨v, hv, hv2⟩ := hh1.1 (sl (ew c n) j) (sl_lt _ _)
        cases v with
        | zero => exact absurd hv2 (hJ2 j hlt)
        | succ v => exact ⟨v, hv, hv2⟩
      obtain ⟨x, hx⟩ : ∃ x, Q[v]? = some x := ⟨_, List.getElem?_eq_getElem hvl⟩
      iterate 2 refine px_go hX ?_
      refine ⟨_, _, (hR.1 100 _ hr.1), rfl, ?_⟩
      iterate 2 refine px_go hX ?_
      refine ⟨_, _, hA16, (vp_in_nI (sl_lt _ _) (by omega)), ?_⟩
      rw [nI_clamp (n := sl (ew c n) j) (Nat.lt_trans (sl_lt _ _) (by omega)), hv]
      refine px_go hX ?_
      refine ⟨fun (c2 : nI (v + 1) ≤ 0) => absurd c2 (nI_nle (by omega) (by omega)), fun (c2 : ¬ nI (v + 1) ≤ 0) => ?_⟩
      iterate 2 refine px_go hX ?_
      refine ⟨_, _, (hR.1 100 _ hr.1), rfl, ?_⟩
      iterate 2 refine px_go hX ?_
      refine ⟨_, _, (hR.1 100 _ hr.1), rfl, ?_⟩
      iterate 2 refine px_go hX ?_
      refine ⟨_, _, hA16, (vp_in_nI (sl_lt _ _) (by omega)), ?_⟩
      rw [nI_clamp (n := sl (ew c n) j) (Nat.lt_trans (sl_lt _ _) (by omega)), hv]
      iterate 3 refine px_go hX ?_
      refine ⟨_, _, hA13, (by rw [show nI (v + 1) - px_ic 1 = nI v from nI_pred v]; exact vp_in_nI (by omega) (by omega)), ?_⟩
      rw [show nI (v + 1) - px_ic 1 = nI v from nI_pred v, nI_clamp (n := v) (by omega)]
      iterate 3 refine px_go hX ?_
      refine ⟨fun (c3 : ¬ lg_cmp (fw v) (lN (ew c n)) = 0) => ?_, fun (c3 : lg_cmp (fw v) (lN (ew c n)) = 0) => ?_⟩
      · iterate 7 refine px_go hX ?_
        exact px_lw hw [(0, .ref (ad 100)), (1, .long (lN (ew c n))), (3, .int (xa)), (4, .int (xb)), (5, .int (nI (sl (ew c n) (j + 1))))] (ih (j + 1) (by omega) (fun j' hj' w hwl hw2 => by
              rcases Nat.lt_or_ge j' j with q | q
              · exact hvis j' q w hwl hw2
              · rw [show j' = j by omega, hv] at hw2
                have := (nI_eq (by omega) (by omega)).mp hw2
                obtain rfl : v = w := by omega
                exact fun z => c3 ((lg_cmp_eq _ _).mpr z))) ⟨rfl, rfl, rfl, rfl, (congrArg (fun z => some (Value.int z)) (sl_next (ew c n) j)), trivial⟩
      · refine px_go hX ?_
        have e : fw v = lN (ew c n) := (lg_cmp_eq _ _).mp c3
        have e2 : fw v = lN (ew x.1 n) := (hq v x hx).1
        have hxm := List.mem_of_getElem? hx
        have e3 : x.1 = c := hinj x hxm ((pk_lEQ (Nat.lt_trans (hwb x hxm) (by omega)) (Nat.lt_trans hwc (by omega))).mp (e2.symm.trans e))
        have hm : c ∈ qc Q := List.mem_map.mpr ⟨x, hxm, e3⟩
        refine ⟨rfl, (pp, fs, fa, fw), Cr.of hR hr, Kc.rf _, ?_⟩
        rw [show ad1 Q (c, p, s) = Q from if_pos hm]
        exact ⟨h3, hl1, hq, hh1⟩
  iterate 9 refine px_go hX ?_
  exact px_lw hw [(0, .ref (ad 100)), (1, .long (lN (ew c n))), (3, .int (xa)), (4, .int (xb)), (5, .int (nI (sl (ew c n) 0)))] (loop (J - 0) 0 (by omega) (fun j' hj' => absurd hj' (Nat.not_lt_zero j'))) ⟨rfl, rfl, rfl, rfl, (congrArg (fun z => some (Value.int z)) ((hh_ok (ew c n)).2.trans (by rw [sl_0]))), trivial⟩
end SN
