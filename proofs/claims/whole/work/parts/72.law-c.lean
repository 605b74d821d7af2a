/-! The law: one call after the other, both answer alike. -/
def rs_0 (nb ti : Nat) : rs_S := ((nb, ti, 0), fun _ => 0, fun _ _ => 0, fun _ => 0)
theorem Inv.init {nb ti : Nat} (h1 : 1 ≤ nb) (h2 : nb ≤ 4) (h3 : 1 ≤ ti) (h4 : ti ≤ 4) : Inv (cs_0 nb ti) := by
  refine ⟨⟨h1, h2, h3, h4, Nat.zero_le _⟩, fun j hj => absurd hj (Nat.not_lt_zero j), fun j hj => absurd hj (Nat.not_lt_zero j), fun j hj => absurd hj (Nat.not_lt_zero j), fun x y hx => absurd hx (Nat.not_lt_zero x), fun b _ => ⟨0, 0, rfl, rfl, Nat.le_refl _, Nat.zero_le _, fun _ => rfl⟩, fun _ _ => rfl, fun x => Nat.zero_le _, fun b _ => ⟨fun s _ => Nat.zero_le _, fun j hj => absurd hj (Nat.not_lt_zero j), fun j j' hj => absurd hj (Nat.not_lt_zero j)⟩, fun b _ h0 => absurd rfl h0, fun b _ h0 => absurd rfl h0⟩
theorem Sim.init (nb ti : Nat) : Sim (cs_0 nb ti) (rs_0 nb ti) :=
  ⟨⟨rfl, rfl, rfl⟩, fun j hj => absurd hj (Nat.not_lt_zero j), fun i j _ _ => Or.inr ⟨fun w => absurd w.1 (Nat.not_lt_zero j), rfl⟩, fun b _ => ⟨rfl, rfl, fun w => absurd rfl w, 0, 0, rfl, rfl, Nat.le_refl _, Nat.zero_le _⟩⟩
section VA
variable {σ : ck_S}
theorem Inv.dual (h : Inv σ) (x : Int32) : Inv (of_dual σ x).2.2 := by
  unfold of_dual
  split <;> exact h
theorem Inv.least (h : Inv σ) (x : Int32) : Inv (of_least σ x).2.2 := by
  unfold of_least
  split <;> exact h
theorem Inv.look (h : Inv σ) (x y : Int32) : Inv (of_look σ x y).2.2 := by
  unfold of_look
  split
  · exact h
  · split <;> exact h
theorem Inv.move (h : Inv σ) (x y z : Int32) : Inv (of_move σ x y z).2.2 := by
  unfold of_move
  split
  · exact h
  · split <;> exact h
theorem of_dual_l (x : Int32) : (of_dual σ x).1 ≤ 2 := by
  unfold of_dual
  split <;> (show _ ≤ 2; omega)
theorem of_least_l (x : Int32) : (of_least σ x).1 ≤ 2 := by
  unfold of_least
  split <;> (show _ ≤ 2; omega)
theorem of_look_l (x y : Int32) : (of_look σ x y).1 ≤ 2 := by
  unfold of_look
  split
  · show _ ≤ 2; omega
  · split <;> (show _ ≤ 2; omega)
theorem of_move_l (x y z : Int32) : (of_move σ x y z).1 ≤ 2 := by
  unfold of_move
  split
  · show _ ≤ 2; omega
  · split <;> (show _ ≤ 2; omega)
theorem of_loads_l (x y : Int32) : (of_loads σ x y).1 ≤ 2 := by
  unfold of_loads
  split
  · show _ ≤ 2; omega
  · split
    · show _ ≤ 2; omega
    · split <;> (show _ ≤ 2; omega)
theorem of_swap_l (x y : Int32) : (of_swap σ x y).1 ≤ 2 := by
  unfold of_swap
  split
  · split <;> (show _ ≤ 2; omega)
  · show _ ≤ 2; omega
theorem of_work_l (x : Int32) : (of_work σ x).1 ≤ 2 := by
  unfold of_work
  split
  · show _ ≤ 2; omega
  · split
    · show _ ≤ 2; omega
    · split
      · show _ ≤ 2; omega
      · unfold of_wk
        split <;> (show _ ≤ 2; omega)
theorem of_box_l (x y z : Int32) : (of_box σ x y z).1 ≤ 2 := by
  unfold of_box
  split
  · show _ ≤ 2; omega
  · split
    · show _ ≤ 2; omega
    · split <;> (show _ ≤ 2; omega)
end VA
theorem lw_gt {L i : Nat} (hL : L ≤ 2050) (hi : i < 2 ^ 20) : nI L - px_ic 4 < nI i ↔ L < i + 4 := by
  rw [Int32.lt_iff_toInt_lt, show px_ic 4 = nI 4 from rfl, pk_sub_toInt (by omega) (by omega), nI_toInt (by omega)]
  omega
/-- between two calls of the law -/
def LI (a0 a1 a2 : Nat) (C : px_P) : Prop := ∃ (σ : ck_S) (ρ : rs_S) (ad : Nat → Nat) (K : rp_K) (g : Nat → Int64), Rp ad K C ∧ Cl ad σ K ∧ Rl ad ρ K ∧ K 200 = some (px_j 1 g) ∧ ad 0 = a0 ∧ ad 100 = a1 ∧ ad 200 = a2 ∧ Sim σ ρ ∧ Inv σ
/-- behind both calls -/
theorem LI.of {ad ad1 : Nat → Nat} {K1 : rp_K} {C2 : px_P} {σ' : ck_S} {ρ2 : rs_S} {g1 : Nat → Int64} (hc1 : Cl ad1 σ' K1) (hO1 : K1 200 = some (px_j 1 g1)) (e0 : ad1 0 = ad 0) (e1 : ad1 100 = ad 100) (e2 : ad1 200 = ad 200) (h : Cr ad1 ρ2 K1 C2) (hs : Sim σ' ρ2) (hi : Inv σ') : LI (ad 0) (ad 100) (ad 200) C2 := by
  obtain ⟨K2, hR2, hr2, hK2⟩ := h
  exact ⟨σ', ρ2, ad1, K2, g1, hR2, hc1.fr (fun i hi => hK2 i (Or.inl hi)), hr2, (hK2 200 (by omega)).trans hO1, e0, e1, e2, hs, hi⟩
theorem Rl.cv {ad ad1 : Nat → Nat} {ρ : rs_S} {K K1 : rp_K} (h : Rl ad ρ K) (hK : ∀ i, 100 ≤ i → i ≠ 200 → K1 i = K i) (ha : ∀ i, 100 ≤ i → ad1 i = ad i) : Rl ad1 ρ K1 := h.fr (fun i h1 h2 => ⟨hK i h1 (by omega), ha i h1⟩)

set_option maxHeartbeats 4000000 in
set_option maxRecDepth 100000 in
theorem law_loop (B b L : Nat) (xs : Nat → Int32) (hL : L ≤ 2050) (a0 a1 a2 : Nat) (X : px_S → Prop) (hw : px_wk X) (hX : ∀ s, px_T (px_W ps_Y ps_P B (some (b, L, xs)) 9) ps_Y B 601024 7293000 (some (b, L, xs)) pm_Law_law (fun v _ => v = some (.int 1)) (fun _ _ => False) X s → X s) : ∀ kk i C k n, i < 2 ^ 19 → L < i + 4 * kk + 4 → k + kk ≤ 601024 → n + 6 * kk ≤ 7293000 → i + 4 * kk < 2 ^ 20 → LI a0 a1 a2 C → X (43, [(0, .ref b), (1, .ref a0), (2, .ref a1), (3, .ref a2), (4, .int (nI i))], [], C, k, n) := by
  intro kk
  induction kk with
  | zero =>
    intro i C k n hi hlt hk hn hi2 hLI
    iterate 3 refine px_go hX ?_
    refine ⟨rfl, ?_⟩
    iterate 3 refine px_go hX ?_
    refine ⟨fun _ => ?_, fun c1 => absurd ((lw_gt hL (by omega)).mpr (by omega)) c1⟩
    iterate 2 refine px_go hX ?_
    exact ⟨Or.inr rfl, rfl⟩
  | succ kk ih =>
    intro i C k n hi hlt hk hn hi2 hLI
    iterate 3 refine px_go hX ?_
    refine ⟨rfl, ?_⟩
    iterate 3 refine px_go hX ?_
    refine ⟨fun _ => ?_, fun c1 => ?_⟩
    · iterate 2 refine px_go hX ?_
      exact ⟨Or.inr rfl, rfl⟩
    have hiL : i + 4 ≤ L := Nat.le_of_not_lt (fun w => c1 ((lw_gt hL (by omega)).mpr w))
    obtain ⟨σ, ρ, ad, K, g, hR, hc, hr, hO, ha0, ha1, ha2, hs, hI⟩ := hLI
    subst ha0
    subst ha1
    subst ha2
    have hn16 := hI.1.2.2.2.2
    have hnb4 := hI.1.2.1
    have hti4 := hI.1.2.2.2.1
    have hti1 := hI.1.2.2.1
    have hib := hI.2.1
    have hrg := hI.2.2.1
    have her := hI.2.2.2.1
    have hn1 := hI.2.2.2.2.1
    have hpl := hI.2.2.2.2.2.1
    have hhz := hI.2.2.2.2.2.2.1
    have hb4 := hI.2.2.2.2.2.2.2.1
    have hpb := hI.2.2.2.2.2.2.2.2.2.2
    iterate 3 refine px_go hX ?_
    refine ⟨rfl, vp_in_nI (by omega) (by omega), ?_⟩
    rw [nI_clamp (n := i) (by omega)]
    iterate 3 refine px_go hX ?_
    refine ⟨fun c1 => ?_, fun c1 => ⟨fun c2 => ?_, fun c2 => ⟨fun c3 => ?_, fun c3 => ⟨fun c4 => ?_, fun c4 => ⟨fun c5 => ?_, fun c5 => ⟨fun c6 => ?_, fun c6 => ⟨fun c7 => ?_, fun c7 => ⟨fun c8 => ?_, fun c8 => ⟨fun c9 => ?_, fun c9 => ⟨fun c10 => ?_, fun c10 => ⟨fun c11 => ?_, fun c11 => ?_⟩⟩⟩⟩⟩⟩⟩⟩⟩⟩⟩
    · have c1 : (xs i) &&& ((15 : Int32)) = (0 : Int32) := c1
      iterate 6 refine px_go hX ?_
      refine ⟨rfl, (by rw [show nI i + px_ic 1 = nI (i + 1) from nI_add i 1]; exact vp_in_nI (by omega) (by omega)), ?_⟩
      rw [show nI i + px_ic 1 = nI (i + 1) from nI_add i 1, nI_clamp (n := i + 1) (by omega)]
      iterate 5 refine px_go hX ?_
      refine ⟨rfl, (by rw [show nI i + px_ic 2 = nI (i + 2) from nI_add i 2]; exact vp_in_nI (by omega) (by omega)), ?_⟩
      rw [show nI i + px_ic 2 = nI (i + 2) from nI_add i 2, nI_clamp (n := i + 2) (by omega)]
      iterate 5 refine px_go hX ?_
      refine ⟨rfl, (by rw [show nI i + px_ic 3 = nI (i + 3) from nI_add i 3]; exact vp_in_nI (by omega) (by omega)), ?_⟩
      rw [show nI i + px_ic 3 = nI (i + 3) from nI_add i 3, nI_clamp (n := i + 3) (by omega)]
      iterate 2 refine px_go hX ?_
      refine ⟨Nat.le_of_ble_eq_true rfl, 1, 6, _, by omega, by omega, Nat.le_of_ble_eq_true rfl, ww_box hR hc hO (xs (i + 1)) (xs (i + 2)) (xs (i + 3)), ?_⟩
      rintro _ C1 ⟨rfl, g1, ⟨ad1, K1, hR1, hc1, hK1, had1, had0, hO1⟩, hg⟩
      have e0 : ad1 0 = ad 0 := had0
      have e1 : ad1 100 = ad 100 := had1 100 (by omega)
      have e2 : ad1 200 = ad 200 := had1 200 (by omega)
      have hr1 := hr.cv hK1 had1
      iterate 7 refine px_go hX ?_
      refine ⟨rfl, (by rw [show nI i + px_ic 1 = nI (i + 1) from nI_add i 1]; exact vp_in_nI (by omega) (by omega)), ?_⟩
      rw [show nI i + px_ic 1 = nI (i + 1) from nI_add i 1, nI_clamp (n := i + 1) (by omega)]
      iterate 5 refine px_go hX ?_
      refine ⟨rfl, (by rw [show nI i + px_ic 2 = nI (i + 2) from nI_add i 2]; exact vp_in_nI (by omega) (by omega)), ?_⟩
      rw [show nI i + px_ic 2 = nI (i + 2) from nI_add i 2, nI_clamp (n := i + 2) (by omega)]
      iterate 5 refine px_go hX ?_
      refine ⟨rfl, (by rw [show nI i + px_ic 3 = nI (i + 3) from nI_add i 3]; exact vp_in_nI (by omega) (by omega)), ?_⟩
      rw [show nI i + px_ic 3 = nI (i + 3) from nI_add i 3, nI_clamp (n := i + 3) (by omega)]
      refine px_go hX ?_
      have hcall := rr_box (B := B) (sc := (some (b, L, xs))) (d := 7) hR1 hr1 hs hn16 hnb4 hI.hcn hI.hht hti4 (xs (i + 1)) (xs (i + 2)) (xs (i + 3))
      rw [e1] at hcall
      refine ⟨_, hR1.at2 e1 hr1.1, 0, 0, _, by omega, by omega, Nat.le_of_ble_eq_true rfl, hcall, ?_⟩
      rintro _ C2 ⟨ρ2, y2, hC2, hs2, hth, rfl, hy2⟩
      have hC3 := hC2
      obtain ⟨K2, hR2, hr2, hK2⟩ := hC2
      iterate 3 refine px_go hX ?_
      have hthr := rr_thrown (B := B) (sc := (some (b, L, xs))) (d := 8) hR2 hr2
      rw [e1] at hthr
      refine ⟨_, hR2.at2 e1 hr2.1, 0, 0, _, by omega, by omega, Nat.le_of_ble_eq_true rfl, hthr, ?_⟩
      rintro _ C3 ⟨rfl, rfl⟩
      iterate 2 refine px_go hX ?_
      refine ⟨fun (c12 : rs_sc ρ2 0 = nI (of_box σ (xs (i + 1)) (xs (i + 2)) (xs (i + 3))).1) => ?_, fun (c12 : ¬ rs_sc ρ2 0 = nI (of_box σ (xs (i + 1)) (xs (i + 2)) (xs (i + 3))).1) => absurd hth c12⟩
      iterate 2 refine px_go hX ?_
      refine ⟨fun (c13 : ¬ nI (of_box σ (xs (i + 1)) (xs (i + 2)) (xs (i + 3))).1 = 0) => ?_, fun (c13 : nI (of_box σ (xs (i + 1)) (xs (i + 2)) (xs (i + 3))).1 = 0) => ?_⟩
      · iterate 3 refine px_go hX ?_
        exact px_lw hw [(0, .ref b), (1, .ref (ad 0)), (2, .ref (ad 100)), (3, .ref (ad 200)), (4, .int (nI (i + 4)))] (ih (i + 4) _ _ _ (by omega) (by omega) (by omega) (by omega) (by omega) (LI.of hc1 hO1 e0 e1 e2 hC3 hs2 (hI.box (xs (i + 1)) (xs (i + 2)) (xs (i + 3))))) ⟨rfl, rfl, rfl, rfl, (congrArg (fun z => some (Value.int z)) (nI_add i 4)), trivial⟩
      · have h1z : (of_box σ (xs (i + 1)) (xs (i + 2)) (xs (i + 3))).1 = 0 := (nI_eq (b := 0) (Nat.lt_of_le_of_lt (of_box_l (xs (i + 1)) (xs (i + 2)) (xs (i + 3))) (by omega)) (by omega)).mp c13
        have hcmp : g1 0 = y2.toInt64 := by rw [hg h1z, hy2 h1z]
        iterate 3 refine px_go hX ?_
        refine ⟨_, _, (hR2.at2 e2 ((hK2 200 (by omega)).trans hO1)), (vp_in_nI (n := 0) (by omega) (by omega)), ?_⟩
        iterate 4 refine px_go hX ?_
        refine ⟨fun (c14 : lg_cmp (g1 0) ((y2).toInt64) = 0) => ?_, fun (c14 : ¬ lg_cmp (g1 0) ((y2).toInt64) = 0) => absurd ((lg_cmp_eq _ _).mpr hcmp) c14⟩
        iterate 3 refine px_go hX ?_
        exact px_lw hw [(0, .ref b), (1, .ref (ad 0)), (2, .ref (ad 100)), (3, .ref (ad 200)), (4, .int (nI (i + 4)))] (ih (i + 4) _ _ _ (by omega) (by omega) (by omega) (by omega) (by omega) (LI.of hc1 hO1 e0 e1 e2 hC3 hs2 (hI.box (xs (i + 1)) (xs (i + 2)) (xs (i + 3))))) ⟨rfl, rfl, rfl, rfl, (congrArg (fun z => some (Value.int z)) (nI_add i 4)), trivial⟩
    · have c1 : ¬ (xs i) &&& ((15 : Int32)) = (0 : Int32) := c1
      have c2 : (xs i) &&& ((15 : Int32)) = (1 : Int32) := c2
      iterate 6 refine px_go hX ?_
      refine ⟨rfl, (by rw [show nI i + px_ic 1 = nI (i + 1) from nI_add i 1]; exact vp_in_nI (by omega) (by omega)), ?_⟩
      rw [show nI i + px_ic 1 = nI (i + 1) from nI_add i 1, nI_clamp (n := i + 1) (by omega)]
      iterate 5 refine px_go hX ?_
      refine ⟨rfl, (by rw [show nI i + px_ic 2 = nI (i + 2) from nI_add i 2]; exact vp_in_nI (by omega) (by omega)), ?_⟩
      rw [show nI i + px_ic 2 = nI (i + 2) from nI_add i 2, nI_clamp (n := i + 2) (by omega)]
      refine px_go hX ?_
      refine ⟨_, hR.1 0 _ hc.1.1, 0, 0, _, by omega, by omega, Nat.le_of_ble_eq_true rfl, cc_before hR hc hib (xs (i + 1)) (xs (i + 2)), ?_⟩
      rintro _ C1 ⟨hz1, rfl, ad1, K1, hR1, hc1, hKa, e0⟩
      have e1 : ad1 100 = ad 100 := (hKa 100 (by omega)).2
      have e2 : ad1 200 = ad 200 := (hKa 200 (by omega)).2
      have hr1 := hr.fr (fun i h1 h2 => hKa i h1)
      have hO1 := (hKa 200 (by omega)).1.trans hO
      iterate 6 refine px_go hX ?_
      refine ⟨rfl, (by rw [show nI i + px_ic 1 = nI (i + 1) from nI_add i 1]; exact vp_in_nI (by omega) (by omega)), ?_⟩
      rw [show nI i + px_ic 1 = nI (i + 1) from nI_add i 1, nI_clamp (n := i + 1) (by omega)]
      iterate 5 refine px_go hX ?_
      refine ⟨rfl, (by rw [show nI i + px_ic 2 = nI (i + 2) from nI_add i 2]; exact vp_in_nI (by omega) (by omega)), ?_⟩
      rw [show nI i + px_ic 2 = nI (i + 2) from nI_add i 2, nI_clamp (n := i + 2) (by omega)]
      refine px_go hX ?_
      have hcall := rr_before (B := B) (sc := (some (b, L, xs))) (d := 7) hR1 hr1 hs hn16 hnb4 hib her (xs (i + 1)) (xs (i + 2))
      rw [e1] at hcall
      refine ⟨_, hR1.at2 e1 hr1.1, 0, 0, _, by omega, by omega, Nat.le_of_ble_eq_true rfl, hcall, ?_⟩
      rintro _ C2 ⟨ρ2, y2, hC2, hs2, hth, rfl, hy2⟩
      have hC3 := hC2
      obtain ⟨K2, hR2, hr2, hK2⟩ := hC2
      refine px_go hX ?_
      refine ⟨fun (c15 : (of_before σ (xs (i + 1)) (xs (i + 2))).2.1 = y2) => ?_, fun (c15 : ¬ (of_before σ (xs (i + 1)) (xs (i + 2))).2.1 = y2) => absurd (hy2 hz1).symm c15⟩
      iterate 2 refine px_go hX ?_
      exact px_lw hw [(0, .ref b), (1, .ref (ad 0)), (2, .ref (ad 100)), (3, .ref (ad 200)), (4, .int (nI (i + 4)))] (ih (i + 4) _ _ _ (by omega) (by omega) (by omega) (by omega) (by omega) (LI.of hc1 hO1 e0 e1 e2 hC3 hs2 (hI.before (xs (i + 1)) (xs (i + 2))))) ⟨rfl, rfl, rfl, rfl, (congrArg (fun z => some (Value.int z)) (nI_add i 4)), trivial⟩
    · have c1 : ¬ (xs i) &&& ((15 : Int32)) = (0 : Int32) := c1
      have c2 : ¬ (xs i) &&& ((15 : Int32)) = (1 : Int32) := c2
      have c3 : (xs i) &&& ((15 : Int32)) = (2 : Int32) := c3
      iterate 6 refine px_go hX ?_
      refine ⟨rfl, (by rw [show nI i + px_ic 1 = nI (i + 1) from nI_add i 1]; exact vp_in_nI (by omega) (by omega)), ?_⟩
      rw [show nI i + px_ic 1 = nI (i + 1) from nI_add i 1, nI_clamp (n := i + 1) (by omega)]
      iterate 2 refine px_go hX ?_
      refine ⟨Nat.le_of_ble_eq_true rfl, 1, 6, _, by omega, by omega, Nat.le_of_ble_eq_true rfl, ww_plan hR hc hO hhz hrg hb4 (xs (i + 1)), ?_⟩
      rintro _ C1 (⟨rfl, bb, hbb, hxb, σ1, c0, J, hA, hJ, ⟨hF, g1, ⟨ad1, K1, hR1, hc1, hK1, had1, had0, hO1⟩, hg⟩ | ⟨e, LL1, Y, hF, hT, g1, ⟨ad1, K1, hR1, hc1, hK1, had1, had0, hO1⟩, hg⟩⟩ | ⟨rfl, hxn, g1, ⟨ad1, K1, hR1, hc1, hK1, had1, had0, hO1⟩⟩)
      · have hxb : xs (i + 1) = nI bb := hxb
        have e0 : ad1 0 = ad 0 := had0
        have e1 : ad1 100 = ad 100 := had1 100 (by omega)
        have e2 : ad1 200 = ad 200 := had1 200 (by omega)
        have hr1 := hr.cv hK1 had1
        have hvd := hI.vd hbb hA
        iterate 7 refine px_go hX ?_
        refine ⟨rfl, (by rw [show nI i + px_ic 1 = nI (i + 1) from nI_add i 1]; exact vp_in_nI (by omega) (by omega)), ?_⟩
        rw [show nI i + px_ic 1 = nI (i + 1) from nI_add i 1, nI_clamp (n := i + 1) (by omega)]
        refine px_go hX ?_
        have hcall := rr_plan (B := B) (sc := (some (b, L, xs))) (d := 3) hR1 hr1 hs hn16 hnb4 hrg hb4 hti4 hti1 hn1 hbb hA hvd
        rw [e1] at hcall
        rw [hxb]
        refine ⟨_, hR1.at2 e1 hr1.1, 0, 0, _, by omega, by omega, Nat.le_of_ble_eq_true rfl, hcall, ?_⟩
        rintro _ C2 ⟨ρ2, hC2, hth, ⟨hF2, rfl, hs2⟩ | ⟨e2_, L2, hF2, rfl, hTT⟩⟩
        · have hC3 := hC2
          obtain ⟨K2, hR2, hr2, hK2⟩ := hC2
          iterate 3 refine px_go hX ?_
          have hthr := rr_thrown (B := B) (sc := (some (b, L, xs))) (d := 8) hR2 hr2
          rw [e1] at hthr
          refine ⟨_, hR2.at2 e1 hr2.1, 0, 0, _, by omega, by omega, Nat.le_of_ble_eq_true rfl, hthr, ?_⟩
          rintro _ C3 ⟨rfl, rfl⟩
          iterate 2 refine px_go hX ?_
          refine ⟨fun (c16 : rs_sc ρ2 0 = (0 : Int32)) => ?_, fun (c16 : ¬ rs_sc ρ2 0 = (0 : Int32)) => absurd hth c16⟩
          iterate 2 refine px_go hX ?_
          refine ⟨fun (c17 : ¬ (0 : Int32) = 0) => absurd rfl c17, fun (c17 : (0 : Int32) = 0) => ?_⟩
          have hcmp : g1 0 = (-1 : Int32).toInt64 := hg
          iterate 3 refine px_go hX ?_
          refine ⟨_, _, (hR2.at2 e2 ((hK2 200 (by omega)).trans hO1)), (vp_in_nI (n := 0) (by omega) (by omega)), ?_⟩
          iterate 4 refine px_go hX ?_
          refine ⟨fun (c18 : lg_cmp (g1 0) (((-1 : Int32)).toInt64) = 0) => ?_, fun (c18 : ¬ lg_cmp (g1 0) (((-1 : Int32)).toInt64) = 0) => absurd ((lg_cmp_eq _ _).mpr hcmp) c18⟩
          iterate 3 refine px_go hX ?_
          exact px_lw hw [(0, .ref b), (1, .ref (ad 0)), (2, .ref (ad 100)), (3, .ref (ad 200)), (4, .int (nI (i + 4)))] (ih (i + 4) _ _ _ (by omega) (by omega) (by omega) (by omega) (by omega) (LI.of hc1 hO1 e0 e1 e2 hC3 hs2 ((hI.fp bb).jk J hJ))) ⟨rfl, rfl, rfl, rfl, (congrArg (fun z => some (Value.int z)) (nI_add i 4)), trivial⟩
        · exact absurd (hF.symm.trans hF2) (by omega)
      · have e0 : ad1 0 = ad 0 := had0
        have e1 : ad1 100 = ad 100 := had1 100 (by omega)
        have e2 : ad1 200 = ad 200 := had1 200 (by omega)
        have hr1 := hr.cv hK1 had1
        have hvd := hI.vd hbb hA
        iterate 7 refine px_go hX ?_
        refine ⟨rfl, (by rw [show nI i + px_ic 1 = nI (i + 1) from nI_add i 1]; exact vp_in_nI (by omega) (by omega)), ?_⟩
        rw [show nI i + px_ic 1 = nI (i + 1) from nI_add i 1, nI_clamp (n := i + 1) (by omega)]
        refine px_go hX ?_
        have hcall := rr_plan (B := B) (sc := (some (b, L, xs))) (d := 3) hR1 hr1 hs hn16 hnb4 hrg hb4 hti4 hti1 hn1 hbb hA hvd
        rw [e1] at hcall
        rw [hxb]
        refine ⟨_, hR1.at2 e1 hr1.1, 0, 0, _, by omega, by omega, Nat.le_of_ble_eq_true rfl, hcall, ?_⟩
        rintro _ C2 ⟨ρ2, hC2, hth, ⟨hF2, rfl, hs2⟩ | ⟨e2_, L2, hF2, rfl, hTT⟩⟩
        · exact absurd (hF.symm.trans hF2) (by omega)
        · obtain rfl : e = e2_ := by omega
          obtain ⟨rfl, hs2⟩ := hTT LL1 Y hT
          have hC3 := hC2
          obtain ⟨K2, hR2, hr2, hK2⟩ := hC2
          iterate 3 refine px_go hX ?_
          have hthr := rr_thrown (B := B) (sc := (some (b, L, xs))) (d := 8) hR2 hr2
          rw [e1] at hthr
          refine ⟨_, hR2.at2 e1 hr2.1, 0, 0, _, by omega, by omega, Nat.le_of_ble_eq_true rfl, hthr, ?_⟩
          rintro _ C3 ⟨rfl, rfl⟩
          iterate 2 refine px_go hX ?_
          refine ⟨fun (c19 : rs_sc ρ2 0 = (0 : Int32)) => ?_, fun (c19 : ¬ rs_sc ρ2 0 = (0 : Int32)) => absurd hth c19⟩
          iterate 2 refine px_go hX ?_
          refine ⟨fun (c20 : ¬ (0 : Int32) = 0) => absurd rfl c20, fun (c20 : (0 : Int32) = 0) => ?_⟩
          have hcmp : g1 0 = (nI LL1).toInt64 := hg
          iterate 3 refine px_go hX ?_
          refine ⟨_, _, (hR2.at2 e2 ((hK2 200 (by omega)).trans hO1)), (vp_in_nI (n := 0) (by omega) (by omega)), ?_⟩
          iterate 4 refine px_go hX ?_
          refine ⟨fun (c21 : lg_cmp (g1 0) ((nI LL1).toInt64) = 0) => ?_, fun (c21 : ¬ lg_cmp (g1 0) ((nI LL1).toInt64) = 0) => absurd ((lg_cmp_eq _ _).mpr hcmp) c21⟩
          iterate 3 refine px_go hX ?_
          exact px_lw hw [(0, .ref b), (1, .ref (ad 0)), (2, .ref (ad 100)), (3, .ref (ad 200)), (4, .int (nI (i + 4)))] (ih (i + 4) _ _ _ (by omega) (by omega) (by omega) (by omega) (by omega) (LI.of hc1 hO1 e0 e1 e2 hC3 hs2 ((hI.plan hbb hA hF hT).jk J hJ))) ⟨rfl, rfl, rfl, rfl, (congrArg (fun z => some (Value.int z)) (nI_add i 4)), trivial⟩
      · have e0 : ad1 0 = ad 0 := had0
        have e1 : ad1 100 = ad 100 := had1 100 (by omega)
        have e2 : ad1 200 = ad 200 := had1 200 (by omega)
        have hr1 := hr.cv hK1 had1
        iterate 7 refine px_go hX ?_
        refine ⟨rfl, (by rw [show nI i + px_ic 1 = nI (i + 1) from nI_add i 1]; exact vp_in_nI (by omega) (by omega)), ?_⟩
        rw [show nI i + px_ic 1 = nI (i + 1) from nI_add i 1, nI_clamp (n := i + 1) (by omega)]
        refine px_go hX ?_
        have hcall := rr_planN (B := B) (sc := (some (b, L, xs))) (d := 7) hR1 hr1 hs hxn
        rw [e1] at hcall
        refine ⟨_, hR1.at2 e1 hr1.1, 0, 0, _, by omega, by omega, Nat.le_of_ble_eq_true rfl, hcall, ?_⟩
        rintro _ C2 ⟨rfl, hC2⟩
        generalize hρ2 : rs_th ρ 1 = ρ2 at *
        have hth : rs_sc ρ2 0 = 1 := by rw [← hρ2]; rfl
        have hs2 : Sim σ ρ2 := by rw [← hρ2]; exact hs
        have hC3 := hC2
        obtain ⟨K2, hR2, hr2, hK2⟩ := hC2
        iterate 3 refine px_go hX ?_
        have hthr := rr_thrown (B := B) (sc := (some (b, L, xs))) (d := 8) hR2 hr2
        rw [e1] at hthr
        refine ⟨_, hR2.at2 e1 hr2.1, 0, 0, _, by omega, by omega, Nat.le_of_ble_eq_true rfl, hthr, ?_⟩
        rintro _ C3 ⟨rfl, rfl⟩
        iterate 2 refine px_go hX ?_
        refine ⟨fun (c22 : rs_sc ρ2 0 = (1 : Int32)) => ?_, fun (c22 : ¬ rs_sc ρ2 0 = (1 : Int32)) => absurd hth c22⟩
        iterate 2 refine px_go hX ?_
        refine ⟨fun (c23 : ¬ (1 : Int32) = 0) => ?_, fun (c23 : (1 : Int32) = 0) => absurd c23 (by decide)⟩
        iterate 3 refine px_go hX ?_
        exact px_lw hw [(0, .ref b), (1, .ref (ad 0)), (2, .ref (ad 100)), (3, .ref (ad 200)), (4, .int (nI (i + 4)))] (ih (i + 4) _ _ _ (by omega) (by omega) (by omega) (by omega) (by omega) (LI.of hc1 hO1 e0 e1 e2 hC3 hs2 hI)) ⟨rfl, rfl, rfl, rfl, (congrArg (fun z => some (Value.int z)) (nI_add i 4)), trivial⟩
    · have c1 : ¬ (xs i) &&& ((15 : Int32)) = (0 : Int32) := c1
      have c2 : ¬ (xs i) &&& ((15 : Int32)) = (1 : Int32) := c2
      have c3 : ¬ (xs i) &&& ((15 : Int32)) = (2 : Int32) := c3
      have c4 : (xs i) &&& ((15 : Int32)) = (3 : Int32) := c4
      iterate 6 refine px_go hX ?_
      refine ⟨rfl, (by rw [show nI i + px_ic 1 = nI (i + 1) from nI_add i 1]; exact vp_in_nI (by omega) (by omega)), ?_⟩
      rw [show nI i + px_ic 1 = nI (i + 1) from nI_add i 1, nI_clamp (n := i + 1) (by omega)]
      iterate 5 refine px_go hX ?_
      refine ⟨rfl, (by rw [show nI i + px_ic 2 = nI (i + 2) from nI_add i 2]; exact vp_in_nI (by omega) (by omega)), ?_⟩
      rw [show nI i + px_ic 2 = nI (i + 2) from nI_add i 2, nI_clamp (n := i + 2) (by omega)]
      iterate 5 refine px_go hX ?_
      refine ⟨rfl, (by rw [show nI i + px_ic 3 = nI (i + 3) from nI_add i 3]; exact vp_in_nI (by omega) (by omega)), ?_⟩
      rw [show nI i + px_ic 3 = nI (i + 3) from nI_add i 3, nI_clamp (n := i + 3) (by omega)]
      iterate 2 refine px_go hX ?_
      refine ⟨Nat.le_of_ble_eq_true rfl, 1, 6, _, by omega, by omega, Nat.le_of_ble_eq_true rfl, ww_move hR hc hO (xs (i + 1)) (xs (i + 2)) (xs (i + 3)), ?_⟩
      rintro _ C1 ⟨rfl, g1, ⟨ad1, K1, hR1, hc1, hK1, had1, had0, hO1⟩, hg⟩
      have e0 : ad1 0 = ad 0 := had0
      have e1 : ad1 100 = ad 100 := had1 100 (by omega)
      have e2 : ad1 200 = ad 200 := had1 200 (by omega)
      have hr1 := hr.cv hK1 had1
      iterate 7 refine px_go hX ?_
      refine ⟨rfl, (by rw [show nI i + px_ic 1 = nI (i + 1) from nI_add i 1]; exact vp_in_nI (by omega) (by omega)), ?_⟩
      rw [show nI i + px_ic 1 = nI (i + 1) from nI_add i 1, nI_clamp (n := i + 1) (by omega)]
      iterate 5 refine px_go hX ?_
      refine ⟨rfl, (by rw [show nI i + px_ic 2 = nI (i + 2) from nI_add i 2]; exact vp_in_nI (by omega) (by omega)), ?_⟩
      rw [show nI i + px_ic 2 = nI (i + 2) from nI_add i 2, nI_clamp (n := i + 2) (by omega)]
      iterate 5 refine px_go hX ?_
      refine ⟨rfl, (by rw [show nI i + px_ic 3 = nI (i + 3) from nI_add i 3]; exact vp_in_nI (by omega) (by omega)), ?_⟩
      rw [show nI i + px_ic 3 = nI (i + 3) from nI_add i 3, nI_clamp (n := i + 3) (by omega)]
      refine px_go hX ?_
      have hcall := rr_move (B := B) (sc := (some (b, L, xs))) (d := 7) hR1 hr1 hs hnb4 hpl (xs (i + 1)) (xs (i + 2)) (xs (i + 3))
      rw [e1] at hcall
      refine ⟨_, hR1.at2 e1 hr1.1, 0, 0, _, by omega, by omega, Nat.le_of_ble_eq_true rfl, hcall, ?_⟩
      rintro _ C2 ⟨ρ2, y2, hC2, hs2, hth, rfl, hy2⟩
      have hC3 := hC2
      obtain ⟨K2, hR2, hr2, hK2⟩ := hC2
      iterate 3 refine px_go hX ?_
      have hthr := rr_thrown (B := B) (sc := (some (b, L, xs))) (d := 8) hR2 hr2
      rw [e1] at hthr
      refine ⟨_, hR2.at2 e1 hr2.1, 0, 0, _, by omega, by omega, Nat.le_of_ble_eq_true rfl, hthr, ?_⟩
      rintro _ C3 ⟨rfl, rfl⟩
      iterate 2 refine px_go hX ?_
      refine ⟨fun (c24 : rs_sc ρ2 0 = nI (of_move σ (xs (i + 1)) (xs (i + 2)) (xs (i + 3))).1) => ?_, fun (c24 : ¬ rs_sc ρ2 0 = nI (of_move σ (xs (i + 1)) (xs (i + 2)) (xs (i + 3))).1) => absurd hth c24⟩
      iterate 2 refine px_go hX ?_
      refine ⟨fun (c25 : ¬ nI (of_move σ (xs (i + 1)) (xs (i + 2)) (xs (i + 3))).1 = 0) => ?_, fun (c25 : nI (of_move σ (xs (i + 1)) (xs (i + 2)) (xs (i + 3))).1 = 0) => ?_⟩
      · iterate 3 refine px_go hX ?_
        exact px_lw hw [(0, .ref b), (1, .ref (ad 0)), (2, .ref (ad 100)), (3, .ref (ad 200)), (4, .int (nI (i + 4)))] (ih (i + 4) _ _ _ (by omega) (by omega) (by omega) (by omega) (by omega) (LI.of hc1 hO1 e0 e1 e2 hC3 hs2 (hI.move (xs (i + 1)) (xs (i + 2)) (xs (i + 3))))) ⟨rfl, rfl, rfl, rfl, (congrArg (fun z => some (Value.int z)) (nI_add i 4)), trivial⟩
      · have h1z : (of_move σ (xs (i + 1)) (xs (i + 2)) (xs (i + 3))).1 = 0 := (nI_eq (b := 0) (Nat.lt_of_le_of_lt (of_move_l (xs (i + 1)) (xs (i + 2)) (xs (i + 3))) (by omega)) (by omega)).mp c25
        have hcmp : g1 0 = y2.toInt64 := by rw [hg h1z, hy2 h1z]
        iterate 3 refine px_go hX ?_
        refine ⟨_, _, (hR2.at2 e2 ((hK2 200 (by omega)).trans hO1)), (vp_in_nI (n := 0) (by omega) (by omega)), ?_⟩
        iterate 4 refine px_go hX ?_
        refine ⟨fun (c26 : lg_cmp (g1 0) ((y2).toInt64) = 0) => ?_, fun (c26 : ¬ lg_cmp (g1 0) ((y2).toInt64) = 0) => absurd ((lg_cmp_eq _ _).mpr hcmp) c26⟩
        iterate 3 refine px_go hX ?_
        exact px_lw hw [(0, .ref b), (1, .ref (ad 0)), (2, .ref (ad 100)), (3, .ref (ad 200)), (4, .int (nI (i + 4)))] (ih (i + 4) _ _ _ (by omega) (by omega) (by omega) (by omega) (by omega) (LI.of hc1 hO1 e0 e1 e2 hC3 hs2 (hI.move (xs (i + 1)) (xs (i + 2)) (xs (i + 3))))) ⟨rfl, rfl, rfl, rfl, (congrArg (fun z => some (Value.int z)) (nI_add i 4)), trivial⟩
    · have c1 : ¬ (xs i) &&& ((15 : Int32)) = (0 : Int32) := c1
      have c2 : ¬ (xs i) &&& ((15 : Int32)) = (1 : Int32) := c2
      have c3 : ¬ (xs i) &&& ((15 : Int32)) = (2 : Int32) := c3
      have c4 : ¬ (xs i) &&& ((15 : Int32)) = (3 : Int32) := c4
      have c5 : (xs i) &&& ((15 : Int32)) = (4 : Int32) := c5
      iterate 6 refine px_go hX ?_
      refine ⟨rfl, (by rw [show nI i + px_ic 1 = nI (i + 1) from nI_add i 1]; exact vp_in_nI (by omega) (by omega)), ?_⟩
      rw [show nI i + px_ic 1 = nI (i + 1) from nI_add i 1, nI_clamp (n := i + 1) (by omega)]
      iterate 2 refine px_go hX ?_
      refine ⟨Nat.le_of_ble_eq_true rfl, 1, 6, _, by omega, by omega, Nat.le_of_ble_eq_true rfl, ww_work hR hc hO (xs (i + 1)), ?_⟩
      rintro _ C1 ⟨rfl, g1, ⟨ad1, K1, hR1, hc1, hK1, had1, had0, hO1⟩, hg⟩
      have e0 : ad1 0 = ad 0 := had0
      have e1 : ad1 100 = ad 100 := had1 100 (by omega)
      have e2 : ad1 200 = ad 200 := had1 200 (by omega)
      have hr1 := hr.cv hK1 had1
      iterate 7 refine px_go hX ?_
      refine ⟨rfl, (by rw [show nI i + px_ic 1 = nI (i + 1) from nI_add i 1]; exact vp_in_nI (by omega) (by omega)), ?_⟩
      rw [show nI i + px_ic 1 = nI (i + 1) from nI_add i 1, nI_clamp (n := i + 1) (by omega)]
      refine px_go hX ?_
      have hcall := rr_work (B := B) (sc := (some (b, L, xs))) (d := 7) hR1 hr1 hs hn16 hnb4 hpl hpb (xs (i + 1))
      rw [e1] at hcall
      refine ⟨_, hR1.at2 e1 hr1.1, 0, 0, _, by omega, by omega, Nat.le_of_ble_eq_true rfl, hcall, ?_⟩
      rintro _ C2 ⟨ρ2, y2, hC2, hs2, hth, rfl, hy2⟩
      have hC3 := hC2
      obtain ⟨K2, hR2, hr2, hK2⟩ := hC2
      iterate 3 refine px_go hX ?_
      have hthr := rr_thrown (B := B) (sc := (some (b, L, xs))) (d := 8) hR2 hr2
      rw [e1] at hthr
      refine ⟨_, hR2.at2 e1 hr2.1, 0, 0, _, by omega, by omega, Nat.le_of_ble_eq_true rfl, hthr, ?_⟩
      rintro _ C3 ⟨rfl, rfl⟩
      iterate 2 refine px_go hX ?_
      refine ⟨fun (c27 : rs_sc ρ2 0 = nI (of_work σ (xs (i + 1))).1) => ?_, fun (c27 : ¬ rs_sc ρ2 0 = nI (of_work σ (xs (i + 1))).1) => absurd hth c27⟩
      iterate 2 refine px_go hX ?_
      refine ⟨fun (c28 : ¬ nI (of_work σ (xs (i + 1))).1 = 0) => ?_, fun (c28 : nI (of_work σ (xs (i + 1))).1 = 0) => ?_⟩
      · iterate 3 refine px_go hX ?_
        exact px_lw hw [(0, .ref b), (1, .ref (ad 0)), (2, .ref (ad 100)), (3, .ref (ad 200)), (4, .int (nI (i + 4)))] (ih (i + 4) _ _ _ (by omega) (by omega) (by omega) (by omega) (by omega) (LI.of hc1 hO1 e0 e1 e2 hC3 hs2 (hI.work (xs (i + 1))))) ⟨rfl, rfl, rfl, rfl, (congrArg (fun z => some (Value.int z)) (nI_add i 4)), trivial⟩
      · have h1z : (of_work σ (xs (i + 1))).1 = 0 := (nI_eq (b := 0) (Nat.lt_of_le_of_lt (of_work_l (xs (i + 1))) (by omega)) (by omega)).mp c28
        have hcmp : g1 0 = y2.toInt64 := by rw [hg h1z, hy2 h1z]
        iterate 3 refine px_go hX ?_
        refine ⟨_, _, (hR2.at2 e2 ((hK2 200 (by omega)).trans hO1)), (vp_in_nI (n := 0) (by omega) (by omega)), ?_⟩
        iterate 4 refine px_go hX ?_
        refine ⟨fun (c29 : lg_cmp (g1 0) ((y2).toInt64) = 0) => ?_, fun (c29 : ¬ lg_cmp (g1 0) ((y2).toInt64) = 0) => absurd ((lg_cmp_eq _ _).mpr hcmp) c29⟩
        iterate 3 refine px_go hX ?_
        exact px_lw hw [(0, .ref b), (1, .ref (ad 0)), (2, .ref (ad 100)), (3, .ref (ad 200)), (4, .int (nI (i + 4)))] (ih (i + 4) _ _ _ (by omega) (by omega) (by omega) (by omega) (by omega) (LI.of hc1 hO1 e0 e1 e2 hC3 hs2 (hI.work (xs (i + 1))))) ⟨rfl, rfl, rfl, rfl, (congrArg (fun z => some (Value.int z)) (nI_add i 4)), trivial⟩
    · have c1 : ¬ (xs i) &&& ((15 : Int32)) = (0 : Int32) := c1
      have c2 : ¬ (xs i) &&& ((15 : Int32)) = (1 : Int32) := c2
      have c3 : ¬ (xs i) &&& ((15 : Int32)) = (2 : Int32) := c3
      have c4 : ¬ (xs i) &&& ((15 : Int32)) = (3 : Int32) := c4
      have c5 : ¬ (xs i) &&& ((15 : Int32)) = (4 : Int32) := c5
      have c6 : (xs i) &&& ((15 : Int32)) = (5 : Int32) := c6
      iterate 6 refine px_go hX ?_
      refine ⟨rfl, (by rw [show nI i + px_ic 1 = nI (i + 1) from nI_add i 1]; exact vp_in_nI (by omega) (by omega)), ?_⟩
      rw [show nI i + px_ic 1 = nI (i + 1) from nI_add i 1, nI_clamp (n := i + 1) (by omega)]
      iterate 2 refine px_go hX ?_
      refine ⟨Nat.le_of_ble_eq_true rfl, 1, 6, _, by omega, by omega, Nat.le_of_ble_eq_true rfl, ww_least hR hc hO (xs (i + 1)), ?_⟩
      rintro _ C1 ⟨rfl, g1, ⟨ad1, K1, hR1, hc1, hK1, had1, had0, hO1⟩, hg⟩
      have e0 : ad1 0 = ad 0 := had0
      have e1 : ad1 100 = ad 100 := had1 100 (by omega)
      have e2 : ad1 200 = ad 200 := had1 200 (by omega)
      have hr1 := hr.cv hK1 had1
      iterate 7 refine px_go hX ?_
      refine ⟨rfl, (by rw [show nI i + px_ic 1 = nI (i + 1) from nI_add i 1]; exact vp_in_nI (by omega) (by omega)), ?_⟩
      rw [show nI i + px_ic 1 = nI (i + 1) from nI_add i 1, nI_clamp (n := i + 1) (by omega)]
      refine px_go hX ?_
      have hcall := rr_least (B := B) (sc := (some (b, L, xs))) (d := 7) hR1 hr1 hs hn16 hnb4 (xs (i + 1))
      rw [e1] at hcall
      refine ⟨_, hR1.at2 e1 hr1.1, 0, 0, _, by omega, by omega, Nat.le_of_ble_eq_true rfl, hcall, ?_⟩
      rintro _ C2 ⟨ρ2, y2, hC2, hs2, hth, rfl, hy2⟩
      have hC3 := hC2
      obtain ⟨K2, hR2, hr2, hK2⟩ := hC2
      iterate 3 refine px_go hX ?_
      have hthr := rr_thrown (B := B) (sc := (some (b, L, xs))) (d := 8) hR2 hr2
      rw [e1] at hthr
      refine ⟨_, hR2.at2 e1 hr2.1, 0, 0, _, by omega, by omega, Nat.le_of_ble_eq_true rfl, hthr, ?_⟩
      rintro _ C3 ⟨rfl, rfl⟩
      iterate 2 refine px_go hX ?_
      refine ⟨fun (c30 : rs_sc ρ2 0 = nI (of_least σ (xs (i + 1))).1) => ?_, fun (c30 : ¬ rs_sc ρ2 0 = nI (of_least σ (xs (i + 1))).1) => absurd hth c30⟩
      iterate 2 refine px_go hX ?_
      refine ⟨fun (c31 : ¬ nI (of_least σ (xs (i + 1))).1 = 0) => ?_, fun (c31 : nI (of_least σ (xs (i + 1))).1 = 0) => ?_⟩
      · iterate 3 refine px_go hX ?_
        exact px_lw hw [(0, .ref b), (1, .ref (ad 0)), (2, .ref (ad 100)), (3, .ref (ad 200)), (4, .int (nI (i + 4)))] (ih (i + 4) _ _ _ (by omega) (by omega) (by omega) (by omega) (by omega) (LI.of hc1 hO1 e0 e1 e2 hC3 hs2 (hI.least (xs (i + 1))))) ⟨rfl, rfl, rfl, rfl, (congrArg (fun z => some (Value.int z)) (nI_add i 4)), trivial⟩
      · have h1z : (of_least σ (xs (i + 1))).1 = 0 := (nI_eq (b := 0) (Nat.lt_of_le_of_lt (of_least_l (xs (i + 1))) (by omega)) (by omega)).mp c31
        have hcmp : g1 0 = y2.toInt64 := by rw [hg h1z, hy2 h1z]
        iterate 3 refine px_go hX ?_
        refine ⟨_, _, (hR2.at2 e2 ((hK2 200 (by omega)).trans hO1)), (vp_in_nI (n := 0) (by omega) (by omega)), ?_⟩
        iterate 4 refine px_go hX ?_
        refine ⟨fun (c32 : lg_cmp (g1 0) ((y2).toInt64) = 0) => ?_, fun (c32 : ¬ lg_cmp (g1 0) ((y2).toInt64) = 0) => absurd ((lg_cmp_eq _ _).mpr hcmp) c32⟩
        iterate 3 refine px_go hX ?_
        exact px_lw hw [(0, .ref b), (1, .ref (ad 0)), (2, .ref (ad 100)), (3, .ref (ad 200)), (4, .int (nI (i + 4)))] (ih (i + 4) _ _ _ (by omega) (by omega) (by omega) (by omega) (by omega) (LI.of hc1 hO1 e0 e1 e2 hC3 hs2 (hI.least (xs (i + 1))))) ⟨rfl, rfl, rfl, rfl, (congrArg (fun z => some (Value.int z)) (nI_add i 4)), trivial⟩
    · have c1 : ¬ (xs i) &&& ((15 : Int32)) = (0 : Int32) := c1
      have c2 : ¬ (xs i) &&& ((15 : Int32)) = (1 : Int32) := c2
      have c3 : ¬ (xs i) &&& ((15 : Int32)) = (2 : Int32) := c3
      have c4 : ¬ (xs i) &&& ((15 : Int32)) = (3 : Int32) := c4
      have c5 : ¬ (xs i) &&& ((15 : Int32)) = (4 : Int32) := c5
      have c6 : ¬ (xs i) &&& ((15 : Int32)) = (5 : Int32) := c6
      have c7 : (xs i) &&& ((15 : Int32)) = (6 : Int32) := c7
      iterate 6 refine px_go hX ?_
      refine ⟨rfl, (by rw [show nI i + px_ic 1 = nI (i + 1) from nI_add i 1]; exact vp_in_nI (by omega) (by omega)), ?_⟩
      rw [show nI i + px_ic 1 = nI (i + 1) from nI_add i 1, nI_clamp (n := i + 1) (by omega)]
      iterate 5 refine px_go hX ?_
      refine ⟨rfl, (by rw [show nI i + px_ic 2 = nI (i + 2) from nI_add i 2]; exact vp_in_nI (by omega) (by omega)), ?_⟩
      rw [show nI i + px_ic 2 = nI (i + 2) from nI_add i 2, nI_clamp (n := i + 2) (by omega)]
      iterate 2 refine px_go hX ?_
      refine ⟨Nat.le_of_ble_eq_true rfl, 1, 6, _, by omega, by omega, Nat.le_of_ble_eq_true rfl, ww_loads hR hc hO (xs (i + 1)) (xs (i + 2)), ?_⟩
      rintro _ C1 ⟨rfl, g1, ⟨ad1, K1, hR1, hc1, hK1, had1, had0, hO1⟩, hg⟩
      have e0 : ad1 0 = ad 0 := had0
      have e1 : ad1 100 = ad 100 := had1 100 (by omega)
      have e2 : ad1 200 = ad 200 := had1 200 (by omega)
      have hr1 := hr.cv hK1 had1
      iterate 7 refine px_go hX ?_
      refine ⟨rfl, (by rw [show nI i + px_ic 1 = nI (i + 1) from nI_add i 1]; exact vp_in_nI (by omega) (by omega)), ?_⟩
      rw [show nI i + px_ic 1 = nI (i + 1) from nI_add i 1, nI_clamp (n := i + 1) (by omega)]
      iterate 5 refine px_go hX ?_
      refine ⟨rfl, (by rw [show nI i + px_ic 2 = nI (i + 2) from nI_add i 2]; exact vp_in_nI (by omega) (by omega)), ?_⟩
      rw [show nI i + px_ic 2 = nI (i + 2) from nI_add i 2, nI_clamp (n := i + 2) (by omega)]
      refine px_go hX ?_
      have hcall := rr_loads (B := B) (sc := (some (b, L, xs))) (d := 7) hR1 hr1 hs hnb4 (xs (i + 1)) (xs (i + 2))
      rw [e1] at hcall
      refine ⟨_, hR1.at2 e1 hr1.1, 0, 0, _, by omega, by omega, Nat.le_of_ble_eq_true rfl, hcall, ?_⟩
      rintro _ C2 ⟨ρ2, y2, hC2, hs2, hth, rfl, hy2⟩
      have hC3 := hC2
      obtain ⟨K2, hR2, hr2, hK2⟩ := hC2
      iterate 3 refine px_go hX ?_
      have hthr := rr_thrown (B := B) (sc := (some (b, L, xs))) (d := 8) hR2 hr2
      rw [e1] at hthr
      refine ⟨_, hR2.at2 e1 hr2.1, 0, 0, _, by omega, by omega, Nat.le_of_ble_eq_true rfl, hthr, ?_⟩
      rintro _ C3 ⟨rfl, rfl⟩
      iterate 2 refine px_go hX ?_
      refine ⟨fun (c33 : rs_sc ρ2 0 = nI (of_loads σ (xs (i + 1)) (xs (i + 2))).1) => ?_, fun (c33 : ¬ rs_sc ρ2 0 = nI (of_loads σ (xs (i + 1)) (xs (i + 2))).1) => absurd hth c33⟩
      iterate 2 refine px_go hX ?_
      refine ⟨fun (c34 : ¬ nI (of_loads σ (xs (i + 1)) (xs (i + 2))).1 = 0) => ?_, fun (c34 : nI (of_loads σ (xs (i + 1)) (xs (i + 2))).1 = 0) => ?_⟩
      · iterate 3 refine px_go hX ?_
        exact px_lw hw [(0, .ref b), (1, .ref (ad 0)), (2, .ref (ad 100)), (3, .ref (ad 200)), (4, .int (nI (i + 4)))] (ih (i + 4) _ _ _ (by omega) (by omega) (by omega) (by omega) (by omega) (LI.of hc1 hO1 e0 e1 e2 hC3 hs2 (hI.loads (xs (i + 1)) (xs (i + 2))))) ⟨rfl, rfl, rfl, rfl, (congrArg (fun z => some (Value.int z)) (nI_add i 4)), trivial⟩
      · have h1z : (of_loads σ (xs (i + 1)) (xs (i + 2))).1 = 0 := (nI_eq (b := 0) (Nat.lt_of_le_of_lt (of_loads_l (xs (i + 1)) (xs (i + 2))) (by omega)) (by omega)).mp c34
        have hcmp : g1 0 = y2.toInt64 := by rw [hg h1z, hy2 h1z]
        iterate 3 refine px_go hX ?_
        refine ⟨_, _, (hR2.at2 e2 ((hK2 200 (by omega)).trans hO1)), (vp_in_nI (n := 0) (by omega) (by omega)), ?_⟩
        iterate 4 refine px_go hX ?_
        refine ⟨fun (c35 : lg_cmp (g1 0) ((y2).toInt64) = 0) => ?_, fun (c35 : ¬ lg_cmp (g1 0) ((y2).toInt64) = 0) => absurd ((lg_cmp_eq _ _).mpr hcmp) c35⟩
        iterate 3 refine px_go hX ?_
        exact px_lw hw [(0, .ref b), (1, .ref (ad 0)), (2, .ref (ad 100)), (3, .ref (ad 200)), (4, .int (nI (i + 4)))] (ih (i + 4) _ _ _ (by omega) (by omega) (by omega) (by omega) (by omega) (LI.of hc1 hO1 e0 e1 e2 hC3 hs2 (hI.loads (xs (i + 1)) (xs (i + 2))))) ⟨rfl, rfl, rfl, rfl, (congrArg (fun z => some (Value.int z)) (nI_add i 4)), trivial⟩
    · have c1 : ¬ (xs i) &&& ((15 : Int32)) = (0 : Int32) := c1
      have c2 : ¬ (xs i) &&& ((15 : Int32)) = (1 : Int32) := c2
      have c3 : ¬ (xs i) &&& ((15 : Int32)) = (2 : Int32) := c3
      have c4 : ¬ (xs i) &&& ((15 : Int32)) = (3 : Int32) := c4
      have c5 : ¬ (xs i) &&& ((15 : Int32)) = (4 : Int32) := c5
      have c6 : ¬ (xs i) &&& ((15 : Int32)) = (5 : Int32) := c6
      have c7 : ¬ (xs i) &&& ((15 : Int32)) = (6 : Int32) := c7
      have c8 : (xs i) &&& ((15 : Int32)) = (7 : Int32) := c8
      iterate 6 refine px_go hX ?_
      refine ⟨rfl, (by rw [show nI i + px_ic 1 = nI (i + 1) from nI_add i 1]; exact vp_in_nI (by omega) (by omega)), ?_⟩
      rw [show nI i + px_ic 1 = nI (i + 1) from nI_add i 1, nI_clamp (n := i + 1) (by omega)]
      iterate 2 refine px_go hX ?_
      refine ⟨Nat.le_of_ble_eq_true rfl, 1, 6, _, by omega, by omega, Nat.le_of_ble_eq_true rfl, ww_dual hR hc hO hpl (xs (i + 1)), ?_⟩
      rintro _ C1 ⟨rfl, g1, ⟨ad1, K1, hR1, hc1, hK1, had1, had0, hO1⟩, hg⟩
      have e0 : ad1 0 = ad 0 := had0
      have e1 : ad1 100 = ad 100 := had1 100 (by omega)
      have e2 : ad1 200 = ad 200 := had1 200 (by omega)
      have hr1 := hr.cv hK1 had1
      iterate 7 refine px_go hX ?_
      refine ⟨rfl, (by rw [show nI i + px_ic 1 = nI (i + 1) from nI_add i 1]; exact vp_in_nI (by omega) (by omega)), ?_⟩
      rw [show nI i + px_ic 1 = nI (i + 1) from nI_add i 1, nI_clamp (n := i + 1) (by omega)]
      refine px_go hX ?_
      have hcall := rr_dual (B := B) (sc := (some (b, L, xs))) (d := 7) hR1 hr1 hs hnb4 (xs (i + 1))
      rw [e1] at hcall
      refine ⟨_, hR1.at2 e1 hr1.1, 0, 0, _, by omega, by omega, Nat.le_of_ble_eq_true rfl, hcall, ?_⟩
      rintro _ C2 ⟨ρ2, y2, hC2, hs2, hth, rfl, hy2⟩
      have hC3 := hC2
      obtain ⟨K2, hR2, hr2, hK2⟩ := hC2
      iterate 3 refine px_go hX ?_
      have hthr := rr_thrown (B := B) (sc := (some (b, L, xs))) (d := 8) hR2 hr2
      rw [e1] at hthr
      refine ⟨_, hR2.at2 e1 hr2.1, 0, 0, _, by omega, by omega, Nat.le_of_ble_eq_true rfl, hthr, ?_⟩
      rintro _ C3 ⟨rfl, rfl⟩
      iterate 2 refine px_go hX ?_
      refine ⟨fun (c36 : rs_sc ρ2 0 = nI (of_dual σ (xs (i + 1))).1) => ?_, fun (c36 : ¬ rs_sc ρ2 0 = nI (of_dual σ (xs (i + 1))).1) => absurd hth c36⟩
      iterate 2 refine px_go hX ?_
      refine ⟨fun (c37 : ¬ nI (of_dual σ (xs (i + 1))).1 = 0) => ?_, fun (c37 : nI (of_dual σ (xs (i + 1))).1 = 0) => ?_⟩
      · iterate 3 refine px_go hX ?_
        exact px_lw hw [(0, .ref b), (1, .ref (ad 0)), (2, .ref (ad 100)), (3, .ref (ad 200)), (4, .int (nI (i + 4)))] (ih (i + 4) _ _ _ (by omega) (by omega) (by omega) (by omega) (by omega) (LI.of hc1 hO1 e0 e1 e2 hC3 hs2 (hI.dual (xs (i + 1))))) ⟨rfl, rfl, rfl, rfl, (congrArg (fun z => some (Value.int z)) (nI_add i 4)), trivial⟩
      · have h1z : (of_dual σ (xs (i + 1))).1 = 0 := (nI_eq (b := 0) (Nat.lt_of_le_of_lt (of_dual_l (xs (i + 1))) (by omega)) (by omega)).mp c37
        have hcmp : g1 0 = y2.toInt64 := by rw [hg h1z, hy2 h1z]
        iterate 3 refine px_go hX ?_
        refine ⟨_, _, (hR2.at2 e2 ((hK2 200 (by omega)).trans hO1)), (vp_in_nI (n := 0) (by omega) (by omega)), ?_⟩
        iterate 4 refine px_go hX ?_
        refine ⟨fun (c38 : lg_cmp (g1 0) ((y2).toInt64) = 0) => ?_, fun (c38 : ¬ lg_cmp (g1 0) ((y2).toInt64) = 0) => absurd ((lg_cmp_eq _ _).mpr hcmp) c38⟩
        iterate 3 refine px_go hX ?_
        exact px_lw hw [(0, .ref b), (1, .ref (ad 0)), (2, .ref (ad 100)), (3, .ref (ad 200)), (4, .int (nI (i + 4)))] (ih (i + 4) _ _ _ (by omega) (by omega) (by omega) (by omega) (by omega) (LI.of hc1 hO1 e0 e1 e2 hC3 hs2 (hI.dual (xs (i + 1))))) ⟨rfl, rfl, rfl, rfl, (congrArg (fun z => some (Value.int z)) (nI_add i 4)), trivial⟩
    · have c1 : ¬ (xs i) &&& ((15 : Int32)) = (0 : Int32) := c1
      have c2 : ¬ (xs i) &&& ((15 : Int32)) = (1 : Int32) := c2
      have c3 : ¬ (xs i) &&& ((15 : Int32)) = (2 : Int32) := c3
      have c4 : ¬ (xs i) &&& ((15 : Int32)) = (3 : Int32) := c4
      have c5 : ¬ (xs i) &&& ((15 : Int32)) = (4 : Int32) := c5
      have c6 : ¬ (xs i) &&& ((15 : Int32)) = (5 : Int32) := c6
      have c7 : ¬ (xs i) &&& ((15 : Int32)) = (6 : Int32) := c7
      have c8 : ¬ (xs i) &&& ((15 : Int32)) = (7 : Int32) := c8
      have c9 : (xs i) &&& ((15 : Int32)) = (8 : Int32) := c9
      iterate 6 refine px_go hX ?_
      refine ⟨rfl, (by rw [show nI i + px_ic 1 = nI (i + 1) from nI_add i 1]; exact vp_in_nI (by omega) (by omega)), ?_⟩
      rw [show nI i + px_ic 1 = nI (i + 1) from nI_add i 1, nI_clamp (n := i + 1) (by omega)]
      iterate 5 refine px_go hX ?_
      refine ⟨rfl, (by rw [show nI i + px_ic 2 = nI (i + 2) from nI_add i 2]; exact vp_in_nI (by omega) (by omega)), ?_⟩
      rw [show nI i + px_ic 2 = nI (i + 2) from nI_add i 2, nI_clamp (n := i + 2) (by omega)]
      iterate 2 refine px_go hX ?_
      refine ⟨Nat.le_of_ble_eq_true rfl, 1, 6, _, by omega, by omega, Nat.le_of_ble_eq_true rfl, ww_swap hR hc hO hib (xs (i + 1)) (xs (i + 2)), ?_⟩
      rintro _ C1 ⟨rfl, g1, ⟨ad1, K1, hR1, hc1, hK1, had1, had0, hO1⟩, hg⟩
      have e0 : ad1 0 = ad 0 := had0
      have e1 : ad1 100 = ad 100 := had1 100 (by omega)
      have e2 : ad1 200 = ad 200 := had1 200 (by omega)
      have hr1 := hr.cv hK1 had1
      iterate 7 refine px_go hX ?_
      refine ⟨rfl, (by rw [show nI i + px_ic 1 = nI (i + 1) from nI_add i 1]; exact vp_in_nI (by omega) (by omega)), ?_⟩
      rw [show nI i + px_ic 1 = nI (i + 1) from nI_add i 1, nI_clamp (n := i + 1) (by omega)]
      iterate 5 refine px_go hX ?_
      refine ⟨rfl, (by rw [show nI i + px_ic 2 = nI (i + 2) from nI_add i 2]; exact vp_in_nI (by omega) (by omega)), ?_⟩
      rw [show nI i + px_ic 2 = nI (i + 2) from nI_add i 2, nI_clamp (n := i + 2) (by omega)]
      refine px_go hX ?_
      have hcall := rr_swap (B := B) (sc := (some (b, L, xs))) (d := 7) hR1 hr1 hs hn16 hnb4 hib her (xs (i + 1)) (xs (i + 2))
      rw [e1] at hcall
      refine ⟨_, hR1.at2 e1 hr1.1, 0, 0, _, by omega, by omega, Nat.le_of_ble_eq_true rfl, hcall, ?_⟩
      rintro _ C2 ⟨ρ2, y2, hC2, hs2, hth, rfl, hy2⟩
      have hC3 := hC2
      obtain ⟨K2, hR2, hr2, hK2⟩ := hC2
      iterate 3 refine px_go hX ?_
      have hthr := rr_thrown (B := B) (sc := (some (b, L, xs))) (d := 8) hR2 hr2
      rw [e1] at hthr
      refine ⟨_, hR2.at2 e1 hr2.1, 0, 0, _, by omega, by omega, Nat.le_of_ble_eq_true rfl, hthr, ?_⟩
      rintro _ C3 ⟨rfl, rfl⟩
      iterate 2 refine px_go hX ?_
      refine ⟨fun (c39 : rs_sc ρ2 0 = nI (of_swap σ (xs (i + 1)) (xs (i + 2))).1) => ?_, fun (c39 : ¬ rs_sc ρ2 0 = nI (of_swap σ (xs (i + 1)) (xs (i + 2))).1) => absurd hth c39⟩
      iterate 2 refine px_go hX ?_
      refine ⟨fun (c40 : ¬ nI (of_swap σ (xs (i + 1)) (xs (i + 2))).1 = 0) => ?_, fun (c40 : nI (of_swap σ (xs (i + 1)) (xs (i + 2))).1 = 0) => ?_⟩
      · iterate 3 refine px_go hX ?_
        exact px_lw hw [(0, .ref b), (1, .ref (ad 0)), (2, .ref (ad 100)), (3, .ref (ad 200)), (4, .int (nI (i + 4)))] (ih (i + 4) _ _ _ (by omega) (by omega) (by omega) (by omega) (by omega) (LI.of hc1 hO1 e0 e1 e2 hC3 hs2 (hI.swap (xs (i + 1)) (xs (i + 2))))) ⟨rfl, rfl, rfl, rfl, (congrArg (fun z => some (Value.int z)) (nI_add i 4)), trivial⟩
      · have h1z : (of_swap σ (xs (i + 1)) (xs (i + 2))).1 = 0 := (nI_eq (b := 0) (Nat.lt_of_le_of_lt (of_swap_l (xs (i + 1)) (xs (i + 2))) (by omega)) (by omega)).mp c40
        have hcmp : g1 0 = y2.toInt64 := by rw [hg h1z, hy2 h1z]
        iterate 3 refine px_go hX ?_
        refine ⟨_, _, (hR2.at2 e2 ((hK2 200 (by omega)).trans hO1)), (vp_in_nI (n := 0) (by omega) (by omega)), ?_⟩
        iterate 4 refine px_go hX ?_
        refine ⟨fun (c41 : lg_cmp (g1 0) ((y2).toInt64) = 0) => ?_, fun (c41 : ¬ lg_cmp (g1 0) ((y2).toInt64) = 0) => absurd ((lg_cmp_eq _ _).mpr hcmp) c41⟩
        iterate 3 refine px_go hX ?_
        exact px_lw hw [(0, .ref b), (1, .ref (ad 0)), (2, .ref (ad 100)), (3, .ref (ad 200)), (4, .int (nI (i + 4)))] (ih (i + 4) _ _ _ (by omega) (by omega) (by omega) (by omega) (by omega) (LI.of hc1 hO1 e0 e1 e2 hC3 hs2 (hI.swap (xs (i + 1)) (xs (i + 2))))) ⟨rfl, rfl, rfl, rfl, (congrArg (fun z => some (Value.int z)) (nI_add i 4)), trivial⟩
    · have c1 : ¬ (xs i) &&& ((15 : Int32)) = (0 : Int32) := c1
      have c2 : ¬ (xs i) &&& ((15 : Int32)) = (1 : Int32) := c2
      have c3 : ¬ (xs i) &&& ((15 : Int32)) = (2 : Int32) := c3
      have c4 : ¬ (xs i) &&& ((15 : Int32)) = (3 : Int32) := c4
      have c5 : ¬ (xs i) &&& ((15 : Int32)) = (4 : Int32) := c5
      have c6 : ¬ (xs i) &&& ((15 : Int32)) = (5 : Int32) := c6
      have c7 : ¬ (xs i) &&& ((15 : Int32)) = (6 : Int32) := c7
      have c8 : ¬ (xs i) &&& ((15 : Int32)) = (7 : Int32) := c8
      have c9 : ¬ (xs i) &&& ((15 : Int32)) = (8 : Int32) := c9
      have c10 : (xs i) &&& ((15 : Int32)) = (9 : Int32) := c10
      iterate 6 refine px_go hX ?_
      refine ⟨rfl, (by rw [show nI i + px_ic 1 = nI (i + 1) from nI_add i 1]; exact vp_in_nI (by omega) (by omega)), ?_⟩
      rw [show nI i + px_ic 1 = nI (i + 1) from nI_add i 1, nI_clamp (n := i + 1) (by omega)]
      iterate 5 refine px_go hX ?_
      refine ⟨rfl, (by rw [show nI i + px_ic 2 = nI (i + 2) from nI_add i 2]; exact vp_in_nI (by omega) (by omega)), ?_⟩
      rw [show nI i + px_ic 2 = nI (i + 2) from nI_add i 2, nI_clamp (n := i + 2) (by omega)]
      iterate 2 refine px_go hX ?_
      refine ⟨Nat.le_of_ble_eq_true rfl, 1, 6, _, by omega, by omega, Nat.le_of_ble_eq_true rfl, ww_look hR hc hO (xs (i + 1)) (xs (i + 2)), ?_⟩
      rintro _ C1 ⟨rfl, g1, ⟨ad1, K1, hR1, hc1, hK1, had1, had0, hO1⟩, hg⟩
      have e0 : ad1 0 = ad 0 := had0
      have e1 : ad1 100 = ad 100 := had1 100 (by omega)
      have e2 : ad1 200 = ad 200 := had1 200 (by omega)
      have hr1 := hr.cv hK1 had1
      iterate 7 refine px_go hX ?_
      refine ⟨rfl, (by rw [show nI i + px_ic 1 = nI (i + 1) from nI_add i 1]; exact vp_in_nI (by omega) (by omega)), ?_⟩
      rw [show nI i + px_ic 1 = nI (i + 1) from nI_add i 1, nI_clamp (n := i + 1) (by omega)]
      iterate 5 refine px_go hX ?_
      refine ⟨rfl, (by rw [show nI i + px_ic 2 = nI (i + 2) from nI_add i 2]; exact vp_in_nI (by omega) (by omega)), ?_⟩
      rw [show nI i + px_ic 2 = nI (i + 2) from nI_add i 2, nI_clamp (n := i + 2) (by omega)]
      refine px_go hX ?_
      have hcall := rr_look (B := B) (sc := (some (b, L, xs))) (d := 7) hR1 hr1 hs hn16 (xs (i + 1)) (xs (i + 2))
      rw [e1] at hcall
      refine ⟨_, hR1.at2 e1 hr1.1, 0, 0, _, by omega, by omega, Nat.le_of_ble_eq_true rfl, hcall, ?_⟩
      rintro _ C2 ⟨ρ2, y2, hC2, hs2, hth, rfl, hy2⟩
      have hC3 := hC2
      obtain ⟨K2, hR2, hr2, hK2⟩ := hC2
      iterate 3 refine px_go hX ?_
      have hthr := rr_thrown (B := B) (sc := (some (b, L, xs))) (d := 8) hR2 hr2
      rw [e1] at hthr
      refine ⟨_, hR2.at2 e1 hr2.1, 0, 0, _, by omega, by omega, Nat.le_of_ble_eq_true rfl, hthr, ?_⟩
      rintro _ C3 ⟨rfl, rfl⟩
      iterate 2 refine px_go hX ?_
      refine ⟨fun (c42 : rs_sc ρ2 0 = nI (of_look σ (xs (i + 1)) (xs (i + 2))).1) => ?_, fun (c42 : ¬ rs_sc ρ2 0 = nI (of_look σ (xs (i + 1)) (xs (i + 2))).1) => absurd hth c42⟩
      iterate 2 refine px_go hX ?_
      refine ⟨fun (c43 : ¬ nI (of_look σ (xs (i + 1)) (xs (i + 2))).1 = 0) => ?_, fun (c43 : nI (of_look σ (xs (i + 1)) (xs (i + 2))).1 = 0) => ?_⟩
      · iterate 3 refine px_go hX ?_
        exact px_lw hw [(0, .ref b), (1, .ref (ad 0)), (2, .ref (ad 100)), (3, .ref (ad 200)), (4, .int (nI (i + 4)))] (ih (i + 4) _ _ _ (by omega) (by omega) (by omega) (by omega) (by omega) (LI.of hc1 hO1 e0 e1 e2 hC3 hs2 (hI.look (xs (i + 1)) (xs (i + 2))))) ⟨rfl, rfl, rfl, rfl, (congrArg (fun z => some (Value.int z)) (nI_add i 4)), trivial⟩
      · have h1z : (of_look σ (xs (i + 1)) (xs (i + 2))).1 = 0 := (nI_eq (b := 0) (Nat.lt_of_le_of_lt (of_look_l (xs (i + 1)) (xs (i + 2))) (by omega)) (by omega)).mp c43
        have hcmp : g1 0 = y2.toInt64 := by rw [hg h1z, hy2 h1z]
        iterate 3 refine px_go hX ?_
        refine ⟨_, _, (hR2.at2 e2 ((hK2 200 (by omega)).trans hO1)), (vp_in_nI (n := 0) (by omega) (by omega)), ?_⟩
        iterate 4 refine px_go hX ?_
        refine ⟨fun (c44 : lg_cmp (g1 0) ((y2).toInt64) = 0) => ?_, fun (c44 : ¬ lg_cmp (g1 0) ((y2).toInt64) = 0) => absurd ((lg_cmp_eq _ _).mpr hcmp) c44⟩
        iterate 3 refine px_go hX ?_
        exact px_lw hw [(0, .ref b), (1, .ref (ad 0)), (2, .ref (ad 100)), (3, .ref (ad 200)), (4, .int (nI (i + 4)))] (ih (i + 4) _ _ _ (by omega) (by omega) (by omega) (by omega) (by omega) (LI.of hc1 hO1 e0 e1 e2 hC3 hs2 (hI.look (xs (i + 1)) (xs (i + 2))))) ⟨rfl, rfl, rfl, rfl, (congrArg (fun z => some (Value.int z)) (nI_add i 4)), trivial⟩
    · have c1 : ¬ (xs i) &&& ((15 : Int32)) = (0 : Int32) := c1
      have c2 : ¬ (xs i) &&& ((15 : Int32)) = (1 : Int32) := c2
      have c3 : ¬ (xs i) &&& ((15 : Int32)) = (2 : Int32) := c3
      have c4 : ¬ (xs i) &&& ((15 : Int32)) = (3 : Int32) := c4
      have c5 : ¬ (xs i) &&& ((15 : Int32)) = (4 : Int32) := c5
      have c6 : ¬ (xs i) &&& ((15 : Int32)) = (5 : Int32) := c6
      have c7 : ¬ (xs i) &&& ((15 : Int32)) = (6 : Int32) := c7
      have c8 : ¬ (xs i) &&& ((15 : Int32)) = (7 : Int32) := c8
      have c9 : ¬ (xs i) &&& ((15 : Int32)) = (8 : Int32) := c9
      have c10 : ¬ (xs i) &&& ((15 : Int32)) = (9 : Int32) := c10
      have c11 : (xs i) &&& ((15 : Int32)) = (10 : Int32) := c11
      iterate 6 refine px_go hX ?_
      refine ⟨rfl, (by rw [show nI i + px_ic 1 = nI (i + 1) from nI_add i 1]; exact vp_in_nI (by omega) (by omega)), ?_⟩
      rw [show nI i + px_ic 1 = nI (i + 1) from nI_add i 1, nI_clamp (n := i + 1) (by omega)]
      refine px_go hX ?_
      refine ⟨_, hR.1 0 _ hc.1.1, 0, 0, _, by omega, by omega, Nat.le_of_ble_eq_true rfl, cc_count hR hc (xs (i + 1)), ?_⟩
      rintro _ C1 ⟨rfl, rfl⟩
      iterate 6 refine px_go hX ?_
      refine ⟨rfl, (by rw [show nI i + px_ic 1 = nI (i + 1) from nI_add i 1]; exact vp_in_nI (by omega) (by omega)), ?_⟩
      rw [show nI i + px_ic 1 = nI (i + 1) from nI_add i 1, nI_clamp (n := i + 1) (by omega)]
      refine px_go hX ?_
      refine ⟨_, hR.1 100 _ hr.1, 0, 0, _, by omega, by omega, Nat.le_of_ble_eq_true rfl, rr_count hR hr hs hn16 hnb4 (xs (i + 1)), ?_⟩
      rintro _ C2 ⟨rfl, ρ2, hC3, hs2⟩
      refine px_go hX ?_
      refine ⟨fun (c45 : cs_cnt σ (xs (i + 1)) = cs_cnt σ (xs (i + 1))) => ?_, fun (c45 : ¬ cs_cnt σ (xs (i + 1)) = cs_cnt σ (xs (i + 1))) => absurd rfl c45⟩
      iterate 2 refine px_go hX ?_
      exact px_lw hw [(0, .ref b), (1, .ref (ad 0)), (2, .ref (ad 100)), (3, .ref (ad 200)), (4, .int (nI (i + 4)))] (ih (i + 4) _ _ _ (by omega) (by omega) (by omega) (by omega) (by omega) (LI.of (ad1 := ad) hc hO rfl rfl rfl hC3 hs2 hI)) ⟨rfl, rfl, rfl, rfl, (congrArg (fun z => some (Value.int z)) (nI_add i 4)), trivial⟩
    · have c1 : ¬ (xs i) &&& ((15 : Int32)) = (0 : Int32) := c1
      have c2 : ¬ (xs i) &&& ((15 : Int32)) = (1 : Int32) := c2
      have c3 : ¬ (xs i) &&& ((15 : Int32)) = (2 : Int32) := c3
      have c4 : ¬ (xs i) &&& ((15 : Int32)) = (3 : Int32) := c4
      have c5 : ¬ (xs i) &&& ((15 : Int32)) = (4 : Int32) := c5
      have c6 : ¬ (xs i) &&& ((15 : Int32)) = (5 : Int32) := c6
      have c7 : ¬ (xs i) &&& ((15 : Int32)) = (6 : Int32) := c7
      have c8 : ¬ (xs i) &&& ((15 : Int32)) = (7 : Int32) := c8
      have c9 : ¬ (xs i) &&& ((15 : Int32)) = (8 : Int32) := c9
      have c10 : ¬ (xs i) &&& ((15 : Int32)) = (9 : Int32) := c10
      have c11 : ¬ (xs i) &&& ((15 : Int32)) = (10 : Int32) := c11
      iterate 2 refine px_go hX ?_
      exact px_lw hw [(0, .ref b), (1, .ref (ad 0)), (2, .ref (ad 100)), (3, .ref (ad 200)), (4, .int (nI (i + 4)))] (ih (i + 4) _ _ _ (by omega) (by omega) (by omega) (by omega) (by omega) (⟨σ, ρ, ad, K, g, hR, hc, hr, hO, rfl, rfl, rfl, hs, hI⟩)) ⟨rfl, rfl, rfl, rfl, (congrArg (fun z => some (Value.int z)) (nI_add i 4)), trivial⟩
