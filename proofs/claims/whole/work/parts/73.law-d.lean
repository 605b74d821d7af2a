/-! The law. -/
theorem Cl.ad {ad ad' : Nat → Nat} {σ : ck_S} {K : rp_K} (h : Cl ad σ K) (ha : ∀ i, i < 100 → ad' i = ad i) : Cl ad' σ K := by
  obtain ⟨⟨a0, a1, a2, a3⟩, ⟨b4, b5, b6, b7, b8, b9, b10, b11⟩, hy, hx, hn, q1, q2, q3, q4, q5⟩ := h
  refine ⟨⟨?_, ?_, ?_, ?_⟩, ⟨b4, b5, b6, b7, b8, b9, b10, b11⟩, fun c hc => ?_, hx, hn, q1, q2, q3, q4, q5⟩
  · rw [a0]
    unfold cc_ob
    rw [ha 1 (by omega), ha 2 (by omega), ha 3 (by omega)]
  · rw [a1]
    congr 2
    funext c
    by_cases hc : c < cs_nb σ
    · rw [if_pos hc, if_pos hc, ha _ (by omega)]
    · rw [if_neg hc, if_neg hc]
  · rw [a2]
    congr 2
    funext j
    by_cases hj : j < cs_n σ
    · rw [if_pos hj, if_pos hj, ha _ (by omega)]
    · rw [if_neg hj, if_neg hj]
  · rw [a3]
    unfold cc_se
    rw [ha 4 (by omega), ha 5 (by omega), ha 6 (by omega), ha 7 (by omega), ha 8 (by omega), ha 9 (by omega), ha 10 (by omega), ha 11 (by omega)]
  · obtain ⟨y0, y1, y2, y3⟩ := hy c hc
    refine ⟨?_, y1, y2, y3⟩
    rw [y0]
    unfold cc_bay
    rw [ha (21 + 4 * c) (by omega), ha (22 + 4 * c) (by omega), ha (23 + 4 * c) (by omega)]
set_option maxHeartbeats 4000000 in
set_option maxRecDepth 100000 in
theorem law_ok (B b L : Nat) (xs : Nat → Int32) (hL : L ≤ 2050) (hb : b < B) : px_LawG B b L xs := by
  intro X hw hX
  iterate 1 refine px_go hX ?_
  refine ⟨Nat.le_of_ble_eq_true rfl, Nat.le_of_ble_eq_true rfl, fun q0 h0n h0b => ?_⟩
  have R0 : Rp (fun _ => q0) (rp_up (fun _ => none) 0 (mo_o .null .null .null 0)) (px_up (fun _ => none) q0 (mo_o .null .null .null 0)) := by
    have h : Rp (fun _ => q0) (fun _ => none) (fun _ => none) := ⟨fun i e h => (by cases h), fun i j h => (by obtain ⟨e, h⟩ := h; cases h)⟩
    have h2 := h.new (i := 0) (q := q0) rfl rfl (mo_o .null .null .null 0)
    have e : va_up (fun _ => q0) 0 q0 = (fun _ => q0) := by
      funext i
      by_cases hi : i = 0
      · rw [hi, va_up_self]
      · rw [va_up_ne _ _ hi]
    rwa [e] at h2
  have hno1 : ∀ j, 1 ≤ j → rp_up (fun _ => none) 0 (mo_o .null .null .null 0) j = none := fun j hj => rp_up_n _ _ (by omega)
  iterate 4 refine px_go hX ?_
  refine ⟨Nat.le_of_ble_eq_true rfl, 0, 0, _, Nat.le_of_ble_eq_true rfl, Nat.le_of_ble_eq_true rfl, Nat.le_of_ble_eq_true rfl, ww_cell hL (by omega : 0 < 2), ?_⟩
  rintro _ C1 ⟨rfl, rfl⟩
  iterate 3 refine px_go hX ?_
  refine ⟨Nat.le_of_ble_eq_true rfl, 0, 0, _, Nat.le_of_ble_eq_true rfl, Nat.le_of_ble_eq_true rfl, Nat.le_of_ble_eq_true rfl, ww_cell hL (by omega : 1 < 2), ?_⟩
  rintro _ C1 ⟨rfl, rfl⟩
  refine px_go hX ?_
  refine ⟨27, 4964, _, Nat.le_of_ble_eq_true rfl, Nat.le_of_ble_eq_true rfl, Nat.le_of_ble_eq_true rfl, ci_Mo R0 rfl (rp_up_s _ _ _) (fun j h1 h2 => hno1 j h1), ?_⟩
  rintro _ C1 ⟨rfl, ad1, K1, hR1, hc1, hK1, ha1⟩
  have hno2 : ∀ j, 100 ≤ j → K1 j = none := fun j hj => (hK1 j hj).1.trans (hno1 j (by omega))
  iterate 2 refine px_go hX ?_
  refine ⟨Nat.le_of_ble_eq_true rfl, Nat.le_of_ble_eq_true rfl, fun q1 h1n h1b => ?_⟩
  have R1 := hR1.new (i := 100) (q := q1) (hno2 100 (by omega)) h1n (px_o 4 [.int 0, .int 0, .int 0, .int 0, .null, .null, .null, .null, .null, .null, .int 0, .int 0, .null, .null, .null, .null, .null, .null, .null, .null, .null, .int 0, .null, .null, .int 0])
  iterate 4 refine px_go hX ?_
  refine ⟨Nat.le_of_ble_eq_true rfl, 0, 0, _, Nat.le_of_ble_eq_true rfl, Nat.le_of_ble_eq_true rfl, Nat.le_of_ble_eq_true rfl, ww_cell hL (by omega : 0 < 2), ?_⟩
  rintro _ C2 ⟨rfl, rfl⟩
  iterate 3 refine px_go hX ?_
  refine ⟨Nat.le_of_ble_eq_true rfl, 0, 0, _, Nat.le_of_ble_eq_true rfl, Nat.le_of_ble_eq_true rfl, Nat.le_of_ble_eq_true rfl, ww_cell hL (by omega : 1 < 2), ?_⟩
  rintro _ C2 ⟨rfl, rfl⟩
  refine px_go hX ?_
  refine ⟨17, 11060, _, Nat.le_of_ble_eq_true rfl, Nat.le_of_ble_eq_true rfl, Nat.le_of_ble_eq_true rfl, ci_Ref R1 (va_up_self _ _ _) (rp_up_s _ _ _) ((rp_up_n _ _ (by omega)).trans (hno2 101 (by omega))) ((rp_up_n _ _ (by omega)).trans (hno2 102 (by omega))) ((rp_up_n _ _ (by omega)).trans (hno2 103 (by omega))) ((rp_up_n _ _ (by omega)).trans (hno2 104 (by omega))) ((rp_up_n _ _ (by omega)).trans (hno2 105 (by omega))) ((rp_up_n _ _ (by omega)).trans (hno2 106 (by omega))) ((rp_up_n _ _ (by omega)).trans (hno2 107 (by omega))) ((rp_up_n _ _ (by omega)).trans (hno2 108 (by omega))) ((rp_up_n _ _ (by omega)).trans (hno2 109 (by omega))) ((rp_up_n _ _ (by omega)).trans (hno2 110 (by omega))) ((rp_up_n _ _ (by omega)).trans (hno2 111 (by omega))) ((rp_up_n _ _ (by omega)).trans (hno2 112 (by omega))) ((rp_up_n _ _ (by omega)).trans (hno2 113 (by omega))) ((rp_up_n _ _ (by omega)).trans (hno2 114 (by omega))) ((rp_up_n _ _ (by omega)).trans (hno2 115 (by omega))) ((rp_up_n _ _ (by omega)).trans (hno2 116 (by omega))) ((rp_up_n _ _ (by omega)).trans (hno2 117 (by omega))), ?_⟩
  rintro _ C2 ⟨rfl, ad2, K2, hR2, hr2, hK2, ha2⟩
  have e0 : ad2 0 = q0 := (hK2 0 (by omega)).2.trans ((va_up_ne _ _ (by omega)).trans ha1)
  have hc2 : Cl ad2 (cs_0 (clp (xcl L xs 0)) (clp (xcl L xs 1))) K2 := by
    have hc := hc1.fr (K' := K2) (fun i hi => (hK2 i (by omega)).1.trans (rp_up_n _ _ (by omega)))
    exact hc.ad (fun i hi => (hK2 i (by omega)).2.trans (va_up_ne _ _ (by omega)))
  have hno3 : K2 200 = none := (hK2 200 (by omega)).1.trans ((rp_up_n _ _ (by omega)).trans (hno2 200 (by omega)))
  iterate 3 refine px_go hX ?_
  refine ⟨by decide +kernel, by decide +kernel, Nat.le_of_ble_eq_true rfl, Nat.le_of_ble_eq_true rfl, fun q2 h2n h2b => ?_⟩
  have R3 := hR2.new (i := 200) (q := q2) hno3 h2n (px_j 1 (fun _ => 0))
  iterate 3 refine px_go hX ?_
  have hx := clp_1 (xcl L xs 0)
  have hy := clp_1 (xcl L xs 1)
  refine px_lw hw [(0, .ref b), (1, .ref q0), (2, .ref q1), (3, .ref q2), (4, .int (nI 2))] (law_loop B b L xs hL q0 q1 q2 X hw hX 600 2 _ _ _ (by omega) (by omega) (Nat.le_of_ble_eq_true rfl) (Nat.le_of_ble_eq_true rfl) (by omega) ⟨_, _, _, _, _, R3, ?_, ?_, rp_up_s _ _ _, ?_, ?_, va_up_self _ _ _, Sim.init _ _, Inv.init hx.1 hx.2 hy.1 hy.2⟩) ⟨rfl, rfl, rfl, rfl, rfl, trivial⟩
  · exact (hc2.fr (fun i hi => rp_up_n _ _ (by omega))).ad (fun i hi => va_up_ne _ _ (by omega))
  · exact hr2.fr (fun i h1 h2 => ⟨rp_up_n _ _ (by omega), va_up_ne _ _ (by omega)⟩)
  · exact (va_up_ne _ _ (by omega)).trans e0
  · exact (va_up_ne _ _ (by omega)).trans ha2
