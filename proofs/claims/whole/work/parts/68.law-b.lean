/-! The law's call of plan; a cell of the script. -/
/-- what a plan of bay b answers to the law, and the state behind it -/
def PlanW (ad : Nat → Nat) (σ : ck_S) (K : rp_K) (b : Nat) (C' : px_P) : Prop := ∃ (σ1 : ck_S) (c0 : Nat) (J : cs_J), Ad σ σ1 (bjs σ (nI b) (cs_n σ)) c0 ∧ (∀ r, r < 1024 → J.2.1 r = 0) ∧
  (((cs_F σ1 (bjs σ (nI b) (cs_n σ)).length c0).2 = 0 ∧ ∃ g, Cv ad (cs_jk (cs_fp σ b) J) K C' g ∧ g 0 = (-1 : Int32).toInt64) ∨
   ∃ e L Y, (cs_F σ1 (bjs σ (nI b) (cs_n σ)).length c0).2 = e + 1 ∧ Told σ1 (cs_F σ1 (bjs σ (nI b) (cs_n σ)).length c0) e b L Y ∧ ∃ g, Cv ad (cs_jk (cs_yA (cs_sP σ b (nI L)) Y) J) K C' g ∧ g 0 = (nI L).toInt64)
section TC
variable {B : Nat} {sc : Option (Nat × Nat × (Nat → Int32))} {d : Nat} {ad : Nat → Nat} {σ : ck_S} {K : rp_K} {C : px_P}
theorem ww_plan (hR : Rp ad K C) (hc : Cl ad σ K) {g : Nat → Int64} (hO : K 200 = some (px_j 1 g)) (hz : cs_hz σ) (hrg : cs_rg σ) (hb4 : cs_b4 σ) (x : Int32) : px_W ps_Y ps_P B sc (d + 8) 67 [.ref (ad 0), .int x, .ref (ad 200)] C 1 6 (fun v C' => (v = some (.int 0) ∧ ∃ b, b < cs_nb σ ∧ x = nI b ∧ PlanW ad σ K b C') ∨ (v = some (.int 1) ∧ (x < 0 ∨ nI (cs_nb σ) ≤ x) ∧ ∃ g, Cv ad σ K C' g)) px_no := by
  refine ⟨pm_Law_plan, rfl, Nat.le_of_ble_eq_true rfl, fun X hw hX => ?_⟩
  iterate 5 refine px_go hX ?_
  refine ⟨_, hR.1 0 _ hc.1.1, 1, 6, _, _, Nat.le_of_ble_eq_true rfl, Nat.le_of_ble_eq_true rfl, Nat.le_of_ble_eq_true rfl, cc_plan hR hc hz hrg hb4 x, ?_, ?_⟩
  · rintro v C1 ⟨b, hb, hx, σ1, c0, J, hA, hJ, ⟨hF, rfl, hC⟩ | ⟨e, L, Y, hF, hT, rfl, hC⟩⟩
    · iterate 2 refine px_go hX ?_
      refine ⟨_, _, hC.ca.o hO, (vp_in_nI (n := 0) (by omega) (by omega)), ?_⟩
      iterate 3 refine px_go hX ?_
      exact Or.inl ⟨rfl, b, hb, hx, σ1, c0, J, hA, hJ, Or.inl ⟨hF, _, Cv.put hC.ca hO _, pk_uLs⟩⟩
    · iterate 2 refine px_go hX ?_
      refine ⟨_, _, hC.ca.o hO, (vp_in_nI (n := 0) (by omega) (by omega)), ?_⟩
      iterate 3 refine px_go hX ?_
      exact Or.inl ⟨rfl, b, hb, hx, σ1, c0, J, hA, hJ, Or.inr ⟨e, L, Y, hF, hT, _, Cv.put hC.ca hO _, pk_uLs⟩⟩
  · rintro kd C1 q ⟨rfl, rfl, hx⟩
    iterate 3 refine px_go hX ?_
    exact Or.inr ⟨rfl, hx, g, Cv.of (Ca.of hR hc) hO⟩
end TC
section TD
variable {B b L : Nat} {xs : Nat → Int32} {d : Nat} {C : px_P}
/-- a cell of the script -/
def xcl (L : Nat) (xs : Nat → Int32) (i : Nat) : Int32 := if i < L then xs i else 0
theorem ww_cell {i : Nat} (hL : L ≤ 2050) (hi : i < 2) : px_W ps_Y ps_P B (some (b, L, xs)) (d + 1) 53 [.ref b, .int (nI i)] C 0 0 (fun v C' => C' = C ∧ v = some (.int (xcl L xs i))) px_no := by
  refine ⟨pm_Law_cell, rfl, Nat.le_of_ble_eq_true rfl, fun X hw hX => ?_⟩
  iterate 3 refine px_go hX ?_
  refine ⟨rfl, ?_⟩
  refine px_go hX ?_
  refine ⟨fun (c1 : nI L ≤ nI i) => ?_, fun (c1 : ¬ nI L ≤ nI i) => ?_⟩
  · iterate 2 refine px_go hX ?_
    refine ⟨rfl, ?_⟩
    unfold xcl
    rw [if_neg (fun w => nI_ge w (by omega) c1)]
    rfl
  · have h : i < L := Nat.lt_of_not_le (fun w => c1 (nI_le w (by omega)))
    iterate 3 refine px_go hX ?_
    refine ⟨rfl, vp_in_nI h (by omega), ?_⟩
    rw [nI_clamp (by omega)]
    iterate 2 refine px_go hX ?_
    refine ⟨rfl, ?_⟩
    unfold xcl
    rw [if_pos h]
end TD
section TE
variable {B : Nat} {sc : Option (Nat × Nat × (Nat → Int32))} {d : Nat} {ad : Nat → Nat} {σ : ck_S} {ρ : rs_S} {K : rp_K} {C : px_P}
theorem rr_planN (hR : Rp ad K C) (hr : Rl ad ρ K) (hs : Sim σ ρ) {x : Int32} (hx : x < 0 ∨ nI (cs_nb σ) ≤ x) : px_W ps_Y ps_P B sc (d + 2) 79 [.ref (ad 100), .int x] C 0 0 (fun v C' => v = some (.int 0) ∧ Cr ad (rs_th ρ 1) K C') px_no := by
  obtain ⟨p, fs, fa, fw⟩ := ρ
  obtain rfl : p = σ.1 := hs.1.1
  refine ⟨pm_Ref_plan, rfl, Nat.le_of_ble_eq_true rfl, fun X hw hX => ?_⟩
  iterate 3 refine px_go hX ?_
  refine ⟨_, (hR.1 100 _ hr.1), 0, 0, _, Nat.le_of_ble_eq_true rfl, Nat.le_of_ble_eq_true rfl, Nat.le_of_ble_eq_true rfl, rr_isBay hR hr hs _, ?_⟩
  rintro _ C ⟨rfl, ⟨b1, rfl⟩ | ⟨b1, rfl⟩⟩
  · exact absurd hx (fun w => w.elim b1.1 b1.2)
  · refine px_go hX ?_
    refine ⟨fun (c2 : ¬ 0 = 0) => absurd rfl c2, fun (c2 : 0 = 0) => ?_⟩
    iterate 3 refine px_go hX ?_
    refine ⟨_, (hR.1 100 _ hr.1), 0, 0, _, Nat.le_of_ble_eq_true rfl, Nat.le_of_ble_eq_true rfl, Nat.le_of_ble_eq_true rfl, rr_refuse hR hr hs _, ?_⟩
    rintro _ C ⟨rfl, hC1⟩
    refine px_go hX ?_
    exact ⟨rfl, hC1⟩
end TE
