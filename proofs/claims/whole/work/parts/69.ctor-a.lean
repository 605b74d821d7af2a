/-! The class's constructor. -/
theorem Rp.put2 {ad : Nat → Nat} {K : rp_K} {C : px_P} (h : Rp ad K C) {i a : Nat} (ha : ad i = a) {e0 : px_E} (hi : K i = some e0) (e : px_E) : Rp ad (rp_up K i e) (px_up C a e) := ha ▸ h.put hi e
theorem Rp.at2 {ad : Nat → Nat} {K : rp_K} {C : px_P} (h : Rp ad K C) {i a : Nat} (ha : ad i = a) {e : px_E} (hi : K i = some e) : C a = some e := ha ▸ h.1 i e hi
section UA
variable {B : Nat} {sc : Option (Nat × Nat × (Nat → Int32))} {d : Nat} {ad : Nat → Nat} {K : rp_K} {C : px_P}
theorem ci_Bay (hR : Rp ad K C) {i0 a : Nat} (ha : ad i0 = a) (hk : K i0 = some (px_o 1 [.null, .null, .null, .int 0, .int 0, .int 0, .int 0])) (hn1 : K (i0 + 1) = none) (hn2 : K (i0 + 2) = none) (hn3 : K (i0 + 3) = none) : px_W ps_Y ps_P B sc (d + 1) 0 [.ref a] C 3 36 (fun v C' => v = none ∧ ∃ ad' K', Rp ad' K' C' ∧ K' i0 = some (px_o 1 [.ref (ad' (i0 + 1)), .ref (ad' (i0 + 2)), .ref (ad' (i0 + 3)), .int 0, .int 0, .int 0, .int 0]) ∧ K' (i0 + 1) = some (px_i 12 (fun _ => 0)) ∧ K' (i0 + 2) = some (px_i 12 (fun _ => 0)) ∧ K' (i0 + 3) = some (px_i 12 (fun _ => 0)) ∧ (∀ j, j < i0 ∨ i0 + 4 ≤ j → K' j = K j ∧ ad' j = ad j) ∧ ad' i0 = a) px_no := by
  refine ⟨pm_Bay_init, rfl, Nat.le_of_ble_eq_true rfl, fun X hw hX => ?_⟩
  iterate 2 refine px_go hX ?_
  refine ⟨Nat.le_of_ble_eq_true rfl, ?_⟩
  iterate 3 refine px_go hX ?_
  refine ⟨by decide +kernel, by decide +kernel, Nat.le_of_ble_eq_true rfl, Nat.le_of_ble_eq_true rfl, fun q1 hq1n hq1b => ?_⟩
  have r1 := hR.new (i := i0 + 1) (q := q1) hn1 hq1n (px_i 12 (fun _ => 0))
  have a1 := (va_up_ne _ q1 (show i0 ≠ i0 + 1 by omega)).trans ha
  refine px_go hX ?_
  refine ⟨_, r1.at2 a1 ((rp_up_n _ _ (by omega)).trans hk), Nat.le_of_ble_eq_true rfl, rfl, rfl, ?_⟩
  have R1 := r1.put2 a1 ((rp_up_n _ _ (by omega)).trans hk) (px_o 1 [.ref q1, .null, .null, .int 0, .int 0, .int 0, .int 0])
  iterate 3 refine px_go hX ?_
  refine ⟨by decide +kernel, by decide +kernel, Nat.le_of_ble_eq_true rfl, Nat.le_of_ble_eq_true rfl, fun q2 hq2n hq2b => ?_⟩
  have r2 := R1.new (i := i0 + 2) (q := q2) ((rp_up_n _ _ (by omega)).trans ((rp_up_n _ _ (by omega)).trans hn2)) hq2n (px_i 12 (fun _ => 0))
  have a2 := (va_up_ne _ q2 (show i0 ≠ i0 + 2 by omega)).trans a1
  refine px_go hX ?_
  refine ⟨_, r2.at2 a2 ((rp_up_n _ _ (by omega)).trans (rp_up_s _ _ _)), Nat.le_of_ble_eq_true rfl, rfl, rfl, ?_⟩
  have R2 := r2.put2 a2 ((rp_up_n _ _ (by omega)).trans (rp_up_s _ _ _)) (px_o 1 [.ref q1, .ref q2, .null, .int 0, .int 0, .int 0, .int 0])
  iterate 3 refine px_go hX ?_
  refine ⟨by decide +kernel, by decide +kernel, Nat.le_of_ble_eq_true rfl, Nat.le_of_ble_eq_true rfl, fun q3 hq3n hq3b => ?_⟩
  have r3 := R2.new (i := i0 + 3) (q := q3) ((rp_up_n _ _ (by omega)).trans ((rp_up_n _ _ (by omega)).trans ((rp_up_n _ _ (by omega)).trans ((rp_up_n _ _ (by omega)).trans hn3)))) hq3n (px_i 12 (fun _ => 0))
  have a3 := (va_up_ne _ q3 (show i0 ≠ i0 + 3 by omega)).trans a2
  refine px_go hX ?_
  refine ⟨_, r3.at2 a3 ((rp_up_n _ _ (by omega)).trans (rp_up_s _ _ _)), Nat.le_of_ble_eq_true rfl, rfl, rfl, ?_⟩
  have R3 := r3.put2 a3 ((rp_up_n _ _ (by omega)).trans (rp_up_s _ _ _)) (px_o 1 [.ref q1, .ref q2, .ref q3, .int 0, .int 0, .int 0, .int 0])
  iterate 3 refine px_go hX ?_
  refine ⟨_, R3.at2 a3 (rp_up_s _ _ _), Nat.le_of_ble_eq_true rfl, rfl, rfl, ?_⟩
  have R4 := R3.put2 a3 (rp_up_s _ _ _) (px_o 1 [.ref q1, .ref q2, .ref q3, .int 0, .int 0, .int 0, .int 0])
  iterate 3 refine px_go hX ?_
  refine ⟨_, R4.at2 a3 (rp_up_s _ _ _), Nat.le_of_ble_eq_true rfl, rfl, rfl, ?_⟩
  have R5 := R4.put2 a3 (rp_up_s _ _ _) (px_o 1 [.ref q1, .ref q2, .ref q3, .int 0, .int 0, .int 0, .int 0])
  iterate 3 refine px_go hX ?_
  refine ⟨_, R5.at2 a3 (rp_up_s _ _ _), Nat.le_of_ble_eq_true rfl, rfl, rfl, ?_⟩
  have R6 := R5.put2 a3 (rp_up_s _ _ _) (px_o 1 [.ref q1, .ref q2, .ref q3, .int 0, .int 0, .int 0, .int 0])
  iterate 3 refine px_go hX ?_
  refine ⟨_, R6.at2 a3 (rp_up_s _ _ _), Nat.le_of_ble_eq_true rfl, rfl, rfl, ?_⟩
  have R7 := R6.put2 a3 (rp_up_s _ _ _) (px_o 1 [.ref q1, .ref q2, .ref q3, .int 0, .int 0, .int 0, .int 0])
  refine px_go hX ?_
  have e1 : (va_up (va_up (va_up ad (i0 + 1) q1) (i0 + 2) q2) (i0 + 3) q3) (i0 + 1) = q1 := by rw [va_up_ne _ _ (by omega), va_up_ne _ _ (by omega), va_up_self]
  have e2 : (va_up (va_up (va_up ad (i0 + 1) q1) (i0 + 2) q2) (i0 + 3) q3) (i0 + 2) = q2 := by rw [va_up_ne _ _ (by omega), va_up_self]
  have e3 : (va_up (va_up (va_up ad (i0 + 1) q1) (i0 + 2) q2) (i0 + 3) q3) (i0 + 3) = q3 := va_up_self _ _ _
  refine ⟨rfl, _, _, R7, ?_, ?_, ?_, ?_, fun j hj => ⟨?_, ?_⟩, a3⟩
  · rw [e1, e2, e3]
    exact rp_up_s _ _ _
  · repeat (first | rw [rp_up_s] | rw [rp_up_n _ _ (by omega)])
  · repeat (first | rw [rp_up_s] | rw [rp_up_n _ _ (by omega)])
  · repeat (first | rw [rp_up_s] | rw [rp_up_n _ _ (by omega)])
  · repeat (rw [rp_up_n _ _ (by omega)])
  · rw [va_up_ne _ _ (by omega), va_up_ne _ _ (by omega), va_up_ne _ _ (by omega)]
theorem ci_Sea (hR : Rp ad K C) {a : Nat} {x : Int32} (ha : ad 3 = a) (hk : K 3 = some (px_o 3 [.int 0, .null, .null, .null, .null, .null, .null, .null, .null, .int 0, .int 0, .int 0, .int 0, .int 0])) (hn1 : K 4 = none) (hn2 : K 5 = none) (hn3 : K 6 = none) (hn4 : K 7 = none) (hn5 : K 8 = none) (hn6 : K 9 = none) (hn7 : K 10 = none) (hn8 : K 11 = none) : px_W ps_Y ps_P B sc (d + 1) 1 [.ref a, .int x] C 8 4758 (fun v C' => v = none ∧ ∃ ad' K', Rp ad' K' C' ∧ K' 3 = some (px_o 3 [.int x, .ref (ad' 4), .ref (ad' 5), .ref (ad' 6), .ref (ad' 7), .ref (ad' 8), .ref (ad' 9), .ref (ad' 10), .ref (ad' 11), .int 0, .int 0, .int 0, .int 0, .int (-1)]) ∧ K' 4 = some (px_i 4 (fun _ => 0)) ∧ K' 5 = some (px_i 4 (fun _ => 0)) ∧ K' 6 = some (px_i 3 (fun _ => 0)) ∧ K' 7 = some (px_i 3 (fun _ => 0)) ∧ K' 8 = some (px_i 1240 (fun _ => 0)) ∧ K' 9 = some (px_i 1240 (fun _ => 0)) ∧ K' 10 = some (px_i 1240 (fun _ => 0)) ∧ K' 11 = some (px_j 1024 (fun _ => 0)) ∧ (∀ j, j < 3 ∨ 12 ≤ j → K' j = K j ∧ ad' j = ad j) ∧ ad' 3 = a) px_no := by
  refine ⟨pm_Sea_init, rfl, Nat.le_of_ble_eq_true rfl, fun X hw hX => ?_⟩
  iterate 2 refine px_go hX ?_
  refine ⟨Nat.le_of_ble_eq_true rfl, ?_⟩
  iterate 3 refine px_go hX ?_
  refine ⟨by decide +kernel, by decide +kernel, Nat.le_of_ble_eq_true rfl, Nat.le_of_ble_eq_true rfl, fun q1 hq1n hq1b => ?_⟩
  have r1 := hR.new (i := 4) (q := q1) hn1 hq1n (px_i 4 (fun _ => 0))
  have a1 := (va_up_ne _ q1 (show 3 ≠ 4 by omega)).trans ha
  refine px_go hX ?_
  refine ⟨_, r1.at2 a1 ((rp_up_n _ _ (by omega)).trans hk), Nat.le_of_ble_eq_true rfl, rfl, rfl, ?_⟩
  have R1 := r1.put2 a1 ((rp_up_n _ _ (by omega)).trans hk) (px_o 3 [.int 0, .ref q1, .null, .null, .null, .null, .null, .null, .null, .int 0, .int 0, .int 0, .int 0, .int 0])
  iterate 3 refine px_go hX ?_
  refine ⟨by decide +kernel, by decide +kernel, Nat.le_of_ble_eq_true rfl, Nat.le_of_ble_eq_true rfl, fun q2 hq2n hq2b => ?_⟩
  have r2 := R1.new (i := 5) (q := q2) ((rp_up_n _ _ (by omega)).trans ((rp_up_n _ _ (by omega)).trans hn2)) hq2n (px_i 4 (fun _ => 0))
  have a2 := (va_up_ne _ q2 (show 3 ≠ 5 by omega)).trans a1
  refine px_go hX ?_
  refine ⟨_, r2.at2 a2 ((rp_up_n _ _ (by omega)).trans (rp_up_s _ _ _)), Nat.le_of_ble_eq_true rfl, rfl, rfl, ?_⟩
  have R2 := r2.put2 a2 ((rp_up_n _ _ (by omega)).trans (rp_up_s _ _ _)) (px_o 3 [.int 0, .ref q1, .ref q2, .null, .null, .null, .null, .null, .null, .int 0, .int 0, .int 0, .int 0, .int 0])
  iterate 3 refine px_go hX ?_
  refine ⟨by decide +kernel, by decide +kernel, Nat.le_of_ble_eq_true rfl, Nat.le_of_ble_eq_true rfl, fun q3 hq3n hq3b => ?_⟩
  have r3 := R2.new (i := 6) (q := q3) ((rp_up_n _ _ (by omega)).trans ((rp_up_n _ _ (by omega)).trans ((rp_up_n _ _ (by omega)).trans ((rp_up_n _ _ (by omega)).trans hn3)))) hq3n (px_i 3 (fun _ => 0))
  have a3 := (va_up_ne _ q3 (show 3 ≠ 6 by omega)).trans a2
  refine px_go hX ?_
  refine ⟨_, r3.at2 a3 ((rp_up_n _ _ (by omega)).trans (rp_up_s _ _ _)), Nat.le_of_ble_eq_true rfl, rfl, rfl, ?_⟩
  have R3 := r3.put2 a3 ((rp_up_n _ _ (by omega)).trans (rp_up_s _ _ _)) (px_o 3 [.int 0, .ref q1, .ref q2, .ref q3, .null, .null, .null, .null, .null, .int 0, .int 0, .int 0, .int 0, .int 0])
  iterate 3 refine px_go hX ?_
  refine ⟨by decide +kernel, by decide +kernel, Nat.le_of_ble_eq_true rfl, Nat.le_of_ble_eq_true rfl, fun q4 hq4n hq4b => ?_⟩
  have r4 := R3.new (i := 7) (q := q4) ((rp_up_n _ _ (by omega)).trans ((rp_up_n _ _ (by omega)).trans ((rp_up_n _ _ (by omega)).trans ((rp_up_n _ _ (by omega)).trans ((rp_up_n _ _ (by omega)).trans ((rp_up_n _ _ (by omega)).trans hn4)))))) hq4n (px_i 3 (fun _ => 0))
  have a4 := (va_up_ne _ q4 (show 3 ≠ 7 by omega)).trans a3
  refine px_go hX ?_
  refine ⟨_, r4.at2 a4 ((rp_up_n _ _ (by omega)).trans (rp_up_s _ _ _)), Nat.le_of_ble_eq_true rfl, rfl, rfl, ?_⟩
  have R4 := r4.put2 a4 ((rp_up_n _ _ (by omega)).trans (rp_up_s _ _ _)) (px_o 3 [.int 0, .ref q1, .ref q2, .ref q3, .ref q4, .null, .null, .null, .null, .int 0, .int 0, .int 0, .int 0, .int 0])
  iterate 3 refine px_go hX ?_
  refine ⟨by decide +kernel, by decide +kernel, Nat.le_of_ble_eq_true rfl, Nat.le_of_ble_eq_true rfl, fun q5 hq5n hq5b => ?_⟩
  have r5 := R4.new (i := 8) (q := q5) ((rp_up_n _ _ (by omega)).trans ((rp_up_n _ _ (by omega)).trans ((rp_up_n _ _ (by omega)).trans ((rp_up_n _ _ (by omega)).trans ((rp_up_n _ _ (by omega)).trans ((rp_up_n _ _ (by omega)).trans ((rp_up_n _ _ (by omega)).trans ((rp_up_n _ _ (by omega)).trans hn5)))))))) hq5n (px_i 1240 (fun _ => 0))
  have a5 := (va_up_ne _ q5 (show 3 ≠ 8 by omega)).trans a4
  refine px_go hX ?_
  refine ⟨_, r5.at2 a5 ((rp_up_n _ _ (by omega)).trans (rp_up_s _ _ _)), Nat.le_of_ble_eq_true rfl, rfl, rfl, ?_⟩
  have R5 := r5.put2 a5 ((rp_up_n _ _ (by omega)).trans (rp_up_s _ _ _)) (px_o 3 [.int 0, .ref q1, .ref q2, .ref q3, .ref q4, .ref q5, .null, .null, .null, .int 0, .int 0, .int 0, .int 0, .int 0])
  iterate 3 refine px_go hX ?_
  refine ⟨by decide +kernel, by decide +kernel, Nat.le_of_ble_eq_true rfl, Nat.le_of_ble_eq_true rfl, fun q6 hq6n hq6b => ?_⟩
  have r6 := R5.new (i := 9) (q := q6) ((rp_up_n _ _ (by omega)).trans ((rp_up_n _ _ (by omega)).trans ((rp_up_n _ _ (by omega)).trans ((rp_up_n _ _ (by omega)).trans ((rp_up_n _ _ (by omega)).trans ((rp_up_n _ _ (by omega)).trans ((rp_up_n _ _ (by omega)).trans ((rp_up_n _ _ (by omega)).trans ((rp_up_n _ _ (by omega)).trans ((rp_up_n _ _ (by omega)).trans hn6)))))))))) hq6n (px_i 1240 (fun _ => 0))
  have a6 := (va_up_ne _ q6 (show 3 ≠ 9 by omega)).trans a5
  refine px_go hX ?_
  refine ⟨_, r6.at2 a6 ((rp_up_n _ _ (by omega)).trans (rp_up_s _ _ _)), Nat.le_of_ble_eq_true rfl, rfl, rfl, ?_⟩
  have R6 := r6.put2 a6 ((rp_up_n _ _ (by omega)).trans (rp_up_s _ _ _)) (px_o 3 [.int 0, .ref q1, .ref q2, .ref q3, .ref q4, .ref q5, .ref q6, .null, .null, .int 0, .int 0, .int 0, .int 0, .int 0])
  iterate 3 refine px_go hX ?_
  refine ⟨by decide +kernel, by decide +kernel, Nat.le_of_ble_eq_true rfl, Nat.le_of_ble_eq_true rfl, fun q7 hq7n hq7b => ?_⟩
  have r7 := R6.new (i := 10) (q := q7) ((rp_up_n _ _ (by omega)).trans ((rp_up_n _ _ (by omega)).trans ((rp_up_n _ _ (by omega)).trans ((rp_up_n _ _ (by omega)).trans ((rp_up_n _ _ (by omega)).trans ((rp_up_n _ _ (by omega)).trans ((rp_up_n _ _ (by omega)).trans ((rp_up_n _ _ (by omega)).trans ((rp_up_n _ _ (by omega)).trans ((rp_up_n _ _ (by omega)).trans ((rp_up_n _ _ (by omega)).trans ((rp_up_n _ _ (by omega)).trans hn7)))))))))))) hq7n (px_i 1240 (fun _ => 0))
  have a7 := (va_up_ne _ q7 (show 3 ≠ 10 by omega)).trans a6
  refine px_go hX ?_
  refine ⟨_, r7.at2 a7 ((rp_up_n _ _ (by omega)).trans (rp_up_s _ _ _)), Nat.le_of_ble_eq_true rfl, rfl, rfl, ?_⟩
  have R7 := r7.put2 a7 ((rp_up_n _ _ (by omega)).trans (rp_up_s _ _ _)) (px_o 3 [.int 0, .ref q1, .ref q2, .ref q3, .ref q4, .ref q5, .ref q6, .ref q7, .null, .int 0, .int 0, .int 0, .int 0, .int 0])
  iterate 3 refine px_go hX ?_
  refine ⟨by decide +kernel, by decide +kernel, Nat.le_of_ble_eq_true rfl, Nat.le_of_ble_eq_true rfl, fun q8 hq8n hq8b => ?_⟩
  have r8 := R7.new (i := 11) (q := q8) ((rp_up_n _ _ (by omega)).trans ((rp_up_n _ _ (by omega)).trans ((rp_up_n _ _ (by omega)).trans ((rp_up_n _ _ (by omega)).trans ((rp_up_n _ _ (by omega)).trans ((rp_up_n _ _ (by omega)).trans ((rp_up_n _ _ (by omega)).trans ((rp_up_n _ _ (by omega)).trans ((rp_up_n _ _ (by omega)).trans ((rp_up_n _ _ (by omega)).trans ((rp_up_n _ _ (by omega)).trans ((rp_up_n _ _ (by omega)).trans ((rp_up_n _ _ (by omega)).trans ((rp_up_n _ _ (by omega)).trans hn8)))))))))))))) hq8n (px_j 1024 (fun _ => 0))
  have a8 := (va_up_ne _ q8 (show 3 ≠ 11 by omega)).trans a7
  refine px_go hX ?_
  refine ⟨_, r8.at2 a8 ((rp_up_n _ _ (by omega)).trans (rp_up_s _ _ _)), Nat.le_of_ble_eq_true rfl, rfl, rfl, ?_⟩
  have R8 := r8.put2 a8 ((rp_up_n _ _ (by omega)).trans (rp_up_s _ _ _)) (px_o 3 [.int 0, .ref q1, .ref q2, .ref q3, .ref q4, .ref q5, .ref q6, .ref q7, .ref q8, .int 0, .int 0, .int 0, .int 0, .int 0])
  iterate 3 refine px_go hX ?_
  refine ⟨_, R8.at2 a8 (rp_up_s _ _ _), Nat.le_of_ble_eq_true rfl, rfl, rfl, ?_⟩
  have R9 := R8.put2 a8 (rp_up_s _ _ _) (px_o 3 [.int 0, .ref q1, .ref q2, .ref q3, .ref q4, .ref q5, .ref q6, .ref q7, .ref q8, .int 0, .int 0, .int 0, .int 0, .int 0])
  iterate 3 refine px_go hX ?_
  refine ⟨_, R9.at2 a8 (rp_up_s _ _ _), Nat.le_of_ble_eq_true rfl, rfl, rfl, ?_⟩
  have R10 := R9.put2 a8 (rp_up_s _ _ _) (px_o 3 [.int 0, .ref q1, .ref q2, .ref q3, .ref q4, .ref q5, .ref q6, .ref q7, .ref q8, .int 0, .int 0, .int 0, .int 0, .int 0])
  iterate 3 refine px_go hX ?_
  refine ⟨_, R10.at2 a8 (rp_up_s _ _ _), Nat.le_of_ble_eq_true rfl, rfl, rfl, ?_⟩
  have R11 := R10.put2 a8 (rp_up_s _ _ _) (px_o 3 [.int 0, .ref q1, .ref q2, .ref q3, .ref q4, .ref q5, .ref q6, .ref q7, .ref q8, .int 0, .int 0, .int 0, .int 0, .int 0])
  iterate 3 refine px_go hX ?_
  refine ⟨_, R11.at2 a8 (rp_up_s _ _ _), Nat.le_of_ble_eq_true rfl, rfl, rfl, ?_⟩
  have R12 := R11.put2 a8 (rp_up_s _ _ _) (px_o 3 [.int 0, .ref q1, .ref q2, .ref q3, .ref q4, .ref q5, .ref q6, .ref q7, .ref q8, .int 0, .int 0, .int 0, .int 0, .int 0])
  iterate 3 refine px_go hX ?_
  refine ⟨_, R12.at2 a8 (rp_up_s _ _ _), Nat.le_of_ble_eq_true rfl, rfl, rfl, ?_⟩
  have R13 := R12.put2 a8 (rp_up_s _ _ _) (px_o 3 [.int 0, .ref q1, .ref q2, .ref q3, .ref q4, .ref q5, .ref q6, .ref q7, .ref q8, .int 0, .int 0, .int 0, .int 0, .int (-1)])
  iterate 3 refine px_go hX ?_
  refine ⟨_, R13.at2 a8 (rp_up_s _ _ _), Nat.le_of_ble_eq_true rfl, rfl, rfl, ?_⟩
  have R14 := R13.put2 a8 (rp_up_s _ _ _) (px_o 3 [.int x, .ref q1, .ref q2, .ref q3, .ref q4, .ref q5, .ref q6, .ref q7, .ref q8, .int 0, .int 0, .int 0, .int 0, .int (-1)])
  refine px_go hX ?_
  have e4 : (va_up (va_up (va_up (va_up (va_up (va_up (va_up (va_up (ad) 4 q1) 5 q2) 6 q3) 7 q4) 8 q5) 9 q6) 10 q7) 11 q8) 4 = q1 := by
    rw [va_up_ne _ _ (by omega), va_up_ne _ _ (by omega), va_up_ne _ _ (by omega), va_up_ne _ _ (by omega), va_up_ne _ _ (by omega), va_up_ne _ _ (by omega), va_up_ne _ _ (by omega)]; rw [va_up_self]
  have e5 : (va_up (va_up (va_up (va_up (va_up (va_up (va_up (va_up (ad) 4 q1) 5 q2) 6 q3) 7 q4) 8 q5) 9 q6) 10 q7) 11 q8) 5 = q2 := by
    rw [va_up_ne _ _ (by omega), va_up_ne _ _ (by omega), va_up_ne _ _ (by omega), va_up_ne _ _ (by omega), va_up_ne _ _ (by omega), va_up_ne _ _ (by omega)]; rw [va_up_self]
  have e6 : (va_up (va_up (va_up (va_up (va_up (va_up (va_up (va_up (ad) 4 q1) 5 q2) 6 q3) 7 q4) 8 q5) 9 q6) 10 q7) 11 q8) 6 = q3 := by
    rw [va_up_ne _ _ (by omega), va_up_ne _ _ (by omega), va_up_ne _ _ (by omega), va_up_ne _ _ (by omega), va_up_ne _ _ (by omega)]; rw [va_up_self]
  have e7 : (va_up (va_up (va_up (va_up (va_up (va_up (va_up (va_up (ad) 4 q1) 5 q2) 6 q3) 7 q4) 8 q5) 9 q6) 10 q7) 11 q8) 7 = q4 := by
    rw [va_up_ne _ _ (by omega), va_up_ne _ _ (by omega), va_up_ne _ _ (by omega), va_up_ne _ _ (by omega)]; rw [va_up_self]
  have e8 : (va_up (va_up (va_up (va_up (va_up (va_up (va_up (va_up (ad) 4 q1) 5 q2) 6 q3) 7 q4) 8 q5) 9 q6) 10 q7) 11 q8) 8 = q5 := by
    rw [va_up_ne _ _ (by omega), va_up_ne _ _ (by omega), va_up_ne _ _ (by omega)]; rw [va_up_self]
  have e9 : (va_up (va_up (va_up (va_up (va_up (va_up (va_up (va_up (ad) 4 q1) 5 q2) 6 q3) 7 q4) 8 q5) 9 q6) 10 q7) 11 q8) 9 = q6 := by
    rw [va_up_ne _ _ (by omega), va_up_ne _ _ (by omega)]; rw [va_up_self]
  have e10 : (va_up (va_up (va_up (va_up (va_up (va_up (va_up (va_up (ad) 4 q1) 5 q2) 6 q3) 7 q4) 8 q5) 9 q6) 10 q7) 11 q8) 10 = q7 := by
    rw [va_up_ne _ _ (by omega)]; rw [va_up_self]
  have e11 : (va_up (va_up (va_up (va_up (va_up (va_up (va_up (va_up (ad) 4 q1) 5 q2) 6 q3) 7 q4) 8 q5) 9 q6) 10 q7) 11 q8) 11 = q8 := by
    rw [va_up_self]
  refine ⟨rfl, _, _, R14, ?_, ?_, ?_, ?_, ?_, ?_, ?_, ?_, ?_, fun j hj => ⟨?_, ?_⟩, a8⟩
  · rw [e4, e5, e6, e7, e8, e9, e10, e11]
    exact rp_up_s _ _ _
  · repeat (first | rw [rp_up_s] | rw [rp_up_n _ _ (by omega)])
  · repeat (first | rw [rp_up_s] | rw [rp_up_n _ _ (by omega)])
  · repeat (first | rw [rp_up_s] | rw [rp_up_n _ _ (by omega)])
  · repeat (first | rw [rp_up_s] | rw [rp_up_n _ _ (by omega)])
  · repeat (first | rw [rp_up_s] | rw [rp_up_n _ _ (by omega)])
  · repeat (first | rw [rp_up_s] | rw [rp_up_n _ _ (by omega)])
  · repeat (first | rw [rp_up_s] | rw [rp_up_n _ _ (by omega)])
  · repeat (first | rw [rp_up_s] | rw [rp_up_n _ _ (by omega)])
  · repeat (rw [rp_up_n _ _ (by omega)])
  · rw [va_up_ne _ _ (by omega), va_up_ne _ _ (by omega), va_up_ne _ _ (by omega), va_up_ne _ _ (by omega), va_up_ne _ _ (by omega), va_up_ne _ _ (by omega), va_up_ne _ _ (by omega), va_up_ne _ _ (by omega)]
end UA
