/-! The class's calls that change its state: before, box. -/
section RJ
variable {B : Nat} {sc : Option (Nat × Nat × (Nat → Int32))} {d : Nat} {ad : Nat → Nat} {σ : ck_S} {K : rp_K} {C : px_P}
def cs_nd (σ : ck_S) (k : Nat) (x : Int32) : ck_S := cs_sB σ k (fun q => match q with | 0 => cs_bf σ k 0 | 1 => cs_bf σ k 1 | 2 => cs_bf σ k 2 | 3 => cs_bf σ k 3 | _ => cs_bf σ k 4 ||| (1 <<< (x &&& 31)))
def of_before (σ : ck_S) (x y : Int32) : cs_R := match cs_xq σ x, cs_xq σ y with
  | some j, some k => if ¬ cs_bf σ j 1 = cs_bf σ k 1 ∨ ¬ (cs_bf σ j 0 = 0 ∧ ¬ cs_bf σ j 2 = 3) ∨ ¬ (cs_bf σ k 0 = 0 ∧ ¬ cs_bf σ k 2 = 3) ∨ x = y ∨ ¬ ((cs_bf σ k 4 >>> (x &&& 31)) &&& 1) = 0 ∨ ¬ ((cs_kn σ (cs_bf σ j 4) 16 >>> (y &&& 31)) &&& 1) = 0 then (0, 0, σ) else (0, 1, cs_fp (cs_nd σ k x) (cs_bf σ j 1).toNatClampNeg)
  | _, _ => (0, 0, σ)
theorem cc_before (hR : Rp ad K C) (hc : Cl ad σ K) (hB : cs_inb σ) (x y : Int32) : px_W ps_Y ps_P B sc (d + 3) 10 [.ref (ad 0), .int x, .int y] C 0 0 (px_oC ad K (of_before σ x y)) px_no := by
  have h0 := hR.1 0 _ hc.1.1
  have hn := hc.2.2.2.2.2.2.2.2.2
  have hnb := hc.2.2.2.2.2.2.1
  refine ⟨pm_Mo_before, rfl, Nat.le_of_ble_eq_true rfl, fun X hw hX => ?_⟩
  iterate 3 refine px_go hX ?_
  refine ⟨_, h0, 0, 0, _, Nat.le_of_ble_eq_true rfl, Nat.le_of_ble_eq_true rfl, Nat.le_of_ble_eq_true rfl, cc_boxAt hR hc _, ?_⟩
  rintro _ C ⟨rfl, ⟨j, hj, hx, rfl⟩ | ⟨hx, rfl⟩⟩
  · iterate 4 refine px_go hX ?_
    refine ⟨_, h0, 0, 0, _, Nat.le_of_ble_eq_true rfl, Nat.le_of_ble_eq_true rfl, Nat.le_of_ble_eq_true rfl, cc_boxAt hR hc _, ?_⟩
    rintro _ C ⟨rfl, ⟨k, hk, hy, rfl⟩ | ⟨hy, rfl⟩⟩
    · iterate 7 refine px_go hX ?_
      refine ⟨_, _, (hR.1 _ _ (hc.2.2.2.1 j hj)), rfl, ?_⟩
      iterate 2 refine px_go hX ?_
      refine ⟨_, _, (hR.1 _ _ (hc.2.2.2.1 k hk)), rfl, ?_⟩
      refine px_go hX ?_
      refine ⟨fun (c1 : cs_bf σ j 1 = cs_bf σ k 1) => ?_, fun (c1 : ¬ cs_bf σ j 1 = cs_bf σ k 1) => ?_⟩
      · iterate 2 refine px_go hX ?_
        refine ⟨_, (hR.1 _ _ (hc.2.2.2.1 j hj)), 0, 0, _, Nat.le_of_ble_eq_true rfl, Nat.le_of_ble_eq_true rfl, Nat.le_of_ble_eq_true rfl, cc_isToLeave hR hc hj, ?_⟩
        rintro _ C ⟨rfl, ⟨b2, rfl⟩ | ⟨b2, rfl⟩⟩
        · refine px_go hX ?_
          refine ⟨fun (c3 : 1 = 0) => absurd c3 (by decide), fun (c3 : ¬ 1 = 0) => ?_⟩
          iterate 2 refine px_go hX ?_
          refine ⟨_, (hR.1 _ _ (hc.2.2.2.1 k hk)), 0, 0, _, Nat.le_of_ble_eq_true rfl, Nat.le_of_ble_eq_true rfl, Nat.le_of_ble_eq_true rfl, cc_isToLeave hR hc hk, ?_⟩
          rintro _ C ⟨rfl, ⟨b4, rfl⟩ | ⟨b4, rfl⟩⟩
          · refine px_go hX ?_
            refine ⟨fun (c5 : ¬ 1 = 0) => ?_, fun (c5 : 1 = 0) => absurd c5 (by decide)⟩
            iterate 3 refine px_go hX ?_
            refine ⟨fun (c6 : x = y) => ?_, fun (c6 : ¬ x = y) => ?_⟩
            · iterate 2 refine px_go hX ?_
              have hr : of_before σ x y = (0, 0, σ) := by
                have h3 : cs_xq σ x = some j := by rw [hx]; exact cs_xq_s hc hj
                have h4 : cs_xq σ y = some k := by rw [hy]; exact cs_xq_s hc hk
                unfold of_before
                rw [h3, h4]
                exact if_pos (Or.inr (Or.inr (Or.inr (Or.inl c6))))
              rw [hr]
              exact ⟨Or.inl rfl, rfl, rfl, Ca.of hR hc⟩
            · iterate 3 refine px_go hX ?_
              refine ⟨_, (hR.1 _ _ (hc.2.2.2.1 k hk)), 0, 0, _, Nat.le_of_ble_eq_true rfl, Nat.le_of_ble_eq_true rfl, Nat.le_of_ble_eq_true rfl, cc_follows hR hc hk _, ?_⟩
              rintro _ C ⟨rfl, ⟨b7, rfl⟩ | ⟨b7, rfl⟩⟩
              · refine px_go hX ?_
                refine ⟨fun (c8 : ¬ 1 = 0) => ?_, fun (c8 : 1 = 0) => absurd c8 (by decide)⟩
                iterate 2 refine px_go hX ?_
                have hr : of_before σ x y = (0, 0, σ) := by
                  have h3 : cs_xq σ x = some j := by rw [hx]; exact cs_xq_s hc hj
                  have h4 : cs_xq σ y = some k := by rw [hy]; exact cs_xq_s hc hk
                  unfold of_before
                  rw [h3, h4]
                  exact if_pos (Or.inr (Or.inr (Or.inr (Or.inr (Or.inl b7)))))
                rw [hr]
                exact ⟨Or.inl rfl, rfl, rfl, Ca.of hR hc⟩
              · refine px_go hX ?_
                refine ⟨fun (c9 : ¬ 0 = 0) => absurd rfl c9, fun (c9 : 0 = 0) => ?_⟩
                iterate 4 refine px_go hX ?_
                refine ⟨_, h0, 0, 0, _, Nat.le_of_ble_eq_true rfl, Nat.le_of_ble_eq_true rfl, Nat.le_of_ble_eq_true rfl, cc_comesBefore hR hc hj _, ?_⟩
                rintro _ C ⟨rfl, ⟨b10, rfl⟩ | ⟨b10, rfl⟩⟩
                · refine px_go hX ?_
                  refine ⟨fun (c11 : 1 = 0) => absurd c11 (by decide), fun (c11 : ¬ 1 = 0) => ?_⟩
                  iterate 2 refine px_go hX ?_
                  have hr : of_before σ x y = (0, 0, σ) := by
                    have h3 : cs_xq σ x = some j := by rw [hx]; exact cs_xq_s hc hj
                    have h4 : cs_xq σ y = some k := by rw [hy]; exact cs_xq_s hc hk
                    unfold of_before
                    rw [h3, h4]
                    exact if_pos (Or.inr (Or.inr (Or.inr (Or.inr (Or.inr b10)))))
                  rw [hr]
                  exact ⟨Or.inl rfl, rfl, rfl, Ca.of hR hc⟩
                · refine px_go hX ?_
                  refine ⟨fun (c12 : 0 = 0) => ?_, fun (c12 : ¬ 0 = 0) => absurd rfl c12⟩
                  have hjk : j ≠ k := fun w => c6 (by rw [hx, hy, w])
                  obtain ⟨bj, hbj1, hbj⟩ := hB j hj
                  iterate 3 refine px_go hX ?_
                  refine ⟨_, _, (hR.1 _ _ (hc.2.2.2.1 k hk)), rfl, ?_⟩
                  iterate 5 refine px_go hX ?_
                  refine ⟨_, (hR.1 _ _ (hc.2.2.2.1 k hk)), Nat.le_of_ble_eq_true rfl, rfl, rfl, ?_⟩
                  have hR1 := (hR.put (i := 40 + k) (hc.2.2.2.1 k hk) (px_o 2 [.int (cs_bf σ k 0), .int (cs_bf σ k 1), .int (cs_bf σ k 2), .int (cs_bf σ k 3), .int ((cs_bf σ k 4) ||| (((1 : Int32)) <<< ((x) &&& 31)))]))
                  have hc1 : Cl ad (cs_nd σ k x) (rp_up (K) (40 + k) (px_o 2 [.int (cs_bf σ k 0), .int (cs_bf σ k 1), .int (cs_bf σ k 2), .int (cs_bf σ k 3), .int ((cs_bf σ k 4) ||| (((1 : Int32)) <<< ((x) &&& 31)))])) := by
                    exact hc.sB hk _
                  have hK1 : ∀ i, 100 ≤ i → (rp_up (K) (40 + k) (px_o 2 [.int (cs_bf σ k 0), .int (cs_bf σ k 1), .int (cs_bf σ k 2), .int (cs_bf σ k 3), .int ((cs_bf σ k 4) ||| (((1 : Int32)) <<< ((x) &&& 31)))])) i = (K) i := fun i hi => by rw [rp_up_n _ _ (by omega)]
                  iterate 3 refine px_go hX ?_
                  refine ⟨_, _, ((px_up_n _ _ (hR.ne (hc.2.2.2.1 j hj) (hc.2.2.2.1 k hk) (by omega))).trans (hR.1 _ _ (hc.2.2.2.1 j hj))), rfl, ?_⟩
                  refine px_go hX ?_
                  refine ⟨_, ((px_up_n _ _ (hR.ne hc.1.1 (hc.2.2.2.1 k hk) (by omega))).trans h0), 0, 0, _, Nat.le_of_ble_eq_true rfl, Nat.le_of_ble_eq_true rfl, Nat.le_of_ble_eq_true rfl, (by rw [show cs_bf σ j 1 = nI bj from hbj]; exact cc_forgetPlanOf hR1 hc1 hbj1), ?_⟩
                  rintro _ C ⟨rfl, K2, hR2, hc2, hK2⟩
                  iterate 2 refine px_go hX ?_
                  have hr : of_before σ x y = (0, 1, cs_fp (cs_nd σ k x) bj) := by
                    have h3 : cs_xq σ x = some j := by rw [hx]; exact cs_xq_s hc hj
                    have h4 : cs_xq σ y = some k := by rw [hy]; exact cs_xq_s hc hk
                    unfold of_before
                    rw [h3, h4]
                    refine (if_neg ?_).trans ?_
                    · rintro (q | q | q | q | q | q)
                      · exact q c1
                      · exact q b2
                      · exact q b4
                      · exact c6 q
                      · exact b7 q
                      · exact b10 q
                    · rw [hbj, nI_clamp (by omega)]
                  rw [hr]
                  exact ⟨Or.inr rfl, rfl, rfl, Ck.ca ⟨K2, hR2, hc2, fun i hi => by rw [hK2 i hi, hK1 i hi]⟩⟩
          · refine px_go hX ?_
            refine ⟨fun (c13 : ¬ 0 = 0) => absurd rfl c13, fun (c13 : 0 = 0) => ?_⟩
            iterate 2 refine px_go hX ?_
            have hr : of_before σ x y = (0, 0, σ) := by
              have h3 : cs_xq σ x = some j := by rw [hx]; exact cs_xq_s hc hj
              have h4 : cs_xq σ y = some k := by rw [hy]; exact cs_xq_s hc hk
              unfold of_before
              rw [h3, h4]
              exact if_pos (Or.inr (Or.inr (Or.inl b4)))
            rw [hr]
            exact ⟨Or.inl rfl, rfl, rfl, Ca.of hR hc⟩
        · refine px_go hX ?_
          refine ⟨fun (c14 : 0 = 0) => ?_, fun (c14 : ¬ 0 = 0) => absurd rfl c14⟩
          iterate 2 refine px_go hX ?_
          have hr : of_before σ x y = (0, 0, σ) := by
            have h3 : cs_xq σ x = some j := by rw [hx]; exact cs_xq_s hc hj
            have h4 : cs_xq σ y = some k := by rw [hy]; exact cs_xq_s hc hk
            unfold of_before
            rw [h3, h4]
            exact if_pos (Or.inr (Or.inl b2))
          rw [hr]
          exact ⟨Or.inl rfl, rfl, rfl, Ca.of hR hc⟩
      · iterate 2 refine px_go hX ?_
        have hr : of_before σ x y = (0, 0, σ) := by
          have h3 : cs_xq σ x = some j := by rw [hx]; exact cs_xq_s hc hj
          have h4 : cs_xq σ y = some k := by rw [hy]; exact cs_xq_s hc hk
          unfold of_before
          rw [h3, h4]
          exact if_pos (Or.inl c1)
        rw [hr]
        exact ⟨Or.inl rfl, rfl, rfl, Ca.of hR hc⟩
    · iterate 7 refine px_go hX ?_
      have hr : of_before σ x y = (0, 0, σ) := by
        unfold of_before
        rw [hx, cs_xq_s hc hj, cs_xq_n hy]
      rw [hr]
      exact ⟨Or.inl rfl, rfl, rfl, Ca.of hR hc⟩
  · iterate 4 refine px_go hX ?_
    refine ⟨_, h0, 0, 0, _, Nat.le_of_ble_eq_true rfl, Nat.le_of_ble_eq_true rfl, Nat.le_of_ble_eq_true rfl, cc_boxAt hR hc _, ?_⟩
    rintro _ C ⟨rfl, ⟨k, hk, hy, rfl⟩ | ⟨hy, rfl⟩⟩
    · iterate 5 refine px_go hX ?_
      have hr : of_before σ x y = (0, 0, σ) := by
        unfold of_before
        rw [cs_xq_n hx]
      rw [hr]
      exact ⟨Or.inl rfl, rfl, rfl, Ca.of hR hc⟩
    · iterate 5 refine px_go hX ?_
      have hr : of_before σ x y = (0, 0, σ) := by
        unfold of_before
        rw [cs_xq_n hx]
      rw [hr]
      exact ⟨Or.inl rfl, rfl, rfl, Ca.of hR hc⟩
theorem px_up_up (C : px_P) (a : Nat) (e1 e2 : px_E) : px_up (px_up C a e1) a e2 = px_up C a e2 := by
  funext j
  unfold px_up
  by_cases h : j = a
  · rw [if_pos h, if_pos h]
  · rw [if_neg h, if_neg h, if_neg h]
theorem px_nq {C : px_P} {a q : Nat} {e : px_E} (h : C a = some e) (hq : C q = none) : a ≠ q := fun w => by rw [w, hq] at h; cases h
theorem cc_Box_init {q : Nat} {v0 v1 v2 v3 v4 : Int32} (hq : C q = some (px_o 2 [.int v0, .int v1, .int v2, .int v3, .int v4])) (x y z t : Int32) : px_W ps_Y ps_P B sc (d + 2) 14 [.ref q, .int x, .int y, .int z, .int t] C 0 0 (fun v C' => v = none ∧ C' = px_up C q (px_o 2 [.int x, .int y, .int z, .int t, .int 0])) px_no := by
  refine ⟨pm_Box_init, rfl, Nat.le_of_ble_eq_true rfl, fun X hw hX => ?_⟩
  iterate 2 refine px_go hX ?_
  refine ⟨Nat.le_of_ble_eq_true rfl, ?_⟩
  iterate 3 refine px_go hX ?_
  refine ⟨_, hq, Nat.le_of_ble_eq_true rfl, rfl, rfl, ?_⟩
  iterate 3 refine px_go hX ?_
  refine ⟨_, (px_up_s _ _ _), Nat.le_of_ble_eq_true rfl, rfl, rfl, ?_⟩
  iterate 3 refine px_go hX ?_
  refine ⟨_, (px_up_s _ _ _), Nat.le_of_ble_eq_true rfl, rfl, rfl, ?_⟩
  iterate 3 refine px_go hX ?_
  refine ⟨_, (px_up_s _ _ _), Nat.le_of_ble_eq_true rfl, rfl, rfl, ?_⟩
  iterate 3 refine px_go hX ?_
  refine ⟨_, (px_up_s _ _ _), Nat.le_of_ble_eq_true rfl, rfl, rfl, ?_⟩
  refine px_go hX ?_
  exact ⟨rfl, by rw [px_up_up, px_up_up, px_up_up, px_up_up]; rfl⟩
def cs_nw (σ : ck_S) (f : Nat → Int32) : ck_S := ((cs_nb σ, cs_ti σ, cs_n σ + 1), σ.2.1, va_up (cs_bf σ) (cs_n σ) f, σ.2.2.2)
theorem Cl.new (h : Cl ad σ K) (hn : cs_n σ < 16) (f : Nat → Int32) (q : Nat) : Cl (va_up ad (40 + cs_n σ) q) (cs_nw σ f) (rp_up (rp_up (rp_up K (40 + cs_n σ) (px_o 2 [.int (f 0), .int (f 1), .int (f 2), .int (f 3), .int (f 4)])) 2 (px_r 4 16 (va_up (fun j => if j < cs_n σ then some (ad (40 + j)) else none) (cs_n σ) (some q)))) 0 (px_o 0 [.int (nI (cs_ti σ)), .ref (ad 1), .ref (ad 2), .ref (ad 3), .int (nI (cs_n σ + 1)), .int (cs_mw σ), .int (cs_lg σ)])) := by
  obtain ⟨⟨a0, a1, a2, a3⟩, ⟨b4, b5, b6, b7, b8, b9, b10, b11⟩, hy, hx, hz, q1, q2, q3, q4, q5⟩ := h
  have hne : ∀ i, i < 40 → va_up ad (40 + cs_n σ) q i = ad i := fun i hi => va_up_ne _ _ (by omega)
  have up : ∀ i e, i ≠ 0 → i ≠ 2 → i < 40 → K i = some e → rp_up (rp_up (rp_up K (40 + cs_n σ) (px_o 2 [.int (f 0), .int (f 1), .int (f 2), .int (f 3), .int (f 4)])) 2 (px_r 4 16 (va_up (fun j => if j < cs_n σ then some (ad (40 + j)) else none) (cs_n σ) (some q)))) 0 (px_o 0 [.int (nI (cs_ti σ)), .ref (ad 1), .ref (ad 2), .ref (ad 3), .int (nI (cs_n σ + 1)), .int (cs_mw σ), .int (cs_lg σ)]) i = some e := fun i e h0 h2 h4 h => by
    rw [rp_up_n _ _ h0, rp_up_n _ _ h2, rp_up_n _ _ (by omega)]
    exact h
  refine ⟨⟨?_, ?_, ?_, ?_⟩, ⟨up 4 _ (by omega) (by omega) (by omega) b4, up 5 _ (by omega) (by omega) (by omega) b5, up 6 _ (by omega) (by omega) (by omega) b6, up 7 _ (by omega) (by omega) (by omega) b7, up 8 _ (by omega) (by omega) (by omega) b8, up 9 _ (by omega) (by omega) (by omega) b9, up 10 _ (by omega) (by omega) (by omega) b10, up 11 _ (by omega) (by omega) (by omega) b11⟩, fun c hc => ?_, fun j hj => ?_, fun j hj hj2 => ?_, q1, q2, q3, q4, hn⟩
  · rw [rp_up_s]
    show _ = some (px_o 0 [_, .ref (va_up ad (40 + cs_n σ) q 1), .ref (va_up ad (40 + cs_n σ) q 2), .ref (va_up ad (40 + cs_n σ) q 3), _, _, _])
    rw [hne 1 (by omega), hne 2 (by omega), hne 3 (by omega)]
    rfl
  · rw [up 1 _ (by omega) (by omega) (by omega) a1]
    exact congrArg (fun z => some (px_r 3 (cs_nb σ) z)) (funext fun b => by
      show _ = if b < cs_nb σ then some (va_up ad (40 + cs_n σ) q (20 + 4 * b)) else none
      by_cases h : b < cs_nb σ
      · rw [if_pos h, if_pos h, va_up_ne _ _ (by omega)]
      · rw [if_neg h, if_neg h])
  · rw [rp_up_n _ _ (by omega), rp_up_s]
    refine congrArg (fun z => some (px_r 4 16 z)) (funext fun j => ?_)
    show _ = if j < cs_n σ + 1 then some (va_up ad (40 + cs_n σ) q (40 + j)) else none
    by_cases h1 : j = cs_n σ
    · subst h1
      rw [va_up_self, va_up_self, if_pos (by omega)]
    · rw [va_up_ne _ _ h1]
      by_cases h2 : j < cs_n σ
      · rw [if_pos h2, if_pos (by omega), va_up_ne _ _ (by omega)]
      · rw [if_neg h2, if_neg (by omega)]
  · rw [up 3 _ (by omega) (by omega) (by omega) a3]
    show _ = some (px_o 3 [_, .ref (va_up ad (40 + cs_n σ) q 4), .ref (va_up ad (40 + cs_n σ) q 5), .ref (va_up ad (40 + cs_n σ) q 6), .ref (va_up ad (40 + cs_n σ) q 7), .ref (va_up ad (40 + cs_n σ) q 8), .ref (va_up ad (40 + cs_n σ) q 9), .ref (va_up ad (40 + cs_n σ) q 10), .ref (va_up ad (40 + cs_n σ) q 11), _, _, _, _, _])
    rw [hne 4 (by omega), hne 5 (by omega), hne 6 (by omega), hne 7 (by omega), hne 8 (by omega), hne 9 (by omega), hne 10 (by omega), hne 11 (by omega)]
    rfl
  · have hc : c < cs_nb σ := hc
    obtain ⟨y0, y1, y2, y3⟩ := hy c hc
    refine ⟨?_, up _ _ (by omega) (by omega) (by omega) y1, up _ _ (by omega) (by omega) (by omega) y2, up _ _ (by omega) (by omega) (by omega) y3⟩
    rw [up _ _ (by omega) (by omega) (by omega) y0]
    show _ = some (px_o 1 [.ref (va_up ad (40 + cs_n σ) q (21 + 4 * c)), .ref (va_up ad (40 + cs_n σ) q (22 + 4 * c)), .ref (va_up ad (40 + cs_n σ) q (23 + 4 * c)), _, _, _, _])
    rw [hne (21 + 4 * c) (by omega), hne (22 + 4 * c) (by omega), hne (23 + 4 * c) (by omega)]
    rfl
  · have hj : j < cs_n σ + 1 := hj
    show _ = some (px_o 2 [.int (va_up (cs_bf σ) (cs_n σ) f j 0), .int (va_up (cs_bf σ) (cs_n σ) f j 1), .int (va_up (cs_bf σ) (cs_n σ) f j 2), .int (va_up (cs_bf σ) (cs_n σ) f j 3), .int (va_up (cs_bf σ) (cs_n σ) f j 4)])
    rw [rp_up_n _ _ (by omega), rp_up_n _ _ (by omega)]
    by_cases h1 : j = cs_n σ
    · subst h1
      rw [rp_up_s, va_up_self]
    · rw [rp_up_n _ _ (by omega), va_up_ne _ _ h1]
      exact hx j (by omega)
  · have hj : cs_n σ + 1 ≤ j := hj
    rw [rp_up_n _ _ (by omega), rp_up_n _ _ (by omega), rp_up_n _ _ (by omega)]
    exact hz j (by omega) hj2
def cs_bin (σ : ck_S) (x : Int32) : Int32 := nI (pn_ct (fun j => decide (cs_bf σ j 1 = x ∧ ¬ cs_bf σ j 2 = 3)) (cs_n σ))
def of_box (σ : ck_S) (x y z : Int32) : cs_R := match cs_bq σ x with
  | none => (1, 0, σ)
  | some b => if y < 0 ∨ 3 ≤ y ∨ z < 0 ∨ ¬ z ≤ 5 then (1, 0, σ) else if 16 ≤ nI (cs_n σ) ∨ 4 ≤ cs_bin σ x ∨ ¬ cs_hgt σ x y < nI (cs_ti σ) then (2, 0, σ) else (0, nI (cs_n σ), cs_fp (cs_nw σ (fun q => match q with | 0 => z | 1 => x | 2 => y | 3 => cs_hgt σ x y | _ => 0)) b)
theorem cc_boxM (hR : Rp ad K C) (hc : Cl ad σ K) (x y z : Int32) : px_W ps_Y ps_P B sc (d + 3) 15 [.ref (ad 0), .int x, .int y, .int z] C 1 6 (px_oC ad K (of_box σ x y z)) (px_oT ad K (of_box σ x y z)) := by
  have h0 := hR.1 0 _ hc.1.1
  have hn := hc.2.2.2.2.2.2.2.2.2
  have h2 := hR.1 2 _ hc.1.2.2.1
  have hnb := hc.2.2.2.2.2.2.1
  refine ⟨pm_Mo_box, rfl, Nat.le_of_ble_eq_true rfl, fun X hw hX => ?_⟩
  iterate 3 refine px_go hX ?_
  refine ⟨_, h0, 0, 0, _, Nat.le_of_ble_eq_true rfl, Nat.le_of_ble_eq_true rfl, Nat.le_of_ble_eq_true rfl, cc_bayAt hR hc _, ?_⟩
  rintro _ C ⟨rfl, ⟨b, hb, hx, rfl⟩ | ⟨hx, rfl⟩⟩
  · iterate 5 refine px_go hX ?_
    refine ⟨fun (c1 : y < 0) => ?_, fun (c1 : ¬ y < 0) => ?_⟩
    · refine px_go hX ?_
      have hr : of_box σ x y z = (1, 0, σ) := by
        unfold of_box
        rw [show cs_bq σ x = some b from by rw [hx]; exact cs_bq_s hc hb]
        exact if_pos (Or.inl c1)
      refine ⟨Nat.le_refl 1, Nat.le_refl 6, rfl, ?_⟩
      rw [hr]
      exact ⟨Or.inl ⟨rfl, rfl⟩, Ca.of hR hc⟩
    · iterate 3 refine px_go hX ?_
      refine ⟨fun (c2 : (3 : Int32) ≤ y) => ?_, fun (c2 : ¬ (3 : Int32) ≤ y) => ?_⟩
      · refine px_go hX ?_
        have hr : of_box σ x y z = (1, 0, σ) := by
          unfold of_box
          rw [show cs_bq σ x = some b from by rw [hx]; exact cs_bq_s hc hb]
          exact if_pos (Or.inr (Or.inl c2))
        refine ⟨Nat.le_refl 1, Nat.le_refl 6, rfl, ?_⟩
        rw [hr]
        exact ⟨Or.inl ⟨rfl, rfl⟩, Ca.of hR hc⟩
      · iterate 2 refine px_go hX ?_
        refine ⟨fun (c3 : z < 0) => ?_, fun (c3 : ¬ z < 0) => ?_⟩
        · refine px_go hX ?_
          have hr : of_box σ x y z = (1, 0, σ) := by
            unfold of_box
            rw [show cs_bq σ x = some b from by rw [hx]; exact cs_bq_s hc hb]
            exact if_pos (Or.inr (Or.inr (Or.inl c3)))
          refine ⟨Nat.le_refl 1, Nat.le_refl 6, rfl, ?_⟩
          rw [hr]
          exact ⟨Or.inl ⟨rfl, rfl⟩, Ca.of hR hc⟩
        · iterate 3 refine px_go hX ?_
          refine ⟨fun (c4 : z ≤ (5 : Int32)) => ?_, fun (c4 : ¬ z ≤ (5 : Int32)) => ?_⟩
          · iterate 4 refine px_go hX ?_
            refine ⟨_, h0, 0, 0, _, Nat.le_of_ble_eq_true rfl, Nat.le_of_ble_eq_true rfl, Nat.le_of_ble_eq_true rfl, cc_heightOf hR hc _ _, ?_⟩
            rintro _ C ⟨rfl, rfl⟩
            iterate 3 refine px_go hX ?_
            refine ⟨_, _, h0, rfl, ?_⟩
            iterate 2 refine px_go hX ?_
            refine ⟨fun (c5 : (16 : Int32) ≤ nI (cs_n σ)) => ?_, fun (c5 : ¬ (16 : Int32) ≤ nI (cs_n σ)) => ?_⟩
            · refine px_go hX ?_
              have hr : of_box σ x y z = (2, 0, σ) := by
                unfold of_box
                rw [show cs_bq σ x = some b from by rw [hx]; exact cs_bq_s hc hb]
                exact (if_neg (fun q => q.elim c1 (fun q => q.elim c2 (fun q => q.elim c3 (fun q => q c4))))).trans (if_pos (Or.inl c5))
              refine ⟨Nat.le_refl 1, Nat.le_refl 6, rfl, ?_⟩
              rw [hr]
              exact ⟨Or.inr (Or.inl ⟨rfl, rfl⟩), Ca.of hR hc⟩
            · iterate 3 refine px_go hX ?_
              refine ⟨_, h0, 0, 0, _, Nat.le_of_ble_eq_true rfl, Nat.le_of_ble_eq_true rfl, Nat.le_of_ble_eq_true rfl, cc_boxesIn hR hc _, ?_⟩
              rintro _ C ⟨rfl, rfl⟩
              iterate 2 refine px_go hX ?_
              refine ⟨fun (c6 : (4 : Int32) ≤ cs_bin σ x) => ?_, fun (c6 : ¬ (4 : Int32) ≤ cs_bin σ x) => ?_⟩
              · refine px_go hX ?_
                have hr : of_box σ x y z = (2, 0, σ) := by
                  unfold of_box
                  rw [show cs_bq σ x = some b from by rw [hx]; exact cs_bq_s hc hb]
                  exact (if_neg (fun q => q.elim c1 (fun q => q.elim c2 (fun q => q.elim c3 (fun q => q c4))))).trans (if_pos (Or.inr (Or.inl c6)))
                refine ⟨Nat.le_refl 1, Nat.le_refl 6, rfl, ?_⟩
                rw [hr]
                exact ⟨Or.inr (Or.inl ⟨rfl, rfl⟩), Ca.of hR hc⟩
              · iterate 3 refine px_go hX ?_
                refine ⟨_, _, h0, rfl, ?_⟩
                refine px_go hX ?_
                refine ⟨fun (c7 : cs_hgt σ x y < nI (cs_ti σ)) => ?_, fun (c7 : ¬ cs_hgt σ x y < nI (cs_ti σ)) => ?_⟩
                · have hlt : cs_n σ < 16 := by
                    rcases Nat.lt_or_ge (cs_n σ) 16 with h | h
                    · exact h
                    · exact absurd (nI_le h (by omega) : nI 16 ≤ nI (cs_n σ)) c5
                  iterate 2 refine px_go hX ?_
                  refine ⟨_, _, h0, rfl, ?_⟩
                  iterate 3 refine px_go hX ?_
                  refine ⟨_, _, h0, rfl, ?_⟩
                  iterate 2 refine px_go hX ?_
                  refine ⟨Nat.le_of_ble_eq_true rfl, Nat.le_of_ble_eq_true rfl, fun q1 hq1n hq1b => ?_⟩
                  iterate 6 refine px_go hX ?_
                  refine ⟨0, 0, _, Nat.le_of_ble_eq_true rfl, Nat.le_of_ble_eq_true rfl, Nat.le_of_ble_eq_true rfl, cc_Box_init (px_up_s _ _ _) _ _ _ _, ?_⟩
                  rintro _ C ⟨rfl, rfl⟩
                  rw [px_up_up]
                  refine px_go hX ?_
                  refine ⟨_, _, _, _, ((px_up_n _ _ (px_nq h2 hq1n)).trans h2), ⟨Nat.le_of_ble_eq_true rfl, Nat.le_of_ble_eq_true rfl⟩, vp_in_nI hlt (by omega), (px_up_s _ _ _), ?_⟩
                  rw [nI_clamp (by omega)]
                  iterate 3 refine px_go hX ?_
                  refine ⟨_, _, ((px_up_n _ _ (hR.ne hc.1.1 hc.1.2.2.1 (by omega))).trans ((px_up_n _ _ (px_nq h0 hq1n)).trans h0)), rfl, ?_⟩
                  iterate 3 refine px_go hX ?_
                  refine ⟨_, ((px_up_n _ _ (hR.ne hc.1.1 hc.1.2.2.1 (by omega))).trans ((px_up_n _ _ (px_nq h0 hq1n)).trans h0)), Nat.le_of_ble_eq_true rfl, rfl, rfl, ?_⟩
                  have hR1 := ((hR.new (hc.2.2.2.2.1 _ (Nat.le_refl _) hlt) hq1n (px_o 2 [.int z, .int x, .int y, .int (cs_hgt σ x y), .int 0])).put (i := 2) ((rp_up_n _ _ (by omega)).trans hc.1.2.2.1) (px_r 4 16 (va_up (fun j => if j < cs_n σ then some (ad (40 + j)) else none) (cs_n σ) (some q1)))).put (i := 0) ((rp_up_n _ _ (by omega)).trans ((rp_up_n _ _ (by omega)).trans hc.1.1)) (px_o 0 [.int (nI (cs_ti σ)), .ref (ad 1), .ref (ad 2), .ref (ad 3), .int (nI (cs_n σ + 1)), .int (cs_mw σ), .int (cs_lg σ)])
                  rw [show va_up ad (40 + cs_n σ) q1 2 = ad 2 from va_up_ne _ _ (by omega), show va_up ad (40 + cs_n σ) q1 0 = ad 0 from va_up_ne _ _ (by omega), nI_succ] at hR1
                  have hc1 := hc.new hlt (fun q => match q with | 0 => z | 1 => x | 2 => y | 3 => cs_hgt σ x y | _ => 0) q1
                  rw [nI_succ] at hc1
                  iterate 2 refine px_go hX ?_
                  refine ⟨_, ((px_up_n _ _ (hR.ne (hc.2.2.1 b hb).1 hc.1.1 (by omega))).trans ((px_up_n _ _ (hR.ne (hc.2.2.1 b hb).1 hc.1.2.2.1 (by omega))).trans ((px_up_n _ _ (px_nq (hR.1 _ _ (hc.2.2.1 b hb).1) hq1n)).trans (hR.1 _ _ (hc.2.2.1 b hb).1)))), 0, 0, _, Nat.le_of_ble_eq_true rfl, Nat.le_of_ble_eq_true rfl, Nat.le_of_ble_eq_true rfl, (by rw [← show va_up ad (40 + cs_n σ) q1 (20 + 4 * b) = ad (20 + 4 * b) from va_up_ne _ _ (by omega)]; exact cc_forgetPlan hR1 hc1 hb), ?_⟩
                  rintro _ C ⟨rfl, K2, hR2, hc2, hK2⟩
                  iterate 2 refine px_go hX ?_
                  have hr : of_box σ x y z = (0, nI (cs_n σ), cs_fp (cs_nw σ (fun q => match q with | 0 => z | 1 => x | 2 => y | 3 => cs_hgt σ x y | _ => 0)) b) := by
                    unfold of_box
                    rw [show cs_bq σ x = some b from by rw [hx]; exact cs_bq_s hc hb]
                    exact (if_neg (fun q => q.elim c1 (fun q => q.elim c2 (fun q => q.elim c3 (fun q => q c4))))).trans (if_neg (fun q => q.elim c5 (fun q => q.elim c6 (fun q => q c7))))
                  rw [hr]
                  exact ⟨rfl, rfl, ⟨_, K2, hR2, hc2, fun i hi => ⟨(hK2 i hi).trans (by rw [rp_up_n _ _ (by omega), rp_up_n _ _ (by omega), rp_up_n _ _ (by omega)]), va_up_ne _ _ (by omega)⟩, va_up_ne _ _ (by omega)⟩⟩
                · refine px_go hX ?_
                  have hr : of_box σ x y z = (2, 0, σ) := by
                    unfold of_box
                    rw [show cs_bq σ x = some b from by rw [hx]; exact cs_bq_s hc hb]
                    exact (if_neg (fun q => q.elim c1 (fun q => q.elim c2 (fun q => q.elim c3 (fun q => q c4))))).trans (if_pos (Or.inr (Or.inr c7)))
                  refine ⟨Nat.le_refl 1, Nat.le_refl 6, rfl, ?_⟩
                  rw [hr]
                  exact ⟨Or.inr (Or.inl ⟨rfl, rfl⟩), Ca.of hR hc⟩
          · refine px_go hX ?_
            have hr : of_box σ x y z = (1, 0, σ) := by
              unfold of_box
              rw [show cs_bq σ x = some b from by rw [hx]; exact cs_bq_s hc hb]
              exact if_pos (Or.inr (Or.inr (Or.inr c4)))
            refine ⟨Nat.le_refl 1, Nat.le_refl 6, rfl, ?_⟩
            rw [hr]
            exact ⟨Or.inl ⟨rfl, rfl⟩, Ca.of hR hc⟩
  · iterate 4 refine px_go hX ?_
    have hr : of_box σ x y z = (1, 0, σ) := by
      unfold of_box
      rw [cs_bq_n hx]
    refine ⟨Nat.le_refl 1, Nat.le_refl 6, rfl, ?_⟩
    rw [hr]
    exact ⟨Or.inl ⟨rfl, rfl⟩, Ca.of hR hc⟩
end RJ
