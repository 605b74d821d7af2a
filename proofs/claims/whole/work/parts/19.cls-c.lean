/-! The class's calls that answer, change no more than a bay's loads. -/
theorem Rp.ne {ad : Nat → Nat} {K : rp_K} {C : px_P} (h : Rp ad K C) {i j : Nat} {e f : px_E} (hi : K i = some e) (hj : K j = some f) (hij : i ≠ j) : ad i ≠ ad j := fun w => hij (h.2 i j ⟨e, hi⟩ ⟨f, hj⟩ w)
section RG
variable {B : Nat} {sc : Option (Nat × Nat × (Nat → Int32))} {d : Nat} {ad : Nat → Nat} {σ : ck_S} {K : rp_K} {C : px_P}
def cs_lft (σ : ck_S) (b : Nat) : Int32 := if cs_yf σ b 0 = 0 then -1 else cs_yf σ b 1 - cs_yf σ b 2
def cs_cob (σ : ck_S) (x : Int32) : Int32 := if 20 ≤ x then (match cs_bq σ (x - 20) with | none => -1 | some b => cs_lft σ b) else if 10 ≤ x then (match cs_bq σ (x - 10) with | none => -1 | some b => cs_yf σ b 3) else -1
theorem cs_cob_1 (hc : Cl ad σ K) {x : Int32} {b : Nat} (h1 : 20 ≤ x) (hb : b < cs_nb σ) (hx : x - 20 = nI b) : cs_cob σ x = cs_lft σ b := by
  unfold cs_cob
  rw [if_pos h1, hx, cs_bq_s hc hb]
theorem cs_cob_2 {x : Int32} (h1 : 20 ≤ x) (hx : x - 20 < 0 ∨ nI (cs_nb σ) ≤ x - 20) : cs_cob σ x = -1 := by
  unfold cs_cob
  rw [if_pos h1, cs_bq_n hx]
theorem cs_cob_3 (hc : Cl ad σ K) {x : Int32} {b : Nat} (h1 : ¬ 20 ≤ x) (h2 : 10 ≤ x) (hb : b < cs_nb σ) (hx : x - 10 = nI b) : cs_cob σ x = cs_yf σ b 3 := by
  unfold cs_cob
  rw [if_neg h1, if_pos h2, hx, cs_bq_s hc hb]
theorem cs_cob_4 {x : Int32} (h1 : ¬ 20 ≤ x) (h2 : 10 ≤ x) (hx : x - 10 < 0 ∨ nI (cs_nb σ) ≤ x - 10) : cs_cob σ x = -1 := by
  unfold cs_cob
  rw [if_neg h1, if_pos h2, cs_bq_n hx]
theorem cs_cob_5 {x : Int32} (h1 : ¬ 20 ≤ x) (h2 : ¬ 10 ≤ x) : cs_cob σ x = -1 := by
  unfold cs_cob
  rw [if_neg h1, if_neg h2]
theorem i32_nlt {x y : Int32} (h : ¬ x < y) : y ≤ x := Int32.not_lt.mp h
theorem i32_nle {x y : Int32} (h : x < y) : ¬ y ≤ x := Int32.not_le.mpr h
def cs_cnt (σ : ck_S) (x : Int32) : Int32 := if x = 0 then nI (cs_n σ) else if x = 1 then nI (pn_ct (fun j => decide (cs_bf σ j 2 = 3)) (cs_n σ)) else if x = 2 then nI (pn_ct (fun j => decide (cs_bf σ j 2 = 4)) (cs_n σ)) else if x = 3 then cs_mw σ else if x = 4 then cs_lg σ else cs_cob σ x
theorem cc_countOfBay (hR : Rp ad K C) (hc : Cl ad σ K) (x : Int32) : px_W ps_Y ps_P B sc (d + 2) 18 [.ref (ad 0), .int x] C 0 0 (fun v C' => C' = C ∧ v = some (.int (cs_cob σ x))) px_no := by
  have h0 := hR.1 0 _ hc.1.1
  have hn := hc.2.2.2.2.2.2.2.2.2
  refine ⟨pm_Mo_countOfBay, rfl, Nat.le_of_ble_eq_true rfl, fun X hw hX => ?_⟩
  iterate 3 refine px_go hX ?_
  refine ⟨fun (c1 : x < (20 : Int32)) => ?_, fun (c1 : ¬ x < (20 : Int32)) => ?_⟩
  · iterate 3 refine px_go hX ?_
    refine ⟨fun (c2 : x < (10 : Int32)) => ?_, fun (c2 : ¬ x < (10 : Int32)) => ?_⟩
    · iterate 2 refine px_go hX ?_
      rw [cs_cob_5 (i32_nle c1) (i32_nle c2)]
      exact ⟨rfl, rfl⟩
    · iterate 5 refine px_go hX ?_
      refine ⟨_, h0, 0, 0, _, Nat.le_of_ble_eq_true rfl, Nat.le_of_ble_eq_true rfl, Nat.le_of_ble_eq_true rfl, cc_bayAt hR hc _, ?_⟩
      rintro _ C ⟨rfl, ⟨b, hb, hx, rfl⟩ | ⟨hx, rfl⟩⟩
      · iterate 5 refine px_go hX ?_
        refine ⟨_, _, (hR.1 _ _ (hc.2.2.1 b hb).1), rfl, ?_⟩
        refine px_go hX ?_
        rw [cs_cob_3 hc (i32_nle c1) (i32_nlt c2) hb hx]
        exact ⟨rfl, rfl⟩
      · iterate 6 refine px_go hX ?_
        rw [cs_cob_4 (i32_nle c1) (i32_nlt c2) hx]
        exact ⟨rfl, rfl⟩
  · iterate 5 refine px_go hX ?_
    refine ⟨_, h0, 0, 0, _, Nat.le_of_ble_eq_true rfl, Nat.le_of_ble_eq_true rfl, Nat.le_of_ble_eq_true rfl, cc_bayAt hR hc _, ?_⟩
    rintro _ C ⟨rfl, ⟨b, hb, hx, rfl⟩ | ⟨hx, rfl⟩⟩
    · iterate 5 refine px_go hX ?_
      refine ⟨_, (hR.1 _ _ (hc.2.2.1 b hb).1), 0, 0, _, Nat.le_of_ble_eq_true rfl, Nat.le_of_ble_eq_true rfl, Nat.le_of_ble_eq_true rfl, cc_movesLeft hR hc hb, ?_⟩
      rintro _ C ⟨rfl, ⟨b2, rfl⟩ | ⟨b2, rfl⟩⟩
      · refine px_go hX ?_
        rw [cs_cob_1 hc (i32_nlt c1) hb hx, cs_lft, if_pos b2]
        exact ⟨rfl, rfl⟩
      · refine px_go hX ?_
        rw [cs_cob_1 hc (i32_nlt c1) hb hx, cs_lft, if_neg b2]
        exact ⟨rfl, rfl⟩
    · iterate 6 refine px_go hX ?_
      rw [cs_cob_2 (i32_nlt c1) hx]
      exact ⟨rfl, rfl⟩
theorem cc_count (hR : Rp ad K C) (hc : Cl ad σ K) (x : Int32) : px_W ps_Y ps_P B sc (d + 3) 19 [.ref (ad 0), .int x] C 0 0 (fun v C' => C' = C ∧ v = some (.int (cs_cnt σ x))) px_no := by
  have h0 := hR.1 0 _ hc.1.1
  have hn := hc.2.2.2.2.2.2.2.2.2
  refine ⟨pm_Mo_count, rfl, Nat.le_of_ble_eq_true rfl, fun X hw hX => ?_⟩
  iterate 2 refine px_go hX ?_
  refine ⟨fun c1 => ?_, fun c1 => ⟨fun c2 => ?_, fun c2 => ⟨fun c3 => ?_, fun c3 => ⟨fun c4 => ?_, fun c4 => ⟨fun c5 => ?_, fun c5 => ?_⟩⟩⟩⟩⟩
  · have c1 : x = (0 : Int32) := c1
    iterate 2 refine px_go hX ?_
    refine ⟨_, _, h0, rfl, ?_⟩
    refine px_go hX ?_
    unfold cs_cnt
    rw [if_pos c1]
    exact ⟨rfl, rfl⟩
  · have c1 : ¬ x = (0 : Int32) := c1
    have c2 : x = (1 : Int32) := c2
    iterate 3 refine px_go hX ?_
    refine ⟨_, h0, 0, 0, _, Nat.le_of_ble_eq_true rfl, Nat.le_of_ble_eq_true rfl, Nat.le_of_ble_eq_true rfl, cc_boxesAt hR hc _, ?_⟩
    rintro _ C ⟨rfl, rfl⟩
    refine px_go hX ?_
    unfold cs_cnt
    rw [if_neg c1, if_pos c2]
    exact ⟨rfl, rfl⟩
  · have c1 : ¬ x = (0 : Int32) := c1
    have c2 : ¬ x = (1 : Int32) := c2
    have c3 : x = (2 : Int32) := c3
    iterate 3 refine px_go hX ?_
    refine ⟨_, h0, 0, 0, _, Nat.le_of_ble_eq_true rfl, Nat.le_of_ble_eq_true rfl, Nat.le_of_ble_eq_true rfl, cc_boxesAt hR hc _, ?_⟩
    rintro _ C ⟨rfl, rfl⟩
    refine px_go hX ?_
    unfold cs_cnt
    rw [if_neg c1, if_neg c2, if_pos c3]
    exact ⟨rfl, rfl⟩
  · have c1 : ¬ x = (0 : Int32) := c1
    have c2 : ¬ x = (1 : Int32) := c2
    have c3 : ¬ x = (2 : Int32) := c3
    have c4 : x = (3 : Int32) := c4
    iterate 2 refine px_go hX ?_
    refine ⟨_, _, h0, rfl, ?_⟩
    refine px_go hX ?_
    unfold cs_cnt
    rw [if_neg c1, if_neg c2, if_neg c3, if_pos c4]
    exact ⟨rfl, rfl⟩
  · have c1 : ¬ x = (0 : Int32) := c1
    have c2 : ¬ x = (1 : Int32) := c2
    have c3 : ¬ x = (2 : Int32) := c3
    have c4 : ¬ x = (3 : Int32) := c4
    have c5 : x = (4 : Int32) := c5
    iterate 2 refine px_go hX ?_
    refine ⟨_, _, h0, rfl, ?_⟩
    refine px_go hX ?_
    unfold cs_cnt
    rw [if_neg c1, if_neg c2, if_neg c3, if_neg c4, if_pos c5]
    exact ⟨rfl, rfl⟩
  · have c1 : ¬ x = (0 : Int32) := c1
    have c2 : ¬ x = (1 : Int32) := c2
    have c3 : ¬ x = (2 : Int32) := c3
    have c4 : ¬ x = (3 : Int32) := c4
    have c5 : ¬ x = (4 : Int32) := c5
    iterate 3 refine px_go hX ?_
    refine ⟨_, h0, 0, 0, _, Nat.le_of_ble_eq_true rfl, Nat.le_of_ble_eq_true rfl, Nat.le_of_ble_eq_true rfl, cc_countOfBay hR hc _, ?_⟩
    rintro _ C ⟨rfl, rfl⟩
    refine px_go hX ?_
    unfold cs_cnt
    rw [if_neg c1, if_neg c2, if_neg c3, if_neg c4, if_neg c5]
    exact ⟨rfl, rfl⟩
theorem cc_movesOutLeft (hR : Rp ad K C) (hc : Cl ad σ K) {b : Nat} (hb : b < cs_nb σ) {mm w : Nat} (hp0 : ¬ cs_yf σ b 0 = 0) (hm : cs_yf σ b 1 = nI mm) (hw0 : cs_yf σ b 2 = nI w) (hwm : w ≤ mm) (hmm : mm ≤ 12) : px_W ps_Y ps_P B sc (d + 2) 21 [.ref (ad (20 + 4 * b))] C 0 0 (fun v C' => C' = C ∧ v = some (.int (nI (pn_ct (fun i => decide (cs_ya σ b 2 (w + i) = 3)) (mm - w))))) px_no := by
  have h0 := hR.1 0 _ hc.1.1
  have hn := hc.2.2.2.2.2.2.2.2.2
  have hty := hR.1 _ _ (hc.2.2.1 b hb).2.2.2
  have hnb := hc.2.2.2.2.2.2.1
  generalize hp : (fun i => decide (cs_ya σ b 2 (w + i) = 3)) = p
  refine ⟨pm_Bay_movesOutLeft, rfl, Nat.le_of_ble_eq_true rfl, fun X hw hX => ?_⟩
  have loop : ∀ k i, i + k = (mm - w) → X (7, [(0, .ref (ad (20 + 4 * b))), (1, .int (nI (pn_ct p i))), (2, .int (nI (w + i)))], [], C, 0, 0) := by
    intro k
    induction k with
    | zero =>
      intro i hi
      have hlt : i = (mm - w) := hi
      iterate 3 refine px_go hX ?_
      refine ⟨_, _, (hR.1 _ _ (hc.2.2.1 b hb).1), rfl, ?_⟩
      refine px_go hX ?_
      refine ⟨fun (c1 : cs_yf σ b 1 ≤ nI (w + i)) => ?_, fun (c1 : ¬ cs_yf σ b 1 ≤ nI (w + i)) => absurd (by rw [hm]; exact nI_le (by omega) (by omega)) c1⟩
      iterate 2 refine px_go hX ?_
      rw [hlt]
      exact ⟨rfl, rfl⟩
    | succ k ih =>
      intro i hi
      have hlt : i < (mm - w) := by omega
      iterate 3 refine px_go hX ?_
      refine ⟨_, _, (hR.1 _ _ (hc.2.2.1 b hb).1), rfl, ?_⟩
      refine px_go hX ?_
      refine ⟨fun (c2 : cs_yf σ b 1 ≤ nI (w + i)) => absurd (by rw [hm] at c2; exact c2) (nI_ge (by omega : w + i < mm) (by omega)), fun (c2 : ¬ cs_yf σ b 1 ≤ nI (w + i)) => ?_⟩
      iterate 3 refine px_go hX ?_
      refine ⟨_, (hR.1 _ _ (hc.2.2.1 b hb).1), 0, 0, _, Nat.le_of_ble_eq_true rfl, Nat.le_of_ble_eq_true rfl, Nat.le_of_ble_eq_true rfl, cc_hasMove hR hc hb _, ?_⟩
      rintro _ C ⟨rfl, ⟨b3, rfl⟩ | ⟨b3, rfl⟩⟩
      · refine px_go hX ?_
        refine ⟨fun (c4 : 1 = 0) => absurd c4 (by decide), fun (c4 : ¬ 1 = 0) => ?_⟩
        iterate 2 refine px_go hX ?_
        refine ⟨_, _, (hR.1 _ _ (hc.2.2.1 b hb).1), rfl, ?_⟩
        iterate 2 refine px_go hX ?_
        refine ⟨_, _, hty, vp_in_nI (by omega) (by omega), ?_⟩
        rw [nI_clamp (by omega)]
        iterate 2 refine px_go hX ?_
        refine ⟨fun (c5 : ¬ cs_ya σ b 2 (w + i) = (3 : Int32)) => ?_, fun (c5 : cs_ya σ b 2 (w + i) = (3 : Int32)) => ?_⟩
        · iterate 2 refine px_go hX ?_
          exact px_lw hw [(0, .ref (ad (20 + 4 * b))), (1, .int (nI (pn_ct p (i + 1)))), (2, .int (nI (w + (i + 1))))] (ih (i + 1) (by omega)) ⟨rfl, by rw [pn_ct_f (by rw [← hp]; exact decide_eq_false (by simp [c2, b3, c4, c5]))]; rfl, (congrArg (fun z => some (Value.int z)) (nI_succ _).symm), trivial⟩
        · iterate 3 refine px_go hX ?_
          exact px_lw hw [(0, .ref (ad (20 + 4 * b))), (1, .int (nI (pn_ct p (i + 1)))), (2, .int (nI (w + (i + 1))))] (ih (i + 1) (by omega)) ⟨rfl, by rw [pn_ct_t (by rw [← hp]; exact decide_eq_true (by simp [c2, b3, c4, c5])), nI_succ]; rfl, (congrArg (fun z => some (Value.int z)) (nI_succ _).symm), trivial⟩
      · refine px_go hX ?_
        refine ⟨fun (c6 : 0 = 0) => ?_, fun (c6 : ¬ 0 = 0) => absurd rfl c6⟩
        iterate 2 refine px_go hX ?_
        exact px_lw hw [(0, .ref (ad (20 + 4 * b))), (1, .int (nI (pn_ct p (i + 1)))), (2, .int (nI (w + (i + 1))))] (ih (i + 1) (by omega)) ⟨rfl, by rw [pn_ct_f (by rw [← hp]; exact decide_eq_false (absurd ⟨hp0, nI_pos (by omega : w + i < 2 ^ 31), by rw [hm]; exact nI_ge (by omega : w + i < mm) (by omega : mm < 2 ^ 31), nI_ge (by omega : w + i < 12) (by omega : 12 < 2 ^ 31)⟩ b3))]; rfl, (congrArg (fun z => some (Value.int z)) (nI_succ _).symm), trivial⟩
  iterate 4 refine px_go hX ?_
  refine ⟨_, _, (hR.1 _ _ (hc.2.2.1 b hb).1), rfl, ?_⟩
  iterate 1 refine px_go hX ?_
  exact px_lw hw [(0, .ref (ad (20 + 4 * b))), (1, .int (nI (pn_ct p 0))), (2, .int (nI (w + 0)))] (loop ((mm - w) - 0) 0 (by omega)) ⟨rfl, rfl, (congrArg (fun z => some (Value.int z)) hw0), trivial⟩
def of_dual (σ : ck_S) (x : Int32) : cs_R := match cs_bq σ x with
  | none => (1, 0, σ)
  | some b => (0, if cs_yf σ b 0 = 0 then -1 else if nI (pn_ct (fun i => decide (cs_ya σ b 2 ((cs_yf σ b 2).toNatClampNeg + i) = 3)) ((cs_yf σ b 1).toNatClampNeg - (cs_yf σ b 2).toNatClampNeg)) < cs_yf σ b 3 then nI (pn_ct (fun i => decide (cs_ya σ b 2 ((cs_yf σ b 2).toNatClampNeg + i) = 3)) ((cs_yf σ b 1).toNatClampNeg - (cs_yf σ b 2).toNatClampNeg)) else cs_yf σ b 3, σ)
/-- a plan's numbers -/
def cs_pl (σ : ck_S) : Prop := ∀ b, b < cs_nb σ → ∃ m w : Nat, cs_yf σ b 1 = nI m ∧ cs_yf σ b 2 = nI w ∧ w ≤ m ∧ m ≤ 12 ∧ (cs_yf σ b 0 = 0 → m = 0)
theorem cc_dual (hR : Rp ad K C) (hc : Cl ad σ K) (hpl : cs_pl σ) (x : Int32) : px_W ps_Y ps_P B sc (d + 3) 22 [.ref (ad 0), .int x] C 1 6 (px_oC ad K (of_dual σ x)) (px_oT ad K (of_dual σ x)) := by
  have h0 := hR.1 0 _ hc.1.1
  have hn := hc.2.2.2.2.2.2.2.2.2
  refine ⟨pm_Mo_dual, rfl, Nat.le_of_ble_eq_true rfl, fun X hw hX => ?_⟩
  iterate 3 refine px_go hX ?_
  refine ⟨_, h0, 0, 0, _, Nat.le_of_ble_eq_true rfl, Nat.le_of_ble_eq_true rfl, Nat.le_of_ble_eq_true rfl, cc_bayAt hR hc _, ?_⟩
  rintro _ C ⟨rfl, ⟨b, hb, hx, rfl⟩ | ⟨hx, rfl⟩⟩
  · obtain ⟨m, w, hm, hw0, hwm, hmm, -⟩ := hpl b hb
    iterate 5 refine px_go hX ?_
    refine ⟨_, _, (hR.1 _ _ (hc.2.2.1 b hb).1), rfl, ?_⟩
    refine px_go hX ?_
    refine ⟨fun (c1 : cs_yf σ b 0 = 0) => ?_, fun (c1 : ¬ cs_yf σ b 0 = 0) => ?_⟩
    · iterate 2 refine px_go hX ?_
      have hr : of_dual σ x = (0, -1, σ) := by
        unfold of_dual
        rw [hx, cs_bq_s hc hb]
        exact congrArg (fun z => ((0, z, σ) : cs_R)) (if_pos c1)
      rw [hr]
      exact ⟨rfl, rfl, Ca.of hR hc⟩
    · iterate 2 refine px_go hX ?_
      refine ⟨_, _, (hR.1 _ _ (hc.2.2.1 b hb).1), rfl, ?_⟩
      iterate 2 refine px_go hX ?_
      refine ⟨_, (hR.1 _ _ (hc.2.2.1 b hb).1), 0, 0, _, Nat.le_of_ble_eq_true rfl, Nat.le_of_ble_eq_true rfl, Nat.le_of_ble_eq_true rfl, cc_movesOutLeft hR hc hb c1 hm hw0 hwm hmm, ?_⟩
      rintro _ C ⟨rfl, rfl⟩
      refine px_go hX ?_
      refine ⟨Nat.le_of_ble_eq_true rfl, ?_⟩
      iterate 2 refine px_go hX ?_
      have e1 : (cs_yf σ b 2).toNatClampNeg = w := by rw [hw0, nI_clamp (by omega)]
      have e2 : (cs_yf σ b 1).toNatClampNeg = m := by rw [hm, nI_clamp (by omega)]
      have hr : of_dual σ x = (0, (if nI (pn_ct (fun i => decide (cs_ya σ b 2 (w + i) = 3)) (m - w)) < cs_yf σ b 3 then nI (pn_ct (fun i => decide (cs_ya σ b 2 (w + i) = 3)) (m - w)) else cs_yf σ b 3), σ) := by
        unfold of_dual
        rw [hx, cs_bq_s hc hb]
        exact by rw [← e1, ← e2]; exact congrArg (fun z => ((0, z, σ) : cs_R)) (if_neg c1)
      rw [hr]
      exact ⟨rfl, rfl, Ca.of hR hc⟩
  · iterate 4 refine px_go hX ?_
    have hr : of_dual σ x = (1, 0, σ) := by
      unfold of_dual
      rw [cs_bq_n hx]
    refine ⟨Nat.le_refl 1, Nat.le_refl 6, rfl, ?_⟩
    rw [hr]
    exact ⟨Or.inl ⟨rfl, rfl⟩, Ca.of hR hc⟩
def of_loads (σ : ck_S) (x y : Int32) : cs_R := match cs_bq σ x with
  | none => (1, 0, σ)
  | some b => if y < 1 ∨ ¬ y ≤ 100 then (1, 0, σ) else if cs_yf σ b 3 + y ≤ 100 then (0, cs_yf σ b 3 + y, cs_sY σ b (fun k => match k with | 3 => cs_yf σ b 3 + y | k => cs_yf σ b k)) else (2, 0, σ)
theorem cc_loads (hR : Rp ad K C) (hc : Cl ad σ K) (x y : Int32) : px_W ps_Y ps_P B sc (d + 2) 28 [.ref (ad 0), .int x, .int y] C 1 6 (px_oC ad K (of_loads σ x y)) (px_oT ad K (of_loads σ x y)) := by
  have h0 := hR.1 0 _ hc.1.1
  have hn := hc.2.2.2.2.2.2.2.2.2
  have hnb := hc.2.2.2.2.2.2.1
  refine ⟨pm_Mo_loads, rfl, Nat.le_of_ble_eq_true rfl, fun X hw hX => ?_⟩
  iterate 3 refine px_go hX ?_
  refine ⟨_, h0, 0, 0, _, Nat.le_of_ble_eq_true rfl, Nat.le_of_ble_eq_true rfl, Nat.le_of_ble_eq_true rfl, cc_bayAt hR hc _, ?_⟩
  rintro _ C ⟨rfl, ⟨b, hb, hx, rfl⟩ | ⟨hx, rfl⟩⟩
  · iterate 6 refine px_go hX ?_
    refine ⟨fun (c1 : y < (1 : Int32)) => ?_, fun (c1 : ¬ y < (1 : Int32)) => ?_⟩
    · refine px_go hX ?_
      have hr : of_loads σ x y = (1, 0, σ) := by
        unfold of_loads
        rw [hx, cs_bq_s hc hb]
        exact if_pos (Or.inl c1)
      refine ⟨Nat.le_refl 1, Nat.le_refl 6, rfl, ?_⟩
      rw [hr]
      exact ⟨Or.inl ⟨rfl, rfl⟩, Ca.of hR hc⟩
    · iterate 3 refine px_go hX ?_
      refine ⟨fun (c2 : y ≤ (100 : Int32)) => ?_, fun (c2 : ¬ y ≤ (100 : Int32)) => ?_⟩
      · iterate 2 refine px_go hX ?_
        refine ⟨_, _, (hR.1 _ _ (hc.2.2.1 b hb).1), rfl, ?_⟩
        iterate 4 refine px_go hX ?_
        refine ⟨fun (c3 : (cs_yf σ b 3) + (y) ≤ (100 : Int32)) => ?_, fun (c3 : ¬ (cs_yf σ b 3) + (y) ≤ (100 : Int32)) => ?_⟩
        · iterate 3 refine px_go hX ?_
          refine ⟨_, _, (hR.1 _ _ (hc.2.2.1 b hb).1), rfl, ?_⟩
          iterate 3 refine px_go hX ?_
          refine ⟨_, (hR.1 _ _ (hc.2.2.1 b hb).1), Nat.le_of_ble_eq_true rfl, rfl, rfl, ?_⟩
          iterate 2 refine px_go hX ?_
          refine ⟨_, _, (px_up_s _ _ _), rfl, ?_⟩
          refine px_go hX ?_
          have hr : of_loads σ x y = (0, cs_yf σ b 3 + y, cs_sY σ b (fun k => match k with | 3 => cs_yf σ b 3 + y | k => cs_yf σ b k)) := by
            unfold of_loads
            rw [hx, cs_bq_s hc hb]
            exact (if_neg (fun q => q.elim c1 (fun q => q c2))).trans (if_pos c3)
          rw [hr]
          exact ⟨rfl, rfl, Ck.ca ⟨_, hR.put (hc.2.2.1 b hb).1 _, hc.sY hb _, fun i hi => rp_up_n _ _ (by omega)⟩⟩
        · refine px_go hX ?_
          have hr : of_loads σ x y = (2, 0, σ) := by
            unfold of_loads
            rw [hx, cs_bq_s hc hb]
            exact (if_neg (fun q => q.elim c1 (fun q => q c2))).trans (if_neg c3)
          refine ⟨Nat.le_refl 1, Nat.le_refl 6, rfl, ?_⟩
          rw [hr]
          exact ⟨Or.inr (Or.inl ⟨rfl, rfl⟩), Ca.of hR hc⟩
      · refine px_go hX ?_
        have hr : of_loads σ x y = (1, 0, σ) := by
          unfold of_loads
          rw [hx, cs_bq_s hc hb]
          exact if_pos (Or.inr c2)
        refine ⟨Nat.le_refl 1, Nat.le_refl 6, rfl, ?_⟩
        rw [hr]
        exact ⟨Or.inl ⟨rfl, rfl⟩, Ca.of hR hc⟩
  · iterate 4 refine px_go hX ?_
    have hr : of_loads σ x y = (1, 0, σ) := by
      unfold of_loads
      rw [cs_bq_n hx]
    refine ⟨Nat.le_refl 1, Nat.le_refl 6, rfl, ?_⟩
    rw [hr]
    exact ⟨Or.inl ⟨rfl, rfl⟩, Ca.of hR hc⟩
def of_look (σ : ck_S) (x y : Int32) : cs_R := match cs_xq σ x with
  | none => (1, 0, σ)
  | some j => if y < 0 ∨ ¬ y ≤ 3 then (1, 0, σ) else (0, if y = 0 then cs_bf σ j 0 else if y = 1 then cs_bf σ j 1 else if y = 2 then cs_bf σ j 2 else cs_bf σ j 3, σ)
theorem cc_look (hR : Rp ad K C) (hc : Cl ad σ K) (x y : Int32) : px_W ps_Y ps_P B sc (d + 2) 29 [.ref (ad 0), .int x, .int y] C 1 6 (px_oC ad K (of_look σ x y)) (px_oT ad K (of_look σ x y)) := by
  have h0 := hR.1 0 _ hc.1.1
  have hn := hc.2.2.2.2.2.2.2.2.2
  refine ⟨pm_Mo_look, rfl, Nat.le_of_ble_eq_true rfl, fun X hw hX => ?_⟩
  iterate 3 refine px_go hX ?_
  refine ⟨_, h0, 0, 0, _, Nat.le_of_ble_eq_true rfl, Nat.le_of_ble_eq_true rfl, Nat.le_of_ble_eq_true rfl, cc_boxAt hR hc _, ?_⟩
  rintro _ C ⟨rfl, ⟨j, hj, hx, rfl⟩ | ⟨hx, rfl⟩⟩
  · iterate 5 refine px_go hX ?_
    refine ⟨fun (c1 : y < 0) => ?_, fun (c1 : ¬ y < 0) => ?_⟩
    · refine px_go hX ?_
      have hr : of_look σ x y = (1, 0, σ) := by
        unfold of_look
        rw [hx, cs_xq_s hc hj]
        exact if_pos (Or.inl c1)
      refine ⟨Nat.le_refl 1, Nat.le_refl 6, rfl, ?_⟩
      rw [hr]
      exact ⟨Or.inr (Or.inr ⟨rfl, rfl⟩), Ca.of hR hc⟩
    · iterate 3 refine px_go hX ?_
      refine ⟨fun (c2 : y ≤ (3 : Int32)) => ?_, fun (c2 : ¬ y ≤ (3 : Int32)) => ?_⟩
      · iterate 2 refine px_go hX ?_
        refine ⟨fun c3 => ?_, fun c3 => ⟨fun c4 => ?_, fun c4 => ⟨fun c5 => ?_, fun c5 => ?_⟩⟩⟩
        · have c3 : y = (0 : Int32) := c3
          iterate 2 refine px_go hX ?_
          refine ⟨_, _, (hR.1 _ _ (hc.2.2.2.1 j hj)), rfl, ?_⟩
          refine px_go hX ?_
          have hr : of_look σ x y = (0, cs_bf σ j 0, σ) := by
            unfold of_look
            rw [hx, cs_xq_s hc hj]
            exact (if_neg (fun q => q.elim c1 (fun q => q c2))).trans (congrArg (fun z => ((0, z, σ) : cs_R)) (if_pos c3))
          rw [hr]
          exact ⟨rfl, rfl, Ca.of hR hc⟩
        · have c3 : ¬ y = (0 : Int32) := c3
          have c4 : y = (1 : Int32) := c4
          iterate 2 refine px_go hX ?_
          refine ⟨_, _, (hR.1 _ _ (hc.2.2.2.1 j hj)), rfl, ?_⟩
          refine px_go hX ?_
          have hr : of_look σ x y = (0, cs_bf σ j 1, σ) := by
            unfold of_look
            rw [hx, cs_xq_s hc hj]
            exact (if_neg (fun q => q.elim c1 (fun q => q c2))).trans (congrArg (fun z => ((0, z, σ) : cs_R)) ((if_neg c3).trans (if_pos c4)))
          rw [hr]
          exact ⟨rfl, rfl, Ca.of hR hc⟩
        · have c3 : ¬ y = (0 : Int32) := c3
          have c4 : ¬ y = (1 : Int32) := c4
          have c5 : y = (2 : Int32) := c5
          iterate 2 refine px_go hX ?_
          refine ⟨_, _, (hR.1 _ _ (hc.2.2.2.1 j hj)), rfl, ?_⟩
          refine px_go hX ?_
          have hr : of_look σ x y = (0, cs_bf σ j 2, σ) := by
            unfold of_look
            rw [hx, cs_xq_s hc hj]
            exact (if_neg (fun q => q.elim c1 (fun q => q c2))).trans (congrArg (fun z => ((0, z, σ) : cs_R)) (((if_neg c3).trans (if_neg c4)).trans (if_pos c5)))
          rw [hr]
          exact ⟨rfl, rfl, Ca.of hR hc⟩
        · have c3 : ¬ y = (0 : Int32) := c3
          have c4 : ¬ y = (1 : Int32) := c4
          have c5 : ¬ y = (2 : Int32) := c5
          iterate 2 refine px_go hX ?_
          refine ⟨_, _, (hR.1 _ _ (hc.2.2.2.1 j hj)), rfl, ?_⟩
          refine px_go hX ?_
          have hr : of_look σ x y = (0, cs_bf σ j 3, σ) := by
            unfold of_look
            rw [hx, cs_xq_s hc hj]
            exact (if_neg (fun q => q.elim c1 (fun q => q c2))).trans (congrArg (fun z => ((0, z, σ) : cs_R)) (((if_neg c3).trans (if_neg c4)).trans (if_neg c5)))
          rw [hr]
          exact ⟨rfl, rfl, Ca.of hR hc⟩
      · refine px_go hX ?_
        have hr : of_look σ x y = (1, 0, σ) := by
          unfold of_look
          rw [hx, cs_xq_s hc hj]
          exact if_pos (Or.inr c2)
        refine ⟨Nat.le_refl 1, Nat.le_refl 6, rfl, ?_⟩
        rw [hr]
        exact ⟨Or.inr (Or.inr ⟨rfl, rfl⟩), Ca.of hR hc⟩
  · iterate 4 refine px_go hX ?_
    have hr : of_look σ x y = (1, 0, σ) := by
      unfold of_look
      rw [cs_xq_n hx]
    refine ⟨Nat.le_refl 1, Nat.le_refl 6, rfl, ?_⟩
    rw [hr]
    exact ⟨Or.inr (Or.inr ⟨rfl, rfl⟩), Ca.of hR hc⟩
def of_move (σ : ck_S) (x y z : Int32) : cs_R := match cs_bq σ x with
  | none => (1, 0, σ)
  | some b => if ¬ (¬ cs_yf σ b 0 = 0 ∧ ¬ y < 0 ∧ ¬ cs_yf σ b 1 ≤ y ∧ ¬ 12 ≤ y) ∨ z < 0 ∨ ¬ z ≤ 3 then (1, 0, σ) else (0, if z = 0 then cs_ya σ b 0 y.toNatClampNeg else if z = 1 then cs_ya σ b 1 y.toNatClampNeg else if z = 2 then cs_ya σ b 2 y.toNatClampNeg else if cs_yf σ b 2 ≤ y then 0 else 1, σ)
theorem cc_move (hR : Rp ad K C) (hc : Cl ad σ K) (x y z : Int32) : px_W ps_Y ps_P B sc (d + 2) 30 [.ref (ad 0), .int x, .int y, .int z] C 1 6 (px_oC ad K (of_move σ x y z)) (px_oT ad K (of_move σ x y z)) := by
  have h0 := hR.1 0 _ hc.1.1
  have hn := hc.2.2.2.2.2.2.2.2.2
  refine ⟨pm_Mo_move, rfl, Nat.le_of_ble_eq_true rfl, fun X hw hX => ?_⟩
  iterate 3 refine px_go hX ?_
  refine ⟨_, h0, 0, 0, _, Nat.le_of_ble_eq_true rfl, Nat.le_of_ble_eq_true rfl, Nat.le_of_ble_eq_true rfl, cc_bayAt hR hc _, ?_⟩
  rintro _ C ⟨rfl, ⟨b, hb, hx, rfl⟩ | ⟨hx, rfl⟩⟩
  · iterate 6 refine px_go hX ?_
    refine ⟨_, (hR.1 _ _ (hc.2.2.1 b hb).1), 0, 0, _, Nat.le_of_ble_eq_true rfl, Nat.le_of_ble_eq_true rfl, Nat.le_of_ble_eq_true rfl, cc_hasMove hR hc hb _, ?_⟩
    rintro _ C ⟨rfl, ⟨b1, rfl⟩ | ⟨b1, rfl⟩⟩
    · refine px_go hX ?_
      refine ⟨fun (c2 : 1 = 0) => absurd c2 (by decide), fun (c2 : ¬ 1 = 0) => ?_⟩
      iterate 2 refine px_go hX ?_
      refine ⟨fun (c3 : z < 0) => ?_, fun (c3 : ¬ z < 0) => ?_⟩
      · refine px_go hX ?_
        have hr : of_move σ x y z = (1, 0, σ) := by
          unfold of_move
          rw [hx, cs_bq_s hc hb]
          exact if_pos (Or.inr (Or.inl c3))
        refine ⟨Nat.le_refl 1, Nat.le_refl 6, rfl, ?_⟩
        rw [hr]
        exact ⟨Or.inr (Or.inr ⟨rfl, rfl⟩), Ca.of hR hc⟩
      · iterate 3 refine px_go hX ?_
        refine ⟨fun (c4 : z ≤ (3 : Int32)) => ?_, fun (c4 : ¬ z ≤ (3 : Int32)) => ?_⟩
        · iterate 2 refine px_go hX ?_
          refine ⟨fun c5 => ?_, fun c5 => ⟨fun c6 => ?_, fun c6 => ⟨fun c7 => ?_, fun c7 => ?_⟩⟩⟩
          · have c5 : z = (0 : Int32) := c5
            iterate 2 refine px_go hX ?_
            refine ⟨_, _, (hR.1 _ _ (hc.2.2.1 b hb).1), rfl, ?_⟩
            iterate 2 refine px_go hX ?_
            refine ⟨_, _, (hR.1 _ _ (hc.2.2.1 b hb).2.1), (by rcases px_ixx y 12 (by omega) with ⟨i, hi, rfl⟩ | h | h; exact vp_in_nI hi (by omega); exact absurd h b1.2.1; exact absurd h b1.2.2.2), ?_⟩
            refine px_go hX ?_
            have hr : of_move σ x y z = (0, cs_ya σ b 0 y.toNatClampNeg, σ) := by
              unfold of_move
              rw [hx, cs_bq_s hc hb]
              exact (if_neg (fun q => q.elim (fun q => q b1) (fun q => q.elim c3 (fun q => q c4)))).trans (congrArg (fun z => ((0, z, σ) : cs_R)) (if_pos c5))
            rw [hr]
            exact ⟨rfl, rfl, Ca.of hR hc⟩
          · have c5 : ¬ z = (0 : Int32) := c5
            have c6 : z = (1 : Int32) := c6
            iterate 2 refine px_go hX ?_
            refine ⟨_, _, (hR.1 _ _ (hc.2.2.1 b hb).1), rfl, ?_⟩
            iterate 2 refine px_go hX ?_
            refine ⟨_, _, (hR.1 _ _ (hc.2.2.1 b hb).2.2.1), (by rcases px_ixx y 12 (by omega) with ⟨i, hi, rfl⟩ | h | h; exact vp_in_nI hi (by omega); exact absurd h b1.2.1; exact absurd h b1.2.2.2), ?_⟩
            refine px_go hX ?_
            have hr : of_move σ x y z = (0, cs_ya σ b 1 y.toNatClampNeg, σ) := by
              unfold of_move
              rw [hx, cs_bq_s hc hb]
              exact (if_neg (fun q => q.elim (fun q => q b1) (fun q => q.elim c3 (fun q => q c4)))).trans (congrArg (fun z => ((0, z, σ) : cs_R)) ((if_neg c5).trans (if_pos c6)))
            rw [hr]
            exact ⟨rfl, rfl, Ca.of hR hc⟩
          · have c5 : ¬ z = (0 : Int32) := c5
            have c6 : ¬ z = (1 : Int32) := c6
            have c7 : z = (2 : Int32) := c7
            iterate 2 refine px_go hX ?_
            refine ⟨_, _, (hR.1 _ _ (hc.2.2.1 b hb).1), rfl, ?_⟩
            iterate 2 refine px_go hX ?_
            refine ⟨_, _, (hR.1 _ _ (hc.2.2.1 b hb).2.2.2), (by rcases px_ixx y 12 (by omega) with ⟨i, hi, rfl⟩ | h | h; exact vp_in_nI hi (by omega); exact absurd h b1.2.1; exact absurd h b1.2.2.2), ?_⟩
            refine px_go hX ?_
            have hr : of_move σ x y z = (0, cs_ya σ b 2 y.toNatClampNeg, σ) := by
              unfold of_move
              rw [hx, cs_bq_s hc hb]
              exact (if_neg (fun q => q.elim (fun q => q b1) (fun q => q.elim c3 (fun q => q c4)))).trans (congrArg (fun z => ((0, z, σ) : cs_R)) (((if_neg c5).trans (if_neg c6)).trans (if_pos c7)))
            rw [hr]
            exact ⟨rfl, rfl, Ca.of hR hc⟩
          · have c5 : ¬ z = (0 : Int32) := c5
            have c6 : ¬ z = (1 : Int32) := c6
            have c7 : ¬ z = (2 : Int32) := c7
            iterate 3 refine px_go hX ?_
            refine ⟨_, _, (hR.1 _ _ (hc.2.2.1 b hb).1), rfl, ?_⟩
            refine px_go hX ?_
            refine ⟨fun (c8 : cs_yf σ b 2 ≤ y) => ?_, fun (c8 : ¬ cs_yf σ b 2 ≤ y) => ?_⟩
            · iterate 2 refine px_go hX ?_
              have hr : of_move σ x y z = (0, (0 : Int32), σ) := by
                unfold of_move
                rw [hx, cs_bq_s hc hb]
                exact (if_neg (fun q => q.elim (fun q => q b1) (fun q => q.elim c3 (fun q => q c4)))).trans (congrArg (fun z => ((0, z, σ) : cs_R)) ((((if_neg c5).trans (if_neg c6)).trans (if_neg c7)).trans (if_pos c8)))
              rw [hr]
              exact ⟨rfl, rfl, Ca.of hR hc⟩
            · iterate 3 refine px_go hX ?_
              have hr : of_move σ x y z = (0, (1 : Int32), σ) := by
                unfold of_move
                rw [hx, cs_bq_s hc hb]
                exact (if_neg (fun q => q.elim (fun q => q b1) (fun q => q.elim c3 (fun q => q c4)))).trans (congrArg (fun z => ((0, z, σ) : cs_R)) ((((if_neg c5).trans (if_neg c6)).trans (if_neg c7)).trans (if_neg c8)))
              rw [hr]
              exact ⟨rfl, rfl, Ca.of hR hc⟩
        · refine px_go hX ?_
          have hr : of_move σ x y z = (1, 0, σ) := by
            unfold of_move
            rw [hx, cs_bq_s hc hb]
            exact if_pos (Or.inr (Or.inr c4))
          refine ⟨Nat.le_refl 1, Nat.le_refl 6, rfl, ?_⟩
          rw [hr]
          exact ⟨Or.inr (Or.inr ⟨rfl, rfl⟩), Ca.of hR hc⟩
    · refine px_go hX ?_
      refine ⟨fun (c9 : 0 = 0) => ?_, fun (c9 : ¬ 0 = 0) => absurd rfl c9⟩
      refine px_go hX ?_
      have hr : of_move σ x y z = (1, 0, σ) := by
        unfold of_move
        rw [hx, cs_bq_s hc hb]
        exact if_pos (Or.inl b1)
      refine ⟨Nat.le_refl 1, Nat.le_refl 6, rfl, ?_⟩
      rw [hr]
      exact ⟨Or.inr (Or.inr ⟨rfl, rfl⟩), Ca.of hR hc⟩
  · iterate 4 refine px_go hX ?_
    have hr : of_move σ x y z = (1, 0, σ) := by
      unfold of_move
      rw [cs_bq_n hx]
    refine ⟨Nat.le_refl 1, Nat.le_refl 6, rfl, ?_⟩
    rw [hr]
    exact ⟨Or.inr (Or.inr ⟨rfl, rfl⟩), Ca.of hR hc⟩
end RG
