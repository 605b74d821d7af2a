/-! The reference's search: the box that a move takes, the ends, who may leave. -/
/-- the reference's boxes of the bay -/
def Mn (σ : ck_S) (ρ : rs_S) (mc : Nat) (jn : Nat → Nat) : Prop := rs_sc ρ 4 = nI mc ∧ mc ≤ 4 ∧ ∀ k, k < mc → rs_a ρ 17 k = nI (jn k) ∧ jn k < cs_n σ
theorem rsc_t {W k : Nat} (h : rsd W k = true) : rsc W (k + 1) = rsc W k + 1 := by
  show (bif rsd W k then rsc W k + 1 else rsc W k) = _
  rw [h]
  rfl
theorem rsc_f {W k : Nat} (h : ¬ rsd W k = true) : rsc W (k + 1) = rsc W k := by
  show (bif rsd W k then rsc W k + 1 else rsc W k) = _
  rw [Bool.not_eq_true] at h
  rw [h]
  rfl
theorem rtj_t {W l k : Nat} (h0 : rtj W l k = 0) (h : rsd W k = true) (h2 : rsc W k = l) : rtj W l (k + 1) = k + 1 := by
  show (bif !Nat.beq (rtj W l k) 0 then rtj W l k else bif rsd W k && Nat.beq (rsc W k) l then k + 1 else 0) = _
  simp [nbd, h0, h, h2]
theorem rtj_f {W l k : Nat} (h0 : rtj W l k = 0) (h : ¬ (rsd W k = true ∧ rsc W k = l)) : rtj W l (k + 1) = 0 := by
  show (bif !Nat.beq (rtj W l k) 0 then rtj W l k else bif rsd W k && Nat.beq (rsc W k) l then k + 1 else 0) = _
  by_cases q : rsd W k = true
  · have q2 : ¬ rsc W k = l := fun w => h ⟨q, w⟩
    simp [nbd, h0, q2]
  · simp [nbd, h0, q]
theorem rtj_k {W l k : Nat} (h0 : ¬ rtj W l k = 0) : ∀ m, k ≤ m → rtj W l m = rtj W l k := by
  intro m hm
  induction m with
  | zero => rw [Nat.le_zero.mp hm]
  | succ m ih =>
    rcases Nat.lt_or_ge k (m + 1) with q | q
    · have e := ih (by omega)
      show (bif !Nat.beq (rtj W l m) 0 then rtj W l m else bif rsd W m && Nat.beq (rsc W m) l then m + 1 else 0) = _
      rw [e]
      simp [nbd, h0]
    · rw [show k = m + 1 by omega]
theorem rtk_hi {n t W f : Nat} (h : ¬ f < 3) : rtk n t W f = rtj W (f - 3) n := by
  unfold rtk
  rw [nld, decide_eq_false h]
  rfl
theorem rtk_lo {n t W f : Nat} (h : f < 3) : rtk n t W f = if rtop W f t = 0 then 0 else rat W f (rtop W f t - 1) := by
  unfold rtk
  rw [nld, decide_eq_true h, nbd]
  by_cases q : rtop W f t = 0
  · rw [if_pos q, decide_eq_true q]
    rfl
  · rw [if_neg q, decide_eq_false q]
    rfl
section SK
variable {B : Nat} {sc : Option (Nat × Nat × (Nat → Int32))} {d : Nat} {ad : Nat → Nat} {σ : ck_S} {ρ : rs_S} {K : rp_K} {C : px_P}
theorem rr_at2 {W s i : Nat} (hW : W < 2 ^ 62) (hs3 : s < 3) (hi : i < 4) (r : Nat) {x : Int32} (hx : x = nI i) : px_W ps_Y ps_P B sc (d + 1) 73 [.ref r, .long (lN W), .int (nI s), .int x] C 0 0 (fun v C' => C' = C ∧ v = some (.int (nI (rat W s i) - 1))) px_no := by
  subst hx
  exact rr_at hW hs3 hi r
theorem ie_sub0 (m : Nat) : nI m - (0 : Int32) = nI m := by
  have := pk_sub (a := m) (b := 0) (Nat.zero_le m)
  exact this
theorem rr_taken (hR : Rp ad K C) (hr : Rl ad ρ K) (hs : Sim σ ρ) {mc : Nat} {jn : Nat → Nat} (hM : Mn σ ρ mc jn) {W f : Nat} (hW : W < 2 ^ 62) (hf : f < 7) (hti : cs_ti σ ≤ 4) : px_W ps_Y ps_P B sc (d + 3) 75 [.ref (ad 100), .long (lN W), .int (nI f)] C 0 0 (fun v C' => C' = C ∧ v = some (.int (nI (rtk mc (cs_ti σ) W f) - 1))) px_no := by
  obtain ⟨p, fs, fa, fw⟩ := ρ
  obtain rfl : p = σ.1 := hs.1.1
  have hmc : fs 4 = nI mc := hM.1
  have hm4 := hM.2.1
  refine ⟨pm_Ref_taken, rfl, Nat.le_of_ble_eq_true rfl, fun X hw hX => ?_⟩
  iterate 3 refine px_go hX ?_
  refine ⟨fun (c1 : (3 : Int32) ≤ nI f) => ?_, fun (c1 : ¬ (3 : Int32) ≤ nI f) => ?_⟩
  · have h3 : ¬ f < 3 := fun w => nI_ge w (by omega) c1
    have hfs : nI f - 3 = nI (f - 3) := pk_sub (b := 3) (by omega)
    iterate 6 refine px_go hX ?_
    have loop : ∀ kk i, i + kk = mc → rtj W (f - 3) i = 0 ∧ rsc W i ≤ f - 3 → X (41, [(0, .ref (ad 100)), (1, .long (lN W)), (3, .int (nI f)), (4, .int (nI (f - 3 - rsc W i))), (5, .int (nI i))], [], C, 0, 0) := by
      intro kk
      induction kk with
      | zero =>
        intro i hi hq
        have hlt : i = mc := hi
        have hl0 : nI (f - 3 - rsc W i) = 0 → rsc W i = f - 3 := fun w => by
          have := (nI_eq (a := f - 3 - rsc W i) (b := 0) (by omega) (by omega)).mp w
          have := hq.2
          omega
        iterate 3 refine px_go hX ?_
        refine ⟨_, _, (hR.1 100 _ hr.1), rfl, ?_⟩
        refine px_go hX ?_
        refine ⟨fun (c2 : fs 4 ≤ nI i) => ?_, fun (c2 : ¬ fs 4 ≤ nI i) => absurd (by rw [hmc]; exact nI_le (by omega) (by omega)) c2⟩
        iterate 2 refine px_go hX ?_
        exact ⟨rfl, by rw [rtk_hi h3, ← hlt, hq.1]; rfl⟩
      | succ kk ih =>
        intro i hi hq
        have hlt : i < mc := by omega
        have hl0 : nI (f - 3 - rsc W i) = 0 → rsc W i = f - 3 := fun w => by
          have := (nI_eq (a := f - 3 - rsc W i) (b := 0) (by omega) (by omega)).mp w
          have := hq.2
          omega
        iterate 3 refine px_go hX ?_
        refine ⟨_, _, (hR.1 100 _ hr.1), rfl, ?_⟩
        refine px_go hX ?_
        refine ⟨fun (c3 : fs 4 ≤ nI i) => absurd c3 (by rw [hmc]; exact nI_ge hlt (by omega)), fun (c3 : ¬ fs 4 ≤ nI i) => ?_⟩
        iterate 3 refine px_go hX ?_
        refine ⟨Nat.le_of_ble_eq_true rfl, 0, 0, _, Nat.le_of_ble_eq_true rfl, Nat.le_of_ble_eq_true rfl, Nat.le_of_ble_eq_true rfl, rr_isAside hW (by omega), ?_⟩
        rintro _ C ⟨rfl, ⟨b4, rfl⟩ | ⟨b4, rfl⟩⟩
        · refine px_go hX ?_
          refine ⟨fun (c5 : 1 = 0) => absurd c5 (by decide), fun (c5 : ¬ 1 = 0) => ?_⟩
          iterate 2 refine px_go hX ?_
          refine ⟨fun (c6 : ¬ nI (f - 3 - rsc W i) = 0) => ?_, fun (c6 : nI (f - 3 - rsc W i) = 0) => ?_⟩
          · have hlf : rsc W i < f - 3 := by
              rcases Nat.lt_or_ge (rsc W i) (f - 3) with q | q
              · exact q
              · exact absurd (by rw [show f - 3 - rsc W i = 0 by omega]; rfl) c6
            iterate 4 refine px_go hX ?_
            refine ⟨Nat.le_of_ble_eq_true rfl, 0, 0, _, Nat.le_of_ble_eq_true rfl, Nat.le_of_ble_eq_true rfl, Nat.le_of_ble_eq_true rfl, rr_isAside hW (by omega), ?_⟩
            rintro _ C ⟨rfl, ⟨b7, rfl⟩ | ⟨b7, rfl⟩⟩
            · refine px_go hX ?_
              refine ⟨fun (c8 : 1 = 0) => absurd c8 (by decide), fun (c8 : ¬ 1 = 0) => ?_⟩
              iterate 6 refine px_go hX ?_
              exact px_lw hw [(0, .ref (ad 100)), (1, .long (lN W)), (3, .int (nI f)), (4, .int (nI (f - 3 - rsc W (i + 1)))), (5, .int (nI (i + 1)))] (ih (i + 1) (by omega) ⟨rtj_f hq.1 (fun w => by have := w.2; omega), by rw [rsc_t b4]; exact hlf⟩) ⟨rfl, rfl, rfl, (congrArg (fun z => some (Value.int z)) (by rw [rsc_t b4, show f - 3 - rsc W i = f - 3 - (rsc W i + 1) + 1 by have := hlf; omega]; exact nI_pred _)), (congrArg (fun z => some (Value.int z)) (nI_succ _).symm), trivial⟩
            · exact absurd b4 b7
          · iterate 2 refine px_go hX ?_
            exact ⟨rfl, by rw [rtk_hi h3, rtj_k (k := i + 1) (by rw [rtj_t hq.1 b4 (hl0 c6)]; omega) _ (by omega), rtj_t hq.1 b4 (hl0 c6), nI_pred]⟩
        · refine px_go hX ?_
          refine ⟨fun (c9 : 0 = 0) => ?_, fun (c9 : ¬ 0 = 0) => absurd rfl c9⟩
          iterate 4 refine px_go hX ?_
          refine ⟨Nat.le_of_ble_eq_true rfl, 0, 0, _, Nat.le_of_ble_eq_true rfl, Nat.le_of_ble_eq_true rfl, Nat.le_of_ble_eq_true rfl, rr_isAside hW (by omega), ?_⟩
          rintro _ C ⟨rfl, ⟨b10, rfl⟩ | ⟨b10, rfl⟩⟩
          · exact absurd b10 b4
          · refine px_go hX ?_
            refine ⟨fun (c11 : 0 = 0) => ?_, fun (c11 : ¬ 0 = 0) => absurd rfl c11⟩
            iterate 5 refine px_go hX ?_
            exact px_lw hw [(0, .ref (ad 100)), (1, .long (lN W)), (3, .int (nI f)), (4, .int (nI (f - 3 - rsc W (i + 1)))), (5, .int (nI (i + 1)))] (ih (i + 1) (by omega) ⟨rtj_f hq.1 (fun w => b4 w.1), by rw [rsc_f b4]; exact hq.2⟩) ⟨rfl, rfl, rfl, (congrArg (fun z => some (Value.int z)) (by rw [rsc_f b4]; exact ie_sub0 _)), (congrArg (fun z => some (Value.int z)) (nI_succ _).symm), trivial⟩
    exact px_lw hw [(0, .ref (ad 100)), (1, .long (lN W)), (3, .int (nI f)), (4, .int (nI (f - 3 - rsc W 0))), (5, .int (nI 0))] (loop (mc - 0) 0 (by omega) ⟨rfl, Nat.zero_le _⟩) ⟨rfl, rfl, rfl, (congrArg (fun z => some (Value.int z)) hfs), rfl, trivial⟩
  · have h3 : f < 3 := Nat.lt_of_not_le (fun w => c1 (nI_le w (by omega)))
    iterate 4 refine px_go hX ?_
    refine ⟨_, (hR.1 100 _ hr.1), 0, 0, _, Nat.le_of_ble_eq_true rfl, Nat.le_of_ble_eq_true rfl, Nat.le_of_ble_eq_true rfl, rr_top hR hr hs hW h3 hti, ?_⟩
    rintro _ C ⟨rfl, rfl⟩
    refine px_go hX ?_
    refine ⟨fun (c12 : ¬ nI (rtop W f (cs_ti σ)) = 0) => ?_, fun (c12 : nI (rtop W f (cs_ti σ)) = 0) => ?_⟩
    · iterate 7 refine px_go hX ?_
      refine ⟨_, (hR.1 100 _ hr.1), 0, 0, _, Nat.le_of_ble_eq_true rfl, Nat.le_of_ble_eq_true rfl, Nat.le_of_ble_eq_true rfl, rr_top hR hr hs hW h3 hti, ?_⟩
      rintro _ C ⟨rfl, rfl⟩
      iterate 3 refine px_go hX ?_
      refine ⟨_, (hR.1 100 _ hr.1), 0, 0, _, Nat.le_of_ble_eq_true rfl, Nat.le_of_ble_eq_true rfl, Nat.le_of_ble_eq_true rfl, rr_at2 (i := rtop W f (cs_ti σ) - 1) hW h3 (by have := rtop_le W f (cs_ti σ); omega) _ (by rw [show rtop W f (cs_ti σ) = rtop W f (cs_ti σ) - 1 + 1 from (Nat.sub_add_cancel (Nat.pos_of_ne_zero (fun w => c12 (by rw [w]; rfl)))).symm]; exact nI_pred _), ?_⟩
      rintro _ C ⟨rfl, rfl⟩
      refine px_go hX ?_
      exact ⟨rfl, by rw [rtk_lo h3, if_neg (fun w => c12 (by rw [w]; rfl))]⟩
    · iterate 3 refine px_go hX ?_
      exact ⟨rfl, by rw [rtk_lo h3, if_pos ((nI_eq (a := rtop W f (cs_ti σ)) (b := 0) (Nat.lt_of_le_of_lt (rtop_le _ _ _) (by omega)) (by decide)).mp c12)]; rfl⟩
theorem rr_taken2 (hR : Rp ad K C) (hr : Rl ad ρ K) (hs : Sim σ ρ) {mc : Nat} {jn : Nat → Nat} (hM : Mn σ ρ mc jn) {W f : Nat} (hW : W < 2 ^ 62) (hf : f < 7) (hti : cs_ti σ ≤ 4) : px_W ps_Y ps_P B sc (d + 3) 75 [.ref (ad 100), .long (lN W), .int (nI f)] C 0 0 (fun v C' => C' = C ∧ ((rtk mc (cs_ti σ) W f = 0 ∧ v = some (.int (-1))) ∨ ∃ k, rtk mc (cs_ti σ) W f = k + 1 ∧ v = some (.int (nI k)))) px_no := by
  refine px_Wp (rr_taken hR hr hs hM hW hf hti) ?_
  rintro v C2 ⟨rfl, rfl⟩
  refine ⟨rfl, ?_⟩
  cases h : rtk mc (cs_ti σ) W f with
  | zero => exact Or.inl ⟨rfl, rfl⟩
  | succ k => exact Or.inr ⟨k, rfl, by rw [nI_pred]⟩
theorem rr_isEnd (hR : Rp ad K C) (hr : Rl ad ρ K) (hs : Sim σ ρ) {mc : Nat} {jn : Nat → Nat} (hM : Mn σ ρ mc jn) (hn : cs_n σ ≤ 16) {W : Nat} (hW : W < 2 ^ 62) : px_W ps_Y ps_P B sc (d + 2) 72 [.ref (ad 100), .long (lN W)] C 0 0 (px_bo (∀ k, k < mc → (¬ rsd W k = true ∧ (¬ cs_bf σ (jn k) 0 = 0 ∨ rod W k = true))) C) px_no := by
  obtain ⟨p, fs, fa, fw⟩ := ρ
  obtain rfl : p = σ.1 := hs.1.1
  have hA1 : C (ad 101) = some (px_i 16 (fa 1)) := hR.1 101 _ (hr.2.1 1 (by decide) (by decide) (by decide))
  have hA17 : C (ad 117) = some (px_i 4 (fa 17)) := hR.1 117 _ (hr.2.1 17 (by decide) (by decide) (by decide))
  have hmc : fs 4 = nI mc := hM.1
  have hm4 := hM.2.1
  refine ⟨pm_Ref_isEnd, rfl, Nat.le_of_ble_eq_true rfl, fun X hw hX => ?_⟩
  have loop : ∀ kk i (fl : Int32), i + kk = mc → ((fl = 1 ∧ ∀ q, q < i → (¬ rsd W q = true ∧ (¬ cs_bf σ (jn q) 0 = 0 ∨ rod W q = true))) ∨ (fl = 0 ∧ ∃ q, q < i ∧ ¬ (¬ rsd W q = true ∧ (¬ cs_bf σ (jn q) 0 = 0 ∨ rod W q = true)))) → X (5, [(0, .ref (ad 100)), (1, .long (lN W)), (3, .int (fl)), (4, .int (nI i))], [], C, 0, 0) := by
    intro kk
    induction kk with
    | zero =>
      intro i fl hi hfl
      have hlt : i = mc := hi
      iterate 3 refine px_go hX ?_
      refine ⟨_, _, (hR.1 100 _ hr.1), rfl, ?_⟩
      refine px_go hX ?_
      refine ⟨fun (c1 : fs 4 ≤ nI i) => ?_, fun (c1 : ¬ fs 4 ≤ nI i) => absurd (by rw [hmc]; exact nI_le (by omega) (by omega)) c1⟩
      iterate 2 refine px_go hX ?_
      rw [hlt] at hfl
      rcases hfl with ⟨h, h2⟩ | ⟨h, q, hq, hq2⟩
      · exact ⟨Or.inr h, rfl, Or.inl ⟨h2, by rw [h]⟩⟩
      · exact ⟨Or.inl h, rfl, Or.inr ⟨fun w => hq2 (w q hq), by rw [h]⟩⟩
    | succ kk ih =>
      intro i fl hi hfl
      have hlt : i < mc := by omega
      iterate 3 refine px_go hX ?_
      refine ⟨_, _, (hR.1 100 _ hr.1), rfl, ?_⟩
      refine px_go hX ?_
      refine ⟨fun (c2 : fs 4 ≤ nI i) => absurd c2 (by rw [hmc]; exact nI_ge hlt (by omega)), fun (c2 : ¬ fs 4 ≤ nI i) => ?_⟩
      iterate 2 refine px_go hX ?_
      refine ⟨fun (c3 : fl = 0) => ?_, fun (c3 : ¬ fl = 0) => ?_⟩
      · iterate 4 refine px_go hX ?_
        exact px_lw hw [(0, .ref (ad 100)), (1, .long (lN W)), (3, .int ((0 : Int32))), (4, .int (nI (i + 1)))] (ih (i + 1) _ (by omega) (Or.inr ⟨rfl, hfl.elim (fun ⟨h, _⟩ => absurd (h.symm.trans c3) (by decide)) (fun ⟨_, q, hq, hq2⟩ => ⟨q, by omega, hq2⟩)⟩)) ⟨rfl, rfl, rfl, (congrArg (fun z => some (Value.int z)) (nI_succ _).symm), trivial⟩
      · iterate 3 refine px_go hX ?_
        refine ⟨Nat.le_of_ble_eq_true rfl, 0, 0, _, Nat.le_of_ble_eq_true rfl, Nat.le_of_ble_eq_true rfl, Nat.le_of_ble_eq_true rfl, rr_isAside hW (by omega), ?_⟩
        rintro _ C ⟨rfl, ⟨b4, rfl⟩ | ⟨b4, rfl⟩⟩
        · refine px_go hX ?_
          refine ⟨fun (c5 : ¬ 1 = 0) => ?_, fun (c5 : 1 = 0) => absurd c5 (by decide)⟩
          iterate 4 refine px_go hX ?_
          exact px_lw hw [(0, .ref (ad 100)), (1, .long (lN W)), (3, .int ((0 : Int32))), (4, .int (nI (i + 1)))] (ih (i + 1) _ (by omega) (Or.inr ⟨rfl, i, Nat.lt_succ_self i, fun w => w.1 b4⟩)) ⟨rfl, rfl, rfl, (congrArg (fun z => some (Value.int z)) (nI_succ _).symm), trivial⟩
        · refine px_go hX ?_
          refine ⟨fun (c6 : ¬ 0 = 0) => absurd rfl c6, fun (c6 : 0 = 0) => ?_⟩
          iterate 2 refine px_go hX ?_
          refine ⟨_, _, (hR.1 100 _ hr.1), rfl, ?_⟩
          iterate 2 refine px_go hX ?_
          refine ⟨_, _, (hR.1 100 _ hr.1), rfl, ?_⟩
          iterate 2 refine px_go hX ?_
          refine ⟨_, _, hA17, (vp_in_nI (by omega) (by omega)), ?_⟩
          rw [nI_clamp (by omega), show fa 17 i = nI (jn i) from (hM.2.2 i hlt).1]
          refine px_go hX ?_
          refine ⟨_, _, hA1, (vp_in_nI (by have := (hM.2.2 i hlt).2; omega) (by omega)), ?_⟩
          rw [nI_clamp (by have := (hM.2.2 i hlt).2; omega), show fa 1 (jn i) = cs_bf σ (jn i) 0 from (hs.2.1 _ (hM.2.2 i hlt).2).1]
          refine px_go hX ?_
          refine ⟨fun (c7 : ¬ cs_bf σ (jn i) 0 = 0) => ?_, fun (c7 : cs_bf σ (jn i) 0 = 0) => ?_⟩
          · iterate 5 refine px_go hX ?_
            exact px_lw hw [(0, .ref (ad 100)), (1, .long (lN W)), (3, .int ((1 : Int32))), (4, .int (nI (i + 1)))] (ih (i + 1) _ (by omega) (Or.inl ⟨rfl, pn_alls (hfl.elim (fun ⟨_, h⟩ => h) (fun ⟨h, _⟩ => absurd h c3)) ⟨b4, Or.inl c7⟩⟩)) ⟨rfl, rfl, rfl, (congrArg (fun z => some (Value.int z)) (nI_succ _).symm), trivial⟩
          · iterate 3 refine px_go hX ?_
            refine ⟨Nat.le_of_ble_eq_true rfl, 0, 0, _, Nat.le_of_ble_eq_true rfl, Nat.le_of_ble_eq_true rfl, Nat.le_of_ble_eq_true rfl, rr_isOut hW (by omega), ?_⟩
            rintro _ C ⟨rfl, ⟨b8, rfl⟩ | ⟨b8, rfl⟩⟩
            · refine px_go hX ?_
              refine ⟨fun (c9 : 1 = 0) => absurd c9 (by decide), fun (c9 : ¬ 1 = 0) => ?_⟩
              iterate 5 refine px_go hX ?_
              exact px_lw hw [(0, .ref (ad 100)), (1, .long (lN W)), (3, .int ((1 : Int32))), (4, .int (nI (i + 1)))] (ih (i + 1) _ (by omega) (Or.inl ⟨rfl, pn_alls (hfl.elim (fun ⟨_, h⟩ => h) (fun ⟨h, _⟩ => absurd h c3)) ⟨b4, Or.inr b8⟩⟩)) ⟨rfl, rfl, rfl, (congrArg (fun z => some (Value.int z)) (nI_succ _).symm), trivial⟩
            · refine px_go hX ?_
              refine ⟨fun (c10 : 0 = 0) => ?_, fun (c10 : ¬ 0 = 0) => absurd rfl c10⟩
              iterate 4 refine px_go hX ?_
              exact px_lw hw [(0, .ref (ad 100)), (1, .long (lN W)), (3, .int ((0 : Int32))), (4, .int (nI (i + 1)))] (ih (i + 1) _ (by omega) (Or.inr ⟨rfl, i, Nat.lt_succ_self i, fun w => w.2.elim (fun w => w c7) (fun w => b8 w)⟩)) ⟨rfl, rfl, rfl, (congrArg (fun z => some (Value.int z)) (nI_succ _).symm), trivial⟩
  iterate 4 refine px_go hX ?_
  exact px_lw hw [(0, .ref (ad 100)), (1, .long (lN W)), (3, .int ((1 : Int32))), (4, .int (nI 0))] (loop (mc - 0) 0 _ (by omega) (Or.inl ⟨rfl, fun q hq => absurd hq (Nat.not_lt_zero q)⟩)) ⟨rfl, rfl, rfl, rfl, trivial⟩
/-- who may leave -/
def rml (σ : ck_S) (mc : Nat) (jn : Nat → Nat) (W k : Nat) : Prop := cs_bf σ (jn k) 0 = 0 ∧ ∀ x, x < cs_n σ → (cs_need σ x (jn k) → (cs_bf σ x 2 = 3 ∨ ∃ q, q < mc ∧ jn q = x ∧ rod W q = true))
theorem rr_mayLeave (hR : Rp ad K C) (hr : Rl ad ρ K) (hs : Sim σ ρ) {mc : Nat} {jn : Nat → Nat} (hM : Mn σ ρ mc jn) (hn : cs_n σ ≤ 16) {W k : Nat} (hW : W < 2 ^ 62) (hk : k < mc) : px_W ps_Y ps_P B sc (d + 2) 76 [.ref (ad 100), .long (lN W), .int (nI k)] C 0 0 (px_bo (rml σ mc jn W k) C) px_no := by
  obtain ⟨p, fs, fa, fw⟩ := ρ
  obtain rfl : p = σ.1 := hs.1.1
  have hA1 : C (ad 101) = some (px_i 16 (fa 1)) := hR.1 101 _ (hr.2.1 1 (by decide) (by decide) (by decide))
  have hA3 : C (ad 103) = some (px_i 16 (fa 3)) := hR.1 103 _ (hr.2.1 3 (by decide) (by decide) (by decide))
  have hA5 : C (ad 105) = some (px_z 256 (fa 5)) := hR.1 105 _ (hr.2.1 5 (by decide) (by decide) (by decide))
  have hA17 : C (ad 117) = some (px_i 4 (fa 17)) := hR.1 117 _ (hr.2.1 17 (by decide) (by decide) (by decide))
  have hmc : fs 4 = nI mc := hM.1
  have hm4 := hM.2.1
  have hjk := (hM.2.2 k hk).2
  refine ⟨pm_Ref_mayLeave, rfl, Nat.le_of_ble_eq_true rfl, fun X hw hX => ?_⟩
  have loop : ∀ kkx x (fl : Int32), x + kkx = cs_n σ → ((fl = 1 ∧ cs_bf σ (jn k) 0 = 0 ∧ ∀ y, y < x → (cs_need σ y (jn k) → (cs_bf σ y 2 = 3 ∨ ∃ q, q < mc ∧ jn q = y ∧ rod W q = true))) ∨ (fl = 0 ∧ ¬ (cs_bf σ (jn k) 0 = 0 ∧ ∀ y, y < x → (cs_need σ y (jn k) → (cs_bf σ y 2 = 3 ∨ ∃ q, q < mc ∧ jn q = y ∧ rod W q = true))))) → X (24, [(0, .ref (ad 100)), (1, .long (lN W)), (3, .int (nI k)), (4, .int (fl)), (5, .int (nI x))], [], C, 0, 0) := by
    intro kkx
    induction kkx with
    | zero =>
      intro x fl hix hfl
      have hltx : x = cs_n σ := hix
      iterate 3 refine px_go hX ?_
      refine ⟨_, _, (hR.1 100 _ hr.1), rfl, ?_⟩
      refine px_go hX ?_
      refine ⟨fun (c1 : nI (cs_n σ) ≤ nI x) => ?_, fun (c1 : ¬ nI (cs_n σ) ≤ nI x) => absurd (nI_le (by omega) (by omega)) c1⟩
      iterate 2 refine px_go hX ?_
      rw [hltx] at hfl
      rcases hfl with ⟨h, h2⟩ | ⟨h, h2⟩
      · exact ⟨Or.inr h, rfl, Or.inl ⟨h2, by rw [h]⟩⟩
      · exact ⟨Or.inl h, rfl, Or.inr ⟨h2, by rw [h]⟩⟩
    | succ kkx ihx =>
      intro x fl hix hfl
      have hltx : x < cs_n σ := by omega
      iterate 3 refine px_go hX ?_
      refine ⟨_, _, (hR.1 100 _ hr.1), rfl, ?_⟩
      refine px_go hX ?_
      refine ⟨fun (c2 : nI (cs_n σ) ≤ nI x) => absurd c2 (nI_ge hltx (by omega)), fun (c2 : ¬ nI (cs_n σ) ≤ nI x) => ?_⟩
      iterate 2 refine px_go hX ?_
      refine ⟨_, _, (hR.1 100 _ hr.1), rfl, ?_⟩
      iterate 2 refine px_go hX ?_
      refine ⟨_, _, hA3, (vp_in_nI (by omega) (by omega)), ?_⟩
      rw [nI_clamp (by omega), show fa 3 x = cs_bf σ x 2 from (hs.2.1 _ hltx).2.2.1]
      iterate 2 refine px_go hX ?_
      refine ⟨fun (c3 : ¬ cs_bf σ x 2 = (3 : Int32)) => ?_, fun (c3 : cs_bf σ x 2 = (3 : Int32)) => ?_⟩
      · iterate 4 refine px_go hX ?_
        have loopi : ∀ kk i (fo : Int32), i + kk = mc → ((fo = 1 ∧ (cs_bf σ x 2 = 3 ∨ ∃ q, q < i ∧ jn q = x ∧ rod W q = true)) ∨ (fo = 0 ∧ ¬ (cs_bf σ x 2 = 3 ∨ ∃ q, q < i ∧ jn q = x ∧ rod W q = true))) → X (54, [(0, .ref (ad 100)), (1, .long (lN W)), (3, .int (nI k)), (4, .int (fl)), (5, .int (nI x)), (6, .int (fo)), (7, .int (nI i))], [], C, 0, 0) := by
          intro kk
          induction kk with
          | zero =>
            intro i fo hi hfo
            have hlt : i = mc := hi
            have hN := hs.2.2.1 x (jn k) (by omega) (by omega)
            iterate 3 refine px_go hX ?_
            refine ⟨_, _, (hR.1 100 _ hr.1), rfl, ?_⟩
            refine px_go hX ?_
            refine ⟨fun (c4 : fs 4 ≤ nI i) => ?_, fun (c4 : ¬ fs 4 ≤ nI i) => absurd (by rw [hmc]; exact nI_le (by omega) (by omega)) c4⟩
            iterate 2 refine px_go hX ?_
            refine ⟨fun (c5 : fl = 0) => ?_, fun (c5 : ¬ fl = 0) => ?_⟩
            · iterate 4 refine px_go hX ?_
              exact px_lw hw [(0, .ref (ad 100)), (1, .long (lN W)), (3, .int (nI k)), (4, .int ((0 : Int32))), (5, .int (nI (x + 1)))] (ihx (x + 1) _ (by omega) (Or.inr ⟨rfl, hfl.elim (fun ⟨h, _⟩ => absurd (h.symm.trans c5) (by decide)) (fun ⟨_, h⟩ w => h ⟨w.1, fun y hy => w.2 y (by omega)⟩)⟩)) ⟨rfl, rfl, rfl, rfl, (congrArg (fun z => some (Value.int z)) (nI_succ _).symm), trivial⟩
            · iterate 2 refine px_go hX ?_
              refine ⟨_, _, (hR.1 100 _ hr.1), rfl, ?_⟩
              iterate 5 refine px_go hX ?_
              refine ⟨_, _, (hR.1 100 _ hr.1), rfl, ?_⟩
              iterate 2 refine px_go hX ?_
              refine ⟨_, _, hA17, (vp_in_nI (by omega) (by omega)), ?_⟩
              rw [nI_clamp (by omega), show fa 17 k = nI (jn k) from (hM.2.2 k hk).1]
              iterate 2 refine px_go hX ?_
              refine ⟨_, _, hA5, (by rw [show (px_ic 16 * nI x + nI (jn k)) = nI (16 * x + jn k) from ie_16 x (jn k)]; exact vp_in_nI (by omega) (by omega)), ?_⟩
              rw [show (px_ic 16 * nI x + nI (jn k)) = nI (16 * x + jn k) from ie_16 x (jn k), nI_clamp (by omega)]
              refine px_go hX ?_
              refine ⟨fun (c6 : fa 5 (16 * x + jn k) = 0) => ?_, fun (c6 : ¬ fa 5 (16 * x + jn k) = 0) => ?_⟩
              · iterate 5 refine px_go hX ?_
                exact px_lw hw [(0, .ref (ad 100)), (1, .long (lN W)), (3, .int (nI k)), (4, .int ((1 : Int32))), (5, .int (nI (x + 1)))] (ihx (x + 1) _ (by omega) (Or.inl ⟨rfl, hfl.elim (fun ⟨_, a, b⟩ => ⟨a, pn_alls b (fun z => absurd (hN.elim (fun h => absurd (h.2.symm.trans c6) (by decide)) (fun h => h.1)) (fun h => h z))⟩) (fun ⟨h, _⟩ => absurd h c5)⟩)) ⟨rfl, rfl, rfl, rfl, (congrArg (fun z => some (Value.int z)) (nI_succ _).symm), trivial⟩
              · iterate 2 refine px_go hX ?_
                refine ⟨fun (c7 : fo = 0) => ?_, fun (c7 : ¬ fo = 0) => ?_⟩
                · iterate 4 refine px_go hX ?_
                  exact px_lw hw [(0, .ref (ad 100)), (1, .long (lN W)), (3, .int (nI k)), (4, .int ((0 : Int32))), (5, .int (nI (x + 1)))] (ihx (x + 1) _ (by omega) (Or.inr ⟨rfl, fun w => hfo.elim (fun h => absurd (h.1.symm.trans c7) (by decide)) (fun h => h.2 (hlt ▸ w.2 x (Nat.lt_succ_self x) (hN.elim (fun h => h.1) (fun h => absurd h.2 c6))))⟩)) ⟨rfl, rfl, rfl, rfl, (congrArg (fun z => some (Value.int z)) (nI_succ _).symm), trivial⟩
                · iterate 5 refine px_go hX ?_
                  exact px_lw hw [(0, .ref (ad 100)), (1, .long (lN W)), (3, .int (nI k)), (4, .int ((1 : Int32))), (5, .int (nI (x + 1)))] (ihx (x + 1) _ (by omega) (Or.inl ⟨rfl, hfl.elim (fun ⟨_, a, b⟩ => ⟨a, pn_alls b (fun _ => hfo.elim (fun h => hlt ▸ h.2) (fun h => absurd h.1 c7))⟩) (fun ⟨h, _⟩ => absurd h c5)⟩)) ⟨rfl, rfl, rfl, rfl, (congrArg (fun z => some (Value.int z)) (nI_succ _).symm), trivial⟩
          | succ kk ih =>
            intro i fo hi hfo
            have hlt : i < mc := by omega
            have hN := hs.2.2.1 x (jn k) (by omega) (by omega)
            iterate 3 refine px_go hX ?_
            refine ⟨_, _, (hR.1 100 _ hr.1), rfl, ?_⟩
            refine px_go hX ?_
            refine ⟨fun (c8 : fs 4 ≤ nI i) => absurd c8 (by rw [hmc]; exact nI_ge hlt (by omega)), fun (c8 : ¬ fs 4 ≤ nI i) => ?_⟩
            iterate 2 refine px_go hX ?_
            refine ⟨fun (c9 : ¬ fo = 0) => ?_, fun (c9 : fo = 0) => ?_⟩
            · iterate 5 refine px_go hX ?_
              exact px_lw hw [(0, .ref (ad 100)), (1, .long (lN W)), (3, .int (nI k)), (4, .int (fl)), (5, .int (nI x)), (6, .int ((1 : Int32))), (7, .int (nI (i + 1)))] (ih (i + 1) _ (by omega) (Or.inl ⟨rfl, hfo.elim (fun ⟨_, h⟩ => h.elim Or.inl (fun ⟨q, hq, h2⟩ => Or.inr ⟨q, by omega, h2⟩)) (fun ⟨h, _⟩ => absurd h c9)⟩)) ⟨rfl, rfl, rfl, rfl, rfl, rfl, (congrArg (fun z => some (Value.int z)) (nI_succ _).symm), trivial⟩
            · iterate 2 refine px_go hX ?_
              refine ⟨_, _, (hR.1 100 _ hr.1), rfl, ?_⟩
              iterate 2 refine px_go hX ?_
              refine ⟨_, _, hA17, (vp_in_nI (by omega) (by omega)), ?_⟩
              rw [nI_clamp (by omega), show fa 17 i = nI (jn i) from (hM.2.2 i hlt).1]
              iterate 2 refine px_go hX ?_
              refine ⟨fun (c10 : ¬ nI (jn i) = nI x) => ?_, fun (c10 : nI (jn i) = nI x) => ?_⟩
              · iterate 4 refine px_go hX ?_
                exact px_lw hw [(0, .ref (ad 100)), (1, .long (lN W)), (3, .int (nI k)), (4, .int (fl)), (5, .int (nI x)), (6, .int ((0 : Int32))), (7, .int (nI (i + 1)))] (ih (i + 1) _ (by omega) (Or.inr ⟨rfl, fun w => hfo.elim (fun ⟨h, _⟩ => absurd (h.symm.trans c9) (by decide)) (fun ⟨_, h⟩ => w.elim (fun w => h (Or.inl w)) (fun ⟨q, hq, h2⟩ => (Nat.lt_or_ge q i).elim (fun r => h (Or.inr ⟨q, r, h2⟩)) (fun r => by
                    obtain rfl : q = i := by omega
                    exact c10 (congrArg nI h2.1))))⟩)) ⟨rfl, rfl, rfl, rfl, rfl, rfl, (congrArg (fun z => some (Value.int z)) (nI_succ _).symm), trivial⟩
              · iterate 3 refine px_go hX ?_
                refine ⟨Nat.le_of_ble_eq_true rfl, 0, 0, _, Nat.le_of_ble_eq_true rfl, Nat.le_of_ble_eq_true rfl, Nat.le_of_ble_eq_true rfl, rr_isOut hW (by omega), ?_⟩
                rintro _ C ⟨rfl, ⟨b11, rfl⟩ | ⟨b11, rfl⟩⟩
                · refine px_go hX ?_
                  refine ⟨fun (c12 : 1 = 0) => absurd c12 (by decide), fun (c12 : ¬ 1 = 0) => ?_⟩
                  iterate 5 refine px_go hX ?_
                  exact px_lw hw [(0, .ref (ad 100)), (1, .long (lN W)), (3, .int (nI k)), (4, .int (fl)), (5, .int (nI x)), (6, .int ((1 : Int32))), (7, .int (nI (i + 1)))] (ih (i + 1) _ (by omega) (Or.inl ⟨rfl, Or.inr ⟨i, Nat.lt_succ_self i, (nI_eq (by have := (hM.2.2 i hlt).2; omega) (by omega)).mp c10, b11⟩⟩)) ⟨rfl, rfl, rfl, rfl, rfl, rfl, (congrArg (fun z => some (Value.int z)) (nI_succ _).symm), trivial⟩
                · refine px_go hX ?_
                  refine ⟨fun (c13 : 0 = 0) => ?_, fun (c13 : ¬ 0 = 0) => absurd rfl c13⟩
                  iterate 4 refine px_go hX ?_
                  exact px_lw hw [(0, .ref (ad 100)), (1, .long (lN W)), (3, .int (nI k)), (4, .int (fl)), (5, .int (nI x)), (6, .int ((0 : Int32))), (7, .int (nI (i + 1)))] (ih (i + 1) _ (by omega) (Or.inr ⟨rfl, fun w => hfo.elim (fun ⟨h, _⟩ => absurd (h.symm.trans c9) (by decide)) (fun ⟨_, h⟩ => w.elim (fun w => h (Or.inl w)) (fun ⟨q, hq, h2⟩ => (Nat.lt_or_ge q i).elim (fun r => h (Or.inr ⟨q, r, h2⟩)) (fun r => by
                      obtain rfl : q = i := by omega
                      exact b11 h2.2)))⟩)) ⟨rfl, rfl, rfl, rfl, rfl, rfl, (congrArg (fun z => some (Value.int z)) (nI_succ _).symm), trivial⟩
        exact px_lw hw [(0, .ref (ad 100)), (1, .long (lN W)), (3, .int (nI k)), (4, .int (fl)), (5, .int (nI x)), (6, .int ((0 : Int32))), (7, .int (nI 0))] (loopi (mc - 0) 0 _ (by omega) (Or.inr ⟨rfl, fun w => w.elim (fun w => c3 w) (fun ⟨q, hq, _⟩ => absurd hq (Nat.not_lt_zero q))⟩)) ⟨rfl, rfl, rfl, rfl, rfl, rfl, rfl, trivial⟩
      · iterate 5 refine px_go hX ?_
        have loopi : ∀ kk i (fo : Int32), i + kk = mc → ((fo = 1 ∧ (cs_bf σ x 2 = 3 ∨ ∃ q, q < i ∧ jn q = x ∧ rod W q = true)) ∨ (fo = 0 ∧ ¬ (cs_bf σ x 2 = 3 ∨ ∃ q, q < i ∧ jn q = x ∧ rod W q = true))) → X (54, [(0, .ref (ad 100)), (1, .long (lN W)), (3, .int (nI k)), (4, .int (fl)), (5, .int (nI x)), (6, .int (fo)), (7, .int (nI i))], [], C, 0, 0) := by
          intro kk
          induction kk with
          | zero =>
            intro i fo hi hfo
            have hlt : i = mc := hi
            have hN := hs.2.2.1 x (jn k) (by omega) (by omega)
            iterate 3 refine px_go hX ?_
            refine ⟨_, _, (hR.1 100 _ hr.1), rfl, ?_⟩
            refine px_go hX ?_
            refine ⟨fun (c14 : fs 4 ≤ nI i) => ?_, fun (c14 : ¬ fs 4 ≤ nI i) => absurd (by rw [hmc]; exact nI_le (by omega) (by omega)) c14⟩
            iterate 2 refine px_go hX ?_
            refine ⟨fun (c15 : fl = 0) => ?_, fun (c15 : ¬ fl = 0) => ?_⟩
            · iterate 4 refine px_go hX ?_
              exact px_lw hw [(0, .ref (ad 100)), (1, .long (lN W)), (3, .int (nI k)), (4, .int ((0 : Int32))), (5, .int (nI (x + 1)))] (ihx (x + 1) _ (by omega) (Or.inr ⟨rfl, hfl.elim (fun ⟨h, _⟩ => absurd (h.symm.trans c15) (by decide)) (fun ⟨_, h⟩ w => h ⟨w.1, fun y hy => w.2 y (by omega)⟩)⟩)) ⟨rfl, rfl, rfl, rfl, (congrArg (fun z => some (Value.int z)) (nI_succ _).symm), trivial⟩
            · iterate 2 refine px_go hX ?_
              refine ⟨_, _, (hR.1 100 _ hr.1), rfl, ?_⟩
              iterate 5 refine px_go hX ?_
              refine ⟨_, _, (hR.1 100 _ hr.1), rfl, ?_⟩
              iterate 2 refine px_go hX ?_
              refine ⟨_, _, hA17, (vp_in_nI (by omega) (by omega)), ?_⟩
              rw [nI_clamp (by omega), show fa 17 k = nI (jn k) from (hM.2.2 k hk).1]
              iterate 2 refine px_go hX ?_
              refine ⟨_, _, hA5, (by rw [show (px_ic 16 * nI x + nI (jn k)) = nI (16 * x + jn k) from ie_16 x (jn k)]; exact vp_in_nI (by omega) (by omega)), ?_⟩
              rw [show (px_ic 16 * nI x + nI (jn k)) = nI (16 * x + jn k) from ie_16 x (jn k), nI_clamp (by omega)]
              refine px_go hX ?_
              refine ⟨fun (c16 : fa 5 (16 * x + jn k) = 0) => ?_, fun (c16 : ¬ fa 5 (16 * x + jn k) = 0) => ?_⟩
              · iterate 5 refine px_go hX ?_
                exact px_lw hw [(0, .ref (ad 100)), (1, .long (lN W)), (3, .int (nI k)), (4, .int ((1 : Int32))), (5, .int (nI (x + 1)))] (ihx (x + 1) _ (by omega) (Or.inl ⟨rfl, hfl.elim (fun ⟨_, a, b⟩ => ⟨a, pn_alls b (fun z => absurd (hN.elim (fun h => absurd (h.2.symm.trans c16) (by decide)) (fun h => h.1)) (fun h => h z))⟩) (fun ⟨h, _⟩ => absurd h c15)⟩)) ⟨rfl, rfl, rfl, rfl, (congrArg (fun z => some (Value.int z)) (nI_succ _).symm), trivial⟩
              · iterate 2 refine px_go hX ?_
                refine ⟨fun (c17 : fo = 0) => ?_, fun (c17 : ¬ fo = 0) => ?_⟩
                · iterate 4 refine px_go hX ?_
                  exact px_lw hw [(0, .ref (ad 100)), (1, .long (lN W)), (3, .int (nI k)), (4, .int ((0 : Int32))), (5, .int (nI (x + 1)))] (ihx (x + 1) _ (by omega) (Or.inr ⟨rfl, fun w => hfo.elim (fun h => absurd (h.1.symm.trans c17) (by decide)) (fun h => h.2 (hlt ▸ w.2 x (Nat.lt_succ_self x) (hN.elim (fun h => h.1) (fun h => absurd h.2 c16))))⟩)) ⟨rfl, rfl, rfl, rfl, (congrArg (fun z => some (Value.int z)) (nI_succ _).symm), trivial⟩
                · iterate 5 refine px_go hX ?_
                  exact px_lw hw [(0, .ref (ad 100)), (1, .long (lN W)), (3, .int (nI k)), (4, .int ((1 : Int32))), (5, .int (nI (x + 1)))] (ihx (x + 1) _ (by omega) (Or.inl ⟨rfl, hfl.elim (fun ⟨_, a, b⟩ => ⟨a, pn_alls b (fun _ => hfo.elim (fun h => hlt ▸ h.2) (fun h => absurd h.1 c17))⟩) (fun ⟨h, _⟩ => absurd h c15)⟩)) ⟨rfl, rfl, rfl, rfl, (congrArg (fun z => some (Value.int z)) (nI_succ _).symm), trivial⟩
          | succ kk ih =>
            intro i fo hi hfo
            have hlt : i < mc := by omega
            have hN := hs.2.2.1 x (jn k) (by omega) (by omega)
            iterate 3 refine px_go hX ?_
            refine ⟨_, _, (hR.1 100 _ hr.1), rfl, ?_⟩
            refine px_go hX ?_
            refine ⟨fun (c18 : fs 4 ≤ nI i) => absurd c18 (by rw [hmc]; exact nI_ge hlt (by omega)), fun (c18 : ¬ fs 4 ≤ nI i) => ?_⟩
            iterate 2 refine px_go hX ?_
            refine ⟨fun (c19 : ¬ fo = 0) => ?_, fun (c19 : fo = 0) => ?_⟩
            · iterate 5 refine px_go hX ?_
              exact px_lw hw [(0, .ref (ad 100)), (1, .long (lN W)), (3, .int (nI k)), (4, .int (fl)), (5, .int (nI x)), (6, .int ((1 : Int32))), (7, .int (nI (i + 1)))] (ih (i + 1) _ (by omega) (Or.inl ⟨rfl, hfo.elim (fun ⟨_, h⟩ => h.elim Or.inl (fun ⟨q, hq, h2⟩ => Or.inr ⟨q, by omega, h2⟩)) (fun ⟨h, _⟩ => absurd h c19)⟩)) ⟨rfl, rfl, rfl, rfl, rfl, rfl, (congrArg (fun z => some (Value.int z)) (nI_succ _).symm), trivial⟩
            · iterate 2 refine px_go hX ?_
              refine ⟨_, _, (hR.1 100 _ hr.1), rfl, ?_⟩
              iterate 2 refine px_go hX ?_
              refine ⟨_, _, hA17, (vp_in_nI (by omega) (by omega)), ?_⟩
              rw [nI_clamp (by omega), show fa 17 i = nI (jn i) from (hM.2.2 i hlt).1]
              iterate 2 refine px_go hX ?_
              refine ⟨fun (c20 : ¬ nI (jn i) = nI x) => ?_, fun (c20 : nI (jn i) = nI x) => ?_⟩
              · iterate 4 refine px_go hX ?_
                exact px_lw hw [(0, .ref (ad 100)), (1, .long (lN W)), (3, .int (nI k)), (4, .int (fl)), (5, .int (nI x)), (6, .int ((0 : Int32))), (7, .int (nI (i + 1)))] (ih (i + 1) _ (by omega) (Or.inr ⟨rfl, fun w => hfo.elim (fun ⟨h, _⟩ => absurd (h.symm.trans c19) (by decide)) (fun ⟨_, h⟩ => w.elim (fun w => h (Or.inl w)) (fun ⟨q, hq, h2⟩ => (Nat.lt_or_ge q i).elim (fun r => h (Or.inr ⟨q, r, h2⟩)) (fun r => by
                    obtain rfl : q = i := by omega
                    exact c20 (congrArg nI h2.1))))⟩)) ⟨rfl, rfl, rfl, rfl, rfl, rfl, (congrArg (fun z => some (Value.int z)) (nI_succ _).symm), trivial⟩
              · iterate 3 refine px_go hX ?_
                refine ⟨Nat.le_of_ble_eq_true rfl, 0, 0, _, Nat.le_of_ble_eq_true rfl, Nat.le_of_ble_eq_true rfl, Nat.le_of_ble_eq_true rfl, rr_isOut hW (by omega), ?_⟩
                rintro _ C ⟨rfl, ⟨b21, rfl⟩ | ⟨b21, rfl⟩⟩
                · refine px_go hX ?_
                  refine ⟨fun (c22 : 1 = 0) => absurd c22 (by decide), fun (c22 : ¬ 1 = 0) => ?_⟩
                  iterate 5 refine px_go hX ?_
                  exact px_lw hw [(0, .ref (ad 100)), (1, .long (lN W)), (3, .int (nI k)), (4, .int (fl)), (5, .int (nI x)), (6, .int ((1 : Int32))), (7, .int (nI (i + 1)))] (ih (i + 1) _ (by omega) (Or.inl ⟨rfl, Or.inr ⟨i, Nat.lt_succ_self i, (nI_eq (by have := (hM.2.2 i hlt).2; omega) (by omega)).mp c20, b21⟩⟩)) ⟨rfl, rfl, rfl, rfl, rfl, rfl, (congrArg (fun z => some (Value.int z)) (nI_succ _).symm), trivial⟩
                · refine px_go hX ?_
                  refine ⟨fun (c23 : 0 = 0) => ?_, fun (c23 : ¬ 0 = 0) => absurd rfl c23⟩
                  iterate 4 refine px_go hX ?_
                  exact px_lw hw [(0, .ref (ad 100)), (1, .long (lN W)), (3, .int (nI k)), (4, .int (fl)), (5, .int (nI x)), (6, .int ((0 : Int32))), (7, .int (nI (i + 1)))] (ih (i + 1) _ (by omega) (Or.inr ⟨rfl, fun w => hfo.elim (fun ⟨h, _⟩ => absurd (h.symm.trans c19) (by decide)) (fun ⟨_, h⟩ => w.elim (fun w => h (Or.inl w)) (fun ⟨q, hq, h2⟩ => (Nat.lt_or_ge q i).elim (fun r => h (Or.inr ⟨q, r, h2⟩)) (fun r => by
                      obtain rfl : q = i := by omega
                      exact b21 h2.2)))⟩)) ⟨rfl, rfl, rfl, rfl, rfl, rfl, (congrArg (fun z => some (Value.int z)) (nI_succ _).symm), trivial⟩
        exact px_lw hw [(0, .ref (ad 100)), (1, .long (lN W)), (3, .int (nI k)), (4, .int (fl)), (5, .int (nI x)), (6, .int ((1 : Int32))), (7, .int (nI 0))] (loopi (mc - 0) 0 _ (by omega) (Or.inl ⟨rfl, Or.inl c3⟩)) ⟨rfl, rfl, rfl, rfl, rfl, rfl, rfl, trivial⟩
  iterate 2 refine px_go hX ?_
  refine ⟨_, _, (hR.1 100 _ hr.1), rfl, ?_⟩
  iterate 2 refine px_go hX ?_
  refine ⟨_, _, (hR.1 100 _ hr.1), rfl, ?_⟩
  iterate 2 refine px_go hX ?_
  refine ⟨_, _, hA17, (vp_in_nI (by omega) (by omega)), ?_⟩
  rw [nI_clamp (by omega), show fa 17 k = nI (jn k) from (hM.2.2 k hk).1]
  refine px_go hX ?_
  refine ⟨_, _, hA1, (vp_in_nI (by omega) (by omega)), ?_⟩
  rw [nI_clamp (by omega), show fa 1 (jn k) = cs_bf σ (jn k) 0 from (hs.2.1 _ hjk).1]
  refine px_go hX ?_
  refine ⟨fun (c24 : ¬ cs_bf σ (jn k) 0 = 0) => ?_, fun (c24 : cs_bf σ (jn k) 0 = 0) => ?_⟩
  · iterate 4 refine px_go hX ?_
    exact px_lw hw [(0, .ref (ad 100)), (1, .long (lN W)), (3, .int (nI k)), (4, .int ((0 : Int32))), (5, .int (nI 0))] (loop (cs_n σ - 0) 0 _ (by omega) (Or.inr ⟨rfl, fun w => c24 w.1⟩)) ⟨rfl, rfl, rfl, rfl, rfl, trivial⟩
  · iterate 5 refine px_go hX ?_
    exact px_lw hw [(0, .ref (ad 100)), (1, .long (lN W)), (3, .int (nI k)), (4, .int ((1 : Int32))), (5, .int (nI 0))] (loop (cs_n σ - 0) 0 _ (by omega) (Or.inl ⟨rfl, c24, fun y hy => absurd hy (Nat.not_lt_zero y)⟩)) ⟨rfl, rfl, rfl, rfl, rfl, trivial⟩
end SK
