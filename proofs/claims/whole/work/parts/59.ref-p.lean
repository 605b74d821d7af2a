/-! The reference's plan: what it writes. -/
theorem Sim.np {σ : ck_S} {p : Nat × Nat × Nat} {fs G : Nat → Int32} {fa F : Nat → Nat → Int32} {fw fw' : Nat → Int64} (h : Sim σ (p, fs, fa, fw)) {b : Nat} (hG : ∀ q, q < 3 → 0 < q → G q = fs q) (h7 : F 7 = upd (fa 7) b 0) (hF : ∀ q, q ≤ 12 → q ≠ 7 → F q = fa q) : Sim (cs_fp σ b) (p, G, F, fw') := by
  obtain ⟨⟨h1, h1a, h1b⟩, h2, h3, h4⟩ := h
  refine ⟨⟨h1, (hG 1 (by omega) (by omega)).trans h1a, (hG 2 (by omega) (by omega)).trans h1b⟩, fun i hi => ?_, fun i l hi hl => ?_, fun c hc => ?_⟩
  · show F 1 i = _ ∧ F 2 i = _ ∧ F 3 i = _ ∧ F 4 i = _
    rw [hF 1 (by omega) (by omega), hF 2 (by omega) (by omega), hF 3 (by omega) (by omega), hF 4 (by omega) (by omega)]
    exact h2 i hi
  · show (_ ∧ F 5 _ = 1) ∨ (_ ∧ F 5 _ = 0)
    rw [hF 5 (by omega) (by omega)]
    exact h3 i l hi hl
  · obtain ⟨q1, q2, q3, q4⟩ := h4 c hc
    show F 6 c = _ ∧ F 7 c = _ ∧ (_ → F 8 c = _ ∧ F 9 c = _ ∧ ∀ i, _ → _ → F 10 _ = _ ∧ F 11 _ = _ ∧ F 12 _ = _) ∧ ∃ m d : Nat, F 8 c = _ ∧ F 9 c = _ ∧ _
    rw [h7, hF 6 (by omega) (by omega), hF 8 (by omega) (by omega), hF 9 (by omega) (by omega), hF 10 (by omega) (by omega), hF 11 (by omega) (by omega), hF 12 (by omega) (by omega)]
    by_cases hcb : c = b
    · subst hcb
      rw [pk_us]
      exact ⟨q1.trans (cs_fp_3 σ c c).symm, (cs_fp_0 σ c).symm, fun w => absurd (cs_fp_0 σ c) w, q4⟩
    · rw [pk_un hcb, cs_fp_n σ hcb]
      exact ⟨q1, q2, q3, q4⟩
theorem cs_sPl (σ : ck_S) (b : Nat) (x : Int32) (c : Nat) : cs_yf (cs_sP σ b x) c 3 = cs_yf σ c 3 := by
  show va_up (cs_yf (cs_fp σ b)) b _ c 3 = _
  by_cases h : c = b
  · subst h
    rw [va_up_self]
    exact cs_fp_3 σ c c
  · rw [va_up_ne _ _ h]
    exact cs_fp_3 σ b c
theorem cs_sPo (σ : ck_S) {b c : Nat} (x : Int32) (h : c ≠ b) : cs_yf (cs_sP σ b x) c = cs_yf σ c := by
  show va_up (cs_yf (cs_fp σ b)) b _ c = _
  rw [va_up_ne _ _ h]
  exact cs_fp_n σ h
theorem Sim.pl {σ : ck_S} {p : Nat × Nat × Nat} {fs G : Nat → Int32} {fa F : Nat → Nat → Int32} {fw fw' : Nat → Int64} (h : Sim σ (p, fs, fa, fw)) {b L : Nat} (hL : L ≤ 12) {Y : Nat → Nat → Nat → Int32} (hG : ∀ q, q < 3 → 0 < q → G q = fs q) (hF : ∀ q, q ≤ 6 → F q = fa q) (h7 : F 7 = upd (fa 7) b 1) (h8 : F 8 = upd (fa 8) b (nI L)) (h9 : F 9 = upd (fa 9) b 0)
    (hout : ∀ c i, c ≠ b → i < 12 → F 10 (40 * c + i) = fa 10 (40 * c + i) ∧ F 11 (40 * c + i) = fa 11 (40 * c + i) ∧ F 12 (40 * c + i) = fa 12 (40 * c + i)) (hin : ∀ i, i < L → F 10 (40 * b + i) = Y b 0 i ∧ F 11 (40 * b + i) = Y b 1 i ∧ F 12 (40 * b + i) = Y b 2 i) (hY : ∀ b', b' ≠ b → Y b' = cs_ya σ b') : Sim (cs_yA (cs_sP σ b (nI L)) Y) (p, G, F, fw') := by
  obtain ⟨⟨h1, h1a, h1b⟩, h2, h3, h4⟩ := h
  refine ⟨⟨h1, (hG 1 (by omega) (by omega)).trans h1a, (hG 2 (by omega) (by omega)).trans h1b⟩, fun i hi => ?_, fun i l hi hl => ?_, fun c hc => ?_⟩
  · show F 1 i = _ ∧ F 2 i = _ ∧ F 3 i = _ ∧ F 4 i = _
    rw [hF 1 (by omega), hF 2 (by omega), hF 3 (by omega), hF 4 (by omega)]
    exact h2 i hi
  · show (_ ∧ F 5 _ = 1) ∨ (_ ∧ F 5 _ = 0)
    rw [hF 5 (by omega)]
    exact h3 i l hi hl
  · obtain ⟨q1, q2, q3, q4⟩ := h4 c hc
    show F 6 c = cs_yf (cs_sP σ b (nI L)) c 3 ∧ F 7 c = cs_yf (cs_sP σ b (nI L)) c 0 ∧ (¬ cs_yf (cs_sP σ b (nI L)) c 0 = 0 → F 8 c = cs_yf (cs_sP σ b (nI L)) c 1 ∧ F 9 c = cs_yf (cs_sP σ b (nI L)) c 2 ∧ ∀ i, i < 12 → nI i < cs_yf (cs_sP σ b (nI L)) c 1 → F 10 (40 * c + i) = Y c 0 i ∧ F 11 (40 * c + i) = Y c 1 i ∧ F 12 (40 * c + i) = Y c 2 i) ∧ ∃ m d : Nat, F 8 c = nI m ∧ F 9 c = nI d ∧ d ≤ m ∧ m ≤ 12
    rw [h7, h8, h9, hF 6 (by omega), cs_sPl]
    by_cases hcb : c = b
    · subst hcb
      rw [pk_us, pk_us, pk_us, cs_sP_0, cs_sP_1, cs_sP_2]
      refine ⟨q1, rfl, fun _ => ⟨rfl, rfl, fun i hi hi2 => hin i ?_⟩, L, 0, rfl, rfl, Nat.zero_le _, hL⟩
      exact (nI_ltI (by omega) (by omega)).mp hi2
    · rw [pk_un hcb, pk_un hcb, pk_un hcb, cs_sPo σ _ hcb, hY c hcb]
      refine ⟨q1, q2, fun w => ?_, q4⟩
      obtain ⟨r1, r2, r3⟩ := q3 w
      refine ⟨r1, r2, fun i hi hi2 => ?_⟩
      obtain ⟨o1, o2, o3⟩ := hout c i hcb hi
      rw [o1, o2, o3]
      exact r3 i hi hi2
section SP
variable {B : Nat} {sc : Option (Nat × Nat × (Nat → Int32))} {d : Nat} {ad : Nat → Nat} {σ : ck_S} {ρ : rs_S} {K : rp_K} {C : px_P}
theorem rr_top0 (hR : Rp ad K C) (hr : Rl ad ρ K) (hs : (ρ.1 = σ.1 ∧ True) ∧ True) {W s : Nat} (hW : W < 2 ^ 62) (hs3 : s < 3) (hti : cs_ti σ ≤ 4) : px_W ps_Y ps_P B sc (d + 2) 74 [.ref (ad 100), .long (lN W), .int (nI s)] C 0 0 (fun v C' => C' = C ∧ v = some (.int (nI (rtop W s (cs_ti σ))))) px_no := by
  obtain ⟨p, fs, fa, fw⟩ := ρ
  obtain rfl : p = σ.1 := hs.1.1
  refine ⟨pm_Ref_top, rfl, Nat.le_of_ble_eq_true rfl, fun X hw hX => ?_⟩
  have loop : ∀ kk i, i + kk = cs_ti σ → rtop W s i = i → X (3, [(0, .ref (ad 100)), (1, .long (lN W)), (3, .int (nI s)), (4, .int (nI i))], [], C, 0, 0) := by
    intro kk
    induction kk with
    | zero =>
      intro i hi hq
      have hlt : i = cs_ti σ := hi
      iterate 3 refine px_go hX ?_
      refine ⟨_, _, (hR.1 100 _ hr.1), rfl, ?_⟩
      refine px_go hX ?_
      refine ⟨fun (c1 : nI (cs_ti σ) ≤ nI i) => ?_, fun (c1 : ¬ nI (cs_ti σ) ≤ nI i) => absurd (nI_le (by omega) (by omega)) c1⟩
      iterate 2 refine px_go hX ?_
      exact ⟨rfl, by rw [hlt] at hq ⊢; rw [hq]⟩
    | succ kk ih =>
      intro i hi hq
      have hlt : i < cs_ti σ := by omega
      iterate 3 refine px_go hX ?_
      refine ⟨_, _, (hR.1 100 _ hr.1), rfl, ?_⟩
      refine px_go hX ?_
      refine ⟨fun (c2 : nI (cs_ti σ) ≤ nI i) => absurd c2 (nI_ge hlt (by omega)), fun (c2 : ¬ nI (cs_ti σ) ≤ nI i) => ?_⟩
      iterate 5 refine px_go hX ?_
      refine ⟨_, (hR.1 100 _ hr.1), 0, 0, _, Nat.le_of_ble_eq_true rfl, Nat.le_of_ble_eq_true rfl, Nat.le_of_ble_eq_true rfl, rr_at hW hs3 (by omega) _, ?_⟩
      rintro _ C ⟨rfl, rfl⟩
      refine px_go hX ?_
      refine ⟨fun (c3 : nI (rat W s i) - 1 < 0) => ?_, fun (c3 : ¬ nI (rat W s i) - 1 < 0) => ?_⟩
      · iterate 2 refine px_go hX ?_
        exact ⟨rfl, by rw [rtop_st hq ((nI_m1n (Nat.lt_trans (rat_lt _ _ _) (by decide))).mp c3) _ (by omega)]⟩
      · iterate 2 refine px_go hX ?_
        exact px_lw hw [(0, .ref (ad 100)), (1, .long (lN W)), (3, .int (nI s)), (4, .int (nI (i + 1)))] (ih (i + 1) (by omega) (rtop_t hq (fun w => c3 ((nI_m1n (Nat.lt_trans (rat_lt _ _ _) (by decide))).mpr w)))) ⟨rfl, rfl, rfl, (congrArg (fun z => some (Value.int z)) (nI_succ _).symm), trivial⟩
  iterate 2 refine px_go hX ?_
  exact px_lw hw [(0, .ref (ad 100)), (1, .long (lN W)), (3, .int (nI s)), (4, .int (nI 0))] (loop (cs_ti σ - 0) 0 (by omega) rfl) ⟨rfl, rfl, rfl, rfl, trivial⟩
theorem rr_taken0 (hR : Rp ad K C) (hr : Rl ad ρ K) (hs : (ρ.1 = σ.1 ∧ True) ∧ True) {mc : Nat} {jn : Nat → Nat} (hM : Mn σ ρ mc jn) {W f : Nat} (hW : W < 2 ^ 62) (hf : f < 7) (hti : cs_ti σ ≤ 4) : px_W ps_Y ps_P B sc (d + 3) 75 [.ref (ad 100), .long (lN W), .int (nI f)] C 0 0 (fun v C' => C' = C ∧ v = some (.int (nI (rtk mc (cs_ti σ) W f) - 1))) px_no := by
  obtain ⟨p, fs, fa, fw⟩ := ρ
  obtain rfl : p = σ.1 := hs.1.1
  have hmc : fs 4 = nI mc := hM.1
  have hm4 := hM.2.1
  refine ⟨pm_Ref_taken, rfl, Nat.le_of_ble_eq_true rfl, fun X hw hX => ?_⟩
  iterate 3 refine px_go hX ?_
  refine ⟨fun (c1 : (3 : Int32) ≤ nI f) => ?_, fun (c1 : ¬ (3 : Int32) ≤ nI f) => ?_⟩
  · have h3 : ¬ f < 3 := fun w => nI_ge w (by omega) c1
    have hfs : nI f - 3 = nI (f - 3) := pk_sub (b := 3) (by omega)
    iterate 6 refine px_go hX ?_
    have loop : ∀ kk i, i + kk = mc → rtj W (f - 3) i = 0 ∧ rsc W i ≤ f - 3 → X (41, [(0, .ref (ad 100)), (1, .long (lN W)), (3, .int (nI f)), (4, .int (nI (f - 3 - rsc W i))), (5, .int (nI i))], [], C, 0, 0) := by
      intro kk
      induction kk with
      | zero =>
        intro i hi hq
        have hlt : i = mc := hi
        have hl0 : nI (f - 3 - rsc W i) = 0 → rsc W i = f - 3 := fun w => by
          have := (nI_eq (a := f - 3 - rsc W i) (b := 0) (by omega) (by omega)).mp w
          have := hq.2
          omega
        iterate 3 refine px_go hX ?_
        refine ⟨_, _, (hR.1 100 _ hr.1), rfl, ?_⟩
        refine px_go hX ?_
        refine ⟨fun (c2 : fs 4 ≤ nI i) => ?_, fun (c2 : ¬ fs 4 ≤ nI i) => absurd (by rw [hmc]; exact nI_le (by omega) (by omega)) c2⟩
        iterate 2 refine px_go hX ?_
        exact ⟨rfl, by rw [rtk_hi h3, ← hlt, hq.1]; rfl⟩
      | succ kk ih =>
        intro i hi hq
        have hlt : i < mc := by omega
        have hl0 : nI (f - 3 - rsc W i) = 0 → rsc W i = f - 3 := fun w => by
          have := (nI_eq (a := f - 3 - rsc W i) (b := 0) (by omega) (by omega)).mp w
          have := hq.2
          omega
        iterate 3 refine px_go hX ?_
        refine ⟨_, _, (hR.1 100 _ hr.1), rfl, ?_⟩
        refine px_go hX ?_
        refine ⟨fun (c3 : fs 4 ≤ nI i) => absurd c3 (by rw [hmc]; exact nI_ge hlt (by omega)), fun (c3 : ¬ fs 4 ≤ nI i) => ?_⟩
        iterate 3 refine px_go hX ?_
        refine ⟨Nat.le_of_ble_eq_true rfl, 0, 0, _, Nat.le_of_ble_eq_true rfl, Nat.le_of_ble_eq_true rfl, Nat.le_of_ble_eq_true rfl, rr_isAside hW (by omega), ?_⟩
        rintro _ C ⟨rfl, ⟨b4, rfl⟩ | ⟨b4, rfl⟩⟩
        · refine px_go hX ?_
          refine ⟨fun (c5 : 1 = 0) => absurd c5 (by decide), fun (c5 : ¬ 1 = 0) => ?_⟩
          iterate 2 refine px_go hX ?_
          refine ⟨fun (c6 : ¬ nI (f - 3 - rsc W i) = 0) => ?_, fun (c6 : nI (f - 3 - rsc W i) = 0) => ?_⟩
          · have hlf : rsc W i < f - 3 := by
              rcases Nat.lt_or_ge (rsc W i) (f - 3) with q | q
              · exact q
              · exact absurd (by rw [show f - 3 - rsc W i = 0 by omega]; rfl) c6
            iterate 4 refine px_go hX ?_
            refine ⟨Nat.le_of_ble_eq_true rfl, 0, 0, _, Nat.le_of_ble_eq_true rfl, Nat.le_of_ble_eq_true rfl, Nat.le_of_ble_eq_true rfl, rr_isAside hW (by omega), ?_⟩
            rintro _ C ⟨rfl, ⟨b7, rfl⟩ | ⟨b7, rfl⟩⟩
            · refine px_go hX ?_
              refine ⟨fun (c8 : 1 = 0) => absurd c8 (by decide), fun (c8 : ¬ 1 = 0) => ?_⟩
              iterate 6 refine px_go hX ?_
              exact px_lw hw [(0, .ref (ad 100)), (1, .long (lN W)), (3, .int (nI f)), (4, .int (nI (f - 3 - rsc W (i + 1)))), (5, .int (nI (i + 1)))] (ih (i + 1) (by omega) ⟨rtj_f hq.1 (fun w => by have := w.2; omega), by rw [rsc_t b4]; exact hlf⟩) ⟨rfl, rfl, rfl, (congrArg (fun z => some (Value.int z)) (by rw [rsc_t b4, show f - 3 - rsc W i = f - 3 - (rsc W i + 1) + 1 by have := hlf; omega]; exact nI_pred _)), (congrArg (fun z => some (Value.int z)) (nI_succ _).symm), trivial⟩
            · exact absurd b4 b7
          · iterate 2 refine px_go hX ?_
            exact ⟨rfl, by rw [rtk_hi h3, rtj_k (k := i + 1) (by rw [rtj_t hq.1 b4 (hl0 c6)]; omega) _ (by omega), rtj_t hq.1 b4 (hl0 c6), nI_pred]⟩
        · refine px_go hX ?_
          refine ⟨fun (c9 : 0 = 0) => ?_, fun (c9 : ¬ 0 = 0) => absurd rfl c9⟩
          iterate 4 refine px_go hX ?_
          refine ⟨Nat.le_of_ble_eq_true rfl, 0, 0, _, Nat.le_of_ble_eq_true rfl, Nat.le_of_ble_eq_true rfl, Nat.le_of_ble_eq_true rfl, rr_isAside hW (by omega), ?_⟩
          rintro _ C ⟨rfl, ⟨b10, rfl⟩ | ⟨b10, rfl⟩⟩
          · exact absurd b10 b4
          · refine px_go hX ?_
            refine ⟨fun (c11 : 0 = 0) => ?_, fun (c11 : ¬ 0 = 0) => absurd rfl c11⟩
            iterate 5 refine px_go hX ?_
            exact px_lw hw [(0, .ref (ad 100)), (1, .long (lN W)), (3, .int (nI f)), (4, .int (nI (f - 3 - rsc W (i + 1)))), (5, .int (nI (i + 1)))] (ih (i + 1) (by omega) ⟨rtj_f hq.1 (fun w => b4 w.1), by rw [rsc_f b4]; exact hq.2⟩) ⟨rfl, rfl, rfl, (congrArg (fun z => some (Value.int z)) (by rw [rsc_f b4]; exact ie_sub0 _)), (congrArg (fun z => some (Value.int z)) (nI_succ _).symm), trivial⟩
    exact px_lw hw [(0, .ref (ad 100)), (1, .long (lN W)), (3, .int (nI f)), (4, .int (nI (f - 3 - rsc W 0))), (5, .int (nI 0))] (loop (mc - 0) 0 (by omega) ⟨rfl, Nat.zero_le _⟩) ⟨rfl, rfl, rfl, (congrArg (fun z => some (Value.int z)) hfs), rfl, trivial⟩
  · have h3 : f < 3 := Nat.lt_of_not_le (fun w => c1 (nI_le w (by omega)))
    iterate 4 refine px_go hX ?_
    refine ⟨_, (hR.1 100 _ hr.1), 0, 0, _, Nat.le_of_ble_eq_true rfl, Nat.le_of_ble_eq_true rfl, Nat.le_of_ble_eq_true rfl, rr_top0 hR hr hs hW h3 hti, ?_⟩
    rintro _ C ⟨rfl, rfl⟩
    refine px_go hX ?_
    refine ⟨fun (c12 : ¬ nI (rtop W f (cs_ti σ)) = 0) => ?_, fun (c12 : nI (rtop W f (cs_ti σ)) = 0) => ?_⟩
    · iterate 7 refine px_go hX ?_
      refine ⟨_, (hR.1 100 _ hr.1), 0, 0, _, Nat.le_of_ble_eq_true rfl, Nat.le_of_ble_eq_true rfl, Nat.le_of_ble_eq_true rfl, rr_top0 hR hr hs hW h3 hti, ?_⟩
      rintro _ C ⟨rfl, rfl⟩
      iterate 3 refine px_go hX ?_
      refine ⟨_, (hR.1 100 _ hr.1), 0, 0, _, Nat.le_of_ble_eq_true rfl, Nat.le_of_ble_eq_true rfl, Nat.le_of_ble_eq_true rfl, rr_at2 (i := rtop W f (cs_ti σ) - 1) hW h3 (by have := rtop_le W f (cs_ti σ); omega) _ (by rw [show rtop W f (cs_ti σ) = rtop W f (cs_ti σ) - 1 + 1 from (Nat.sub_add_cancel (Nat.pos_of_ne_zero (fun w => c12 (by rw [w]; rfl)))).symm]; exact nI_pred _), ?_⟩
      rintro _ C ⟨rfl, rfl⟩
      refine px_go hX ?_
      exact ⟨rfl, by rw [rtk_lo h3, if_neg (fun w => c12 (by rw [w]; rfl))]⟩
    · iterate 3 refine px_go hX ?_
      exact ⟨rfl, by rw [rtk_lo h3, if_pos ((nI_eq (a := rtop W f (cs_ti σ)) (b := 0) (Nat.lt_of_le_of_lt (rtop_le _ _ _) (by omega)) (by decide)).mp c12)]; rfl⟩
theorem rr_taken1 (hR : Rp ad K C) (hr : Rl ad ρ K) (hs : (ρ.1 = σ.1 ∧ True) ∧ True) {mc : Nat} {jn : Nat → Nat} (hM : Mn σ ρ mc jn) {W f k : Nat} (hW : W < 2 ^ 62) (hf : f < 7) (hti : cs_ti σ ≤ 4) (hk : rtk mc (cs_ti σ) W f = k + 1) {w : Int64} (hw : w = lN W) {z : Int32} (hz : z = nI f) : px_W ps_Y ps_P B sc (d + 3) 75 [.ref (ad 100), .long w, .int z] C 0 0 (fun v C' => C' = C ∧ v = some (.int (nI k))) px_no := by
  subst hw
  subst hz
  refine px_Wp (rr_taken0 hR hr hs hM hW hf hti) ?_
  rintro v C2 ⟨rfl, rfl⟩
  exact ⟨rfl, by rw [hk, nI_pred]⟩
end SP
