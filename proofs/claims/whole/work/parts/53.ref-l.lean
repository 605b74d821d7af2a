/-! The reference's search: a move. -/
theorem rno_iff {t W k f to : Nat} {ml : Nat → Bool} : rno t W k f to ml = true ↔ f = to ∨ (2 < f ∧ 2 < to) ∨ (to < 3 ∧ rtop W to t = t) ∨ (to = 3 ∧ ml k = false) := by
  unfold rno
  simp only [nbd, nld, Bool.or_eq_true, Bool.and_eq_true, decide_eq_true_eq, Bool.not_eq_true', or_assoc]
theorem wl_m1 {M : Nat} (hM : M < 2 ^ 64) : lN M ^^^ px_jc (-1) = lN (18446744073709551615 - M) := by
  apply wb_inj
  rw [Int64.toBitVec_xor, wb_tb, wb_tb, show (px_jc (-1)).toBitVec = BitVec.allOnes 64 from by decide, BitVec.xor_allOnes]
  apply BitVec.eq_of_toNat_eq
  rw [BitVec.toNat_not, BitVec.toNat_ofNat, BitVec.toNat_ofNat, Nat.mod_eq_of_lt hM, Nat.mod_eq_of_lt (by omega)]
theorem wl_clr {W M : Nat} (hW : W < 2 ^ 64) (hM : M < 2 ^ 64) : lN W &&& (lN M ^^^ px_jc (-1)) = lN (lcl W M) := by
  rw [wl_m1 hM, wb_and hW (by omega)]
  rfl
theorem lcl_lt {W M N : Nat} (h : W < 2 ^ N) : lcl W M < 2 ^ N := Nat.lt_of_le_of_lt Nat.and_le_left h
theorem wl_p (N : Nat) {k : Nat} (hk : k < 64) : lN N <<< ((nI k).toInt64 &&& 63) = lN (N * 2 ^ k) := wb_shl N hk
theorem wl_36s {k : Nat} (hk : k < 4) : lN 1 <<< (((36 : Int32) + nI k).toInt64 &&& 63) = lN (2 ^ (36 + k)) := by
  rw [wl_36, wb_shl 1 (by omega), Nat.one_mul]
theorem wl_40s {k : Nat} (hk : k < 4) : lN 1 <<< (((40 : Int32) + nI k).toInt64 &&& 63) = lN (2 ^ (40 + k)) := by
  rw [wl_40, wb_shl 1 (by omega), Nat.one_mul]
theorem wl_v2 {W k : Nat} (hW : W < 2 ^ 60) (hk : k < 4) : lN W &&& ((lN 1 <<< (((36 : Int32) + nI k).toInt64 &&& 63)) ^^^ px_jc (-1)) = lN (lcl W (2 ^ (36 + k))) := by
  rw [wl_36s hk]
  exact wl_clr (by omega) (wb_lt2 (by omega))
theorem wl_v1 {W f r : Nat} (hW : W < 2 ^ 60) (hf : f < 3) (h1 : 1 ≤ r) (h4 : r ≤ 4) : lN W &&& ((px_jc 7 <<< (((3 : Int32) * ((4 : Int32) * nI f + nI r - 1)).toInt64 &&& 63)) ^^^ px_jc (-1)) = lN (lcl W (7 * 2 ^ (3 * (4 * f + r - 1)))) := by
  have e : (3 : Int32) * ((4 : Int32) * nI f + nI r - 1) = nI (3 * (4 * f + r - 1)) := by
    show nI 3 * (nI 4 * nI f + nI r - 1) = _
    rw [pk_mul, nI_add, show 4 * f + r = (4 * f + r - 1) + 1 by omega, nI_pred, pk_mul, Nat.add_sub_cancel]
  have l : 7 * 2 ^ (3 * (4 * f + r - 1)) < 2 ^ 64 := by
    have := Nat.pow_le_pow_right (n := 2) (by decide) (show 3 * (4 * f + r - 1) ≤ 36 by omega)
    omega
  rw [e, show px_jc 7 = lN 7 from rfl, wb_shl 7 (by omega)]
  exact wl_clr (by omega) l
theorem wl_t0 {k s r : Nat} (hk : k < 4) (hs3 : s < 3) (hr : r < 4) : (nI k + 1).toInt64 <<< (((3 : Int32) * ((4 : Int32) * nI s + nI r)).toInt64 &&& 63) = lN ((k + 1) * 2 ^ (3 * (4 * s + r))) := by
  rw [wl_at, nI_1, nI_l (by omega), wb_shl _ (by omega)]
theorem wl_t0l {k s r : Nat} (hk : k < 4) (hs3 : s < 3) (hr : r < 4) : (k + 1) * 2 ^ (3 * (4 * s + r)) < 2 ^ 60 := by
  have h := Nat.pow_le_pow_right (n := 2) (by decide) (show 3 * (4 * s + r) ≤ 33 by omega)
  have h2 : (k + 1) * 2 ^ (3 * (4 * s + r)) ≤ 4 * 2 ^ 33 := Nat.mul_le_mul (by omega) h
  omega
theorem rv_lo {t W k f to : Nat} (hf : f < 3) : rv t W k f to = lcl W (7 * 2 ^ (3 * (4 * f + rtop W f t - 1))) ||| (if to = 4 then 2 ^ (36 + k) else if to = 3 then 2 ^ (40 + k) else (k + 1) * 2 ^ (3 * (4 * to + rtop W to t))) := by
  unfold rv
  rw [nld, decide_eq_true hf, nbd, nbd]
  by_cases h4 : to = 4 <;> by_cases h3 : to = 3 <;> simp [h4, h3]
theorem rv_hi {t W k f to : Nat} (hf : ¬ f < 3) : rv t W k f to = lcl W (2 ^ (36 + k)) ||| (if to = 4 then 2 ^ (36 + k) else if to = 3 then 2 ^ (40 + k) else (k + 1) * 2 ^ (3 * (4 * to + rtop W to t))) := by
  unfold rv
  rw [nld, decide_eq_false hf, nbd, nbd]
  by_cases h4 : to = 4 <;> by_cases h3 : to = 3 <;> simp [h4, h3]
theorem wl_o {a b : Nat} (ha : a < 2 ^ 60) (hb : b < 2 ^ 60) : lN a ||| lN b = lN (a ||| b) := wb_or (by omega) (by omega)
section SL
variable {B : Nat} {sc : Option (Nat × Nat × (Nat → Int32))} {d : Nat} {ad : Nat → Nat} {σ : ck_S} {ρ : rs_S} {K : rp_K} {C : px_P}
theorem rr_moved (hR : Rp ad K C) (hr : Rl ad ρ K) (hs : Sim σ ρ) {mc : Nat} {jn : Nat → Nat} (hM : Mn σ ρ mc jn) (hn : cs_n σ ≤ 16) {W f to : Nat} (hW : W < 2 ^ 60) (hf : f < 7) (hto : to < 5) (hti : cs_ti σ ≤ 4) (hkb : rtk mc (cs_ti σ) W f ≤ mc) {ml : Nat → Bool} (hml : ∀ k, k < mc → (ml k = true ↔ rml σ mc jn W k)) : px_W ps_Y ps_P B sc (d + 4) 77 [.ref (ad 100), .long (lN W), .int (nI f), .int (nI to)] C 0 0 (fun v C' => C' = C ∧ ((rtk mc (cs_ti σ) W f = 0 ∧ v = some (.long (px_jc (-1)))) ∨ ∃ k, rtk mc (cs_ti σ) W f = k + 1 ∧ ((rno (cs_ti σ) W k f to ml = true ∧ v = some (.long (px_jc (-1)))) ∨ (rno (cs_ti σ) W k f to ml = false ∧ v = some (.long (lN (rv (cs_ti σ) W k f to))))))) px_no := by
  obtain ⟨p, fs, fa, fw⟩ := ρ
  obtain rfl : p = σ.1 := hs.1.1
  have hm4 := hM.2.1
  have hW2 : W < 2 ^ 62 := by omega
  refine ⟨pm_Ref_moved, rfl, Nat.le_of_ble_eq_true rfl, fun X hw hX => ?_⟩
  iterate 4 refine px_go hX ?_
  refine ⟨_, (hR.1 100 _ hr.1), 0, 0, _, Nat.le_of_ble_eq_true rfl, Nat.le_of_ble_eq_true rfl, Nat.le_of_ble_eq_true rfl, rr_taken2 hR hr hs hM hW2 hf hti, ?_⟩
  rintro _ C ⟨rfl, ⟨hk0, rfl⟩ | ⟨k, hk0, rfl⟩⟩
  · iterate 3 refine px_go hX ?_
    refine ⟨fun (c1 : (-1 : Int32) < 0) => ?_, fun (c1 : ¬ (-1 : Int32) < 0) => absurd (by decide) c1⟩
    iterate 2 refine px_go hX ?_
    exact ⟨rfl, Or.inl ⟨hk0, rfl⟩⟩
  · have hk : k < mc := by omega
    iterate 3 refine px_go hX ?_
    refine ⟨fun (c2 : nI k < 0) => absurd c2 (nI_pos (by omega)), fun (c2 : ¬ nI k < 0) => ?_⟩
    have hcb : (f < 3 ∧ to < 3) ∨ (f < 3 ∧ to = 3) ∨ (f < 3 ∧ to = 4) ∨ (¬ f < 3 ∧ to < 3) ∨ (¬ f < 3 ∧ ¬ to < 3) := by omega
    rcases hcb with ⟨hf3, ht3⟩ | ⟨hf3, ht3⟩ | ⟨hf3, ht3⟩ | ⟨hf3, ht3⟩ | ⟨hf3, ht3⟩
    · iterate 3 refine px_go hX ?_
      refine ⟨fun (c3 : nI f = nI to) => ?_, fun (c3 : ¬ nI f = nI to) => ?_⟩
      · iterate 2 refine px_go hX ?_
        exact ⟨rfl, Or.inr ⟨k, hk0, Or.inl ⟨rno_iff.mpr (Or.inl ((nI_eq (by omega) (by omega)).mp c3)), rfl⟩⟩⟩
      · iterate 3 refine px_go hX ?_
        refine ⟨fun (c4 : nI f ≤ (2 : Int32)) => ?_, fun (c4 : ¬ nI f ≤ (2 : Int32)) => absurd (nI_le (b := 2) (by omega) (by omega)) c4⟩
        iterate 3 refine px_go hX ?_
        refine ⟨fun (c5 : (3 : Int32) ≤ nI to) => absurd c5 (nI_ge (b := 3) (by omega) (by omega)), fun (c5 : ¬ (3 : Int32) ≤ nI to) => ?_⟩
        iterate 5 refine px_go hX ?_
        refine ⟨fun (c6 : (3 : Int32) ≤ nI to) => absurd c6 (nI_ge (b := 3) (by omega) (by omega)), fun (c6 : ¬ (3 : Int32) ≤ nI to) => ?_⟩
        iterate 3 refine px_go hX ?_
        refine ⟨_, (hR.1 100 _ hr.1), 0, 0, _, Nat.le_of_ble_eq_true rfl, Nat.le_of_ble_eq_true rfl, Nat.le_of_ble_eq_true rfl, rr_top hR hr hs hW2 ht3 hti, ?_⟩
        rintro _ C ⟨rfl, rfl⟩
        iterate 2 refine px_go hX ?_
        refine ⟨_, _, (hR.1 100 _ hr.1), rfl, ?_⟩
        refine px_go hX ?_
        refine ⟨fun (c7 : nI (rtop W to (cs_ti σ)) = nI (cs_ti σ)) => ?_, fun (c7 : ¬ nI (rtop W to (cs_ti σ)) = nI (cs_ti σ)) => ?_⟩
        · iterate 2 refine px_go hX ?_
          exact ⟨rfl, Or.inr ⟨k, hk0, Or.inl ⟨rno_iff.mpr (Or.inr (Or.inr (Or.inl ⟨ht3, (nI_eq (Nat.lt_of_le_of_lt (rtop_le _ _ _) (by omega)) (by omega)).mp c7⟩))), rfl⟩⟩⟩
        · iterate 3 refine px_go hX ?_
          refine ⟨fun (c8 : ¬ nI to = (3 : Int32)) => ?_, fun (c8 : nI to = (3 : Int32)) => absurd ((nI_eq (b := 3) (by omega) (by omega)).mp c8) (by omega)⟩
          iterate 3 refine px_go hX ?_
          refine ⟨fun (c9 : nI f ≤ (2 : Int32)) => ?_, fun (c9 : ¬ nI f ≤ (2 : Int32)) => absurd (nI_le (b := 2) (by omega) (by omega)) c9⟩
          iterate 10 refine px_go hX ?_
          refine ⟨_, (hR.1 100 _ hr.1), 0, 0, _, Nat.le_of_ble_eq_true rfl, Nat.le_of_ble_eq_true rfl, Nat.le_of_ble_eq_true rfl, rr_top hR hr hs hW2 hf3 hti, ?_⟩
          rintro _ C ⟨rfl, rfl⟩
          iterate 12 refine px_go hX ?_
          refine ⟨fun (c10 : ¬ nI to = (4 : Int32)) => ?_, fun (c10 : nI to = (4 : Int32)) => absurd ((nI_eq (b := 4) (by omega) (by omega)).mp c10) (by omega)⟩
          iterate 3 refine px_go hX ?_
          refine ⟨fun (c11 : ¬ nI to = (3 : Int32)) => ?_, fun (c11 : nI to = (3 : Int32)) => absurd ((nI_eq (b := 3) (by omega) (by omega)).mp c11) (by omega)⟩
          iterate 13 refine px_go hX ?_
          refine ⟨_, (hR.1 100 _ hr.1), 0, 0, _, Nat.le_of_ble_eq_true rfl, Nat.le_of_ble_eq_true rfl, Nat.le_of_ble_eq_true rfl, rr_top hR hr hs hW2 ht3 hti, ?_⟩
          rintro _ C ⟨rfl, rfl⟩
          iterate 5 refine px_go hX ?_
          have hno : rno (cs_ti σ) W k f to ml = false := (Bool.not_eq_true _).mp (fun w => (rno_iff.mp w).elim (fun w => c3 (by rw [w])) (fun w => w.elim (fun w => by omega) (fun w => w.elim (fun w => c7 (by rw [w.2])) (fun w => by omega))))
          have hrt : 1 ≤ rtop W f (cs_ti σ) := by
            rcases Nat.eq_zero_or_pos (rtop W f (cs_ti σ)) with q | q
            · rw [rtk_lo hf3, if_pos q] at hk0
              omega
            · exact q
          have hrl := rtop_le W f (cs_ti σ)
          have hto1 : rtop W to (cs_ti σ) < 4 := by
            have h1 := rtop_le W to (cs_ti σ)
            rcases Nat.lt_or_ge (rtop W to (cs_ti σ)) (cs_ti σ) with q | q
            · omega
            · exact absurd (by rw [Nat.le_antisymm h1 q]) c7
          have hv : ((lN W) &&& (((px_jc (7)) <<< ((((3 : Int32)) * (((((4 : Int32)) * (nI f)) + (nI (rtop W f (cs_ti σ)))) - ((1 : Int32)))).toInt64 &&& 63)) ^^^ (px_jc (-1)))) ||| ((((nI k) + ((1 : Int32))).toInt64) <<< ((((3 : Int32)) * ((((4 : Int32)) * (nI to)) + (nI (rtop W to (cs_ti σ))))).toInt64 &&& 63)) = lN (rv (cs_ti σ) W k f to) := by
            rw [rv_lo hf3, if_neg (by omega), if_neg (by omega), wl_v1  hW hf3 hrt (by omega), wl_t0 (by omega) ht3 hto1, wl_o (lcl_lt hW) (wl_t0l (by omega) ht3 hto1)]
          exact ⟨rfl, Or.inr ⟨k, hk0, Or.inr ⟨hno, congrArg (fun z => some (Value.long z)) hv⟩⟩⟩
    · iterate 3 refine px_go hX ?_
      refine ⟨fun (c12 : nI f = nI to) => absurd ((nI_eq (by omega) (by omega)).mp c12) (by omega), fun (c12 : ¬ nI f = nI to) => ?_⟩
      iterate 3 refine px_go hX ?_
      refine ⟨fun (c13 : nI f ≤ (2 : Int32)) => ?_, fun (c13 : ¬ nI f ≤ (2 : Int32)) => absurd (nI_le (b := 2) (by omega) (by omega)) c13⟩
      iterate 3 refine px_go hX ?_
      refine ⟨fun (c14 : (3 : Int32) ≤ nI to) => ?_, fun (c14 : ¬ (3 : Int32) ≤ nI to) => absurd (nI_le (a := 3) (by omega) (by omega)) c14⟩
      iterate 3 refine px_go hX ?_
      refine ⟨fun (c15 : ¬ nI to = (3 : Int32)) => absurd (by rw [ht3]; rfl) c15, fun (c15 : nI to = (3 : Int32)) => ?_⟩
      iterate 4 refine px_go hX ?_
      refine ⟨_, (hR.1 100 _ hr.1), 0, 0, _, Nat.le_of_ble_eq_true rfl, Nat.le_of_ble_eq_true rfl, Nat.le_of_ble_eq_true rfl, rr_mayLeave hR hr hs hM hn hW2 hk, ?_⟩
      rintro _ C ⟨rfl, ⟨b16, rfl⟩ | ⟨b16, rfl⟩⟩
      · refine px_go hX ?_
        refine ⟨fun (c17 : ¬ 1 = 0) => ?_, fun (c17 : 1 = 0) => absurd c17 (by decide)⟩
        iterate 3 refine px_go hX ?_
        refine ⟨fun (c18 : nI f ≤ (2 : Int32)) => ?_, fun (c18 : ¬ nI f ≤ (2 : Int32)) => absurd (nI_le (b := 2) (by omega) (by omega)) c18⟩
        iterate 10 refine px_go hX ?_
        refine ⟨_, (hR.1 100 _ hr.1), 0, 0, _, Nat.le_of_ble_eq_true rfl, Nat.le_of_ble_eq_true rfl, Nat.le_of_ble_eq_true rfl, rr_top hR hr hs hW2 hf3 hti, ?_⟩
        rintro _ C ⟨rfl, rfl⟩
        iterate 12 refine px_go hX ?_
        refine ⟨fun (c19 : ¬ nI to = (4 : Int32)) => ?_, fun (c19 : nI to = (4 : Int32)) => absurd ((nI_eq (b := 4) (by omega) (by omega)).mp c19) (by omega)⟩
        iterate 3 refine px_go hX ?_
        refine ⟨fun (c20 : ¬ nI to = (3 : Int32)) => absurd (by rw [ht3]; rfl) c20, fun (c20 : nI to = (3 : Int32)) => ?_⟩
        iterate 9 refine px_go hX ?_
        have hno : rno (cs_ti σ) W k f to ml = false := (Bool.not_eq_true _).mp (fun w => (rno_iff.mp w).elim (fun w => by omega) (fun w => w.elim (fun w => by omega) (fun w => w.elim (fun w => by omega) (fun w => absurd ((hml k hk).mpr b16) (by rw [w.2]; decide)))))
        have hrt : 1 ≤ rtop W f (cs_ti σ) := by
          rcases Nat.eq_zero_or_pos (rtop W f (cs_ti σ)) with q | q
          · rw [rtk_lo hf3, if_pos q] at hk0
            omega
          · exact q
        have hrl := rtop_le W f (cs_ti σ)
        have hv : ((lN W) &&& (((px_jc (7)) <<< ((((3 : Int32)) * (((((4 : Int32)) * (nI f)) + (nI (rtop W f (cs_ti σ)))) - ((1 : Int32)))).toInt64 &&& 63)) ^^^ (px_jc (-1)))) ||| ((lN 1) <<< ((((40 : Int32)) + (nI k)).toInt64 &&& 63)) = lN (rv (cs_ti σ) W k f to) := by
          rw [rv_lo hf3, if_neg (by omega), if_pos ht3, wl_v1  hW hf3 hrt (by omega), wl_40s (by omega), wl_o (lcl_lt hW) ((wb_lt2 (by omega)))]
        exact ⟨rfl, Or.inr ⟨k, hk0, Or.inr ⟨hno, congrArg (fun z => some (Value.long z)) hv⟩⟩⟩
      · refine px_go hX ?_
        refine ⟨fun (c21 : ¬ 0 = 0) => absurd rfl c21, fun (c21 : 0 = 0) => ?_⟩
        iterate 2 refine px_go hX ?_
        exact ⟨rfl, Or.inr ⟨k, hk0, Or.inl ⟨rno_iff.mpr (Or.inr (Or.inr (Or.inr ⟨ht3, (Bool.not_eq_true _).mp (fun w => b16 ((hml k hk).mp w))⟩))), rfl⟩⟩⟩
    · iterate 3 refine px_go hX ?_
      refine ⟨fun (c22 : nI f = nI to) => absurd ((nI_eq (by omega) (by omega)).mp c22) (by omega), fun (c22 : ¬ nI f = nI to) => ?_⟩
      iterate 3 refine px_go hX ?_
      refine ⟨fun (c23 : nI f ≤ (2 : Int32)) => ?_, fun (c23 : ¬ nI f ≤ (2 : Int32)) => absurd (nI_le (b := 2) (by omega) (by omega)) c23⟩
      iterate 3 refine px_go hX ?_
      refine ⟨fun (c24 : (3 : Int32) ≤ nI to) => ?_, fun (c24 : ¬ (3 : Int32) ≤ nI to) => absurd (nI_le (a := 3) (by omega) (by omega)) c24⟩
      iterate 3 refine px_go hX ?_
      refine ⟨fun (c25 : ¬ nI to = (3 : Int32)) => ?_, fun (c25 : nI to = (3 : Int32)) => absurd ((nI_eq (b := 3) (by omega) (by omega)).mp c25) (by omega)⟩
      iterate 3 refine px_go hX ?_
      refine ⟨fun (c26 : nI f ≤ (2 : Int32)) => ?_, fun (c26 : ¬ nI f ≤ (2 : Int32)) => absurd (nI_le (b := 2) (by omega) (by omega)) c26⟩
      iterate 10 refine px_go hX ?_
      refine ⟨_, (hR.1 100 _ hr.1), 0, 0, _, Nat.le_of_ble_eq_true rfl, Nat.le_of_ble_eq_true rfl, Nat.le_of_ble_eq_true rfl, rr_top hR hr hs hW2 hf3 hti, ?_⟩
      rintro _ C ⟨rfl, rfl⟩
      iterate 12 refine px_go hX ?_
      refine ⟨fun (c27 : ¬ nI to = (4 : Int32)) => absurd (by rw [ht3]; rfl) c27, fun (c27 : nI to = (4 : Int32)) => ?_⟩
      iterate 9 refine px_go hX ?_
      have hno : rno (cs_ti σ) W k f to ml = false := (Bool.not_eq_true _).mp (fun w => (rno_iff.mp w).elim (fun w => by omega) (fun w => w.elim (fun w => by omega) (fun w => w.elim (fun w => by omega) (fun w => by omega))))
      have hrt : 1 ≤ rtop W f (cs_ti σ) := by
        rcases Nat.eq_zero_or_pos (rtop W f (cs_ti σ)) with q | q
        · rw [rtk_lo hf3, if_pos q] at hk0
          omega
        · exact q
      have hrl := rtop_le W f (cs_ti σ)
      have hv : ((lN W) &&& (((px_jc (7)) <<< ((((3 : Int32)) * (((((4 : Int32)) * (nI f)) + (nI (rtop W f (cs_ti σ)))) - ((1 : Int32)))).toInt64 &&& 63)) ^^^ (px_jc (-1)))) ||| ((lN 1) <<< ((((36 : Int32)) + (nI k)).toInt64 &&& 63)) = lN (rv (cs_ti σ) W k f to) := by
        rw [rv_lo hf3, if_pos ht3, wl_v1  hW hf3 hrt (by omega), wl_36s (by omega), wl_o (lcl_lt hW) ((wb_lt2 (by omega)))]
      exact ⟨rfl, Or.inr ⟨k, hk0, Or.inr ⟨hno, congrArg (fun z => some (Value.long z)) hv⟩⟩⟩
    · iterate 3 refine px_go hX ?_
      refine ⟨fun (c28 : nI f = nI to) => absurd ((nI_eq (by omega) (by omega)).mp c28) (by omega), fun (c28 : ¬ nI f = nI to) => ?_⟩
      iterate 3 refine px_go hX ?_
      refine ⟨fun (c29 : nI f ≤ (2 : Int32)) => absurd c29 (nI_ge (a := 2) (by omega) (by omega)), fun (c29 : ¬ nI f ≤ (2 : Int32)) => ?_⟩
      iterate 3 refine px_go hX ?_
      refine ⟨fun (c30 : (2 : Int32) < nI to) => absurd c30 (nI_nlt (a := 2) (by omega) (by omega)), fun (c30 : ¬ (2 : Int32) < nI to) => ?_⟩
      iterate 3 refine px_go hX ?_
      refine ⟨fun (c31 : (3 : Int32) ≤ nI to) => absurd c31 (nI_ge (b := 3) (by omega) (by omega)), fun (c31 : ¬ (3 : Int32) ≤ nI to) => ?_⟩
      iterate 5 refine px_go hX ?_
      refine ⟨fun (c32 : (3 : Int32) ≤ nI to) => absurd c32 (nI_ge (b := 3) (by omega) (by omega)), fun (c32 : ¬ (3 : Int32) ≤ nI to) => ?_⟩
      iterate 3 refine px_go hX ?_
      refine ⟨_, (hR.1 100 _ hr.1), 0, 0, _, Nat.le_of_ble_eq_true rfl, Nat.le_of_ble_eq_true rfl, Nat.le_of_ble_eq_true rfl, rr_top hR hr hs hW2 ht3 hti, ?_⟩
      rintro _ C ⟨rfl, rfl⟩
      iterate 2 refine px_go hX ?_
      refine ⟨_, _, (hR.1 100 _ hr.1), rfl, ?_⟩
      refine px_go hX ?_
      refine ⟨fun (c33 : nI (rtop W to (cs_ti σ)) = nI (cs_ti σ)) => ?_, fun (c33 : ¬ nI (rtop W to (cs_ti σ)) = nI (cs_ti σ)) => ?_⟩
      · iterate 2 refine px_go hX ?_
        exact ⟨rfl, Or.inr ⟨k, hk0, Or.inl ⟨rno_iff.mpr (Or.inr (Or.inr (Or.inl ⟨ht3, (nI_eq (Nat.lt_of_le_of_lt (rtop_le _ _ _) (by omega)) (by omega)).mp c33⟩))), rfl⟩⟩⟩
      · iterate 3 refine px_go hX ?_
        refine ⟨fun (c34 : ¬ nI to = (3 : Int32)) => ?_, fun (c34 : nI to = (3 : Int32)) => absurd ((nI_eq (b := 3) (by omega) (by omega)).mp c34) (by omega)⟩
        iterate 3 refine px_go hX ?_
        refine ⟨fun (c35 : nI f ≤ (2 : Int32)) => absurd c35 (nI_ge (a := 2) (by omega) (by omega)), fun (c35 : ¬ nI f ≤ (2 : Int32)) => ?_⟩
        iterate 14 refine px_go hX ?_
        refine ⟨fun (c36 : ¬ nI to = (4 : Int32)) => ?_, fun (c36 : nI to = (4 : Int32)) => absurd ((nI_eq (b := 4) (by omega) (by omega)).mp c36) (by omega)⟩
        iterate 3 refine px_go hX ?_
        refine ⟨fun (c37 : ¬ nI to = (3 : Int32)) => ?_, fun (c37 : nI to = (3 : Int32)) => absurd ((nI_eq (b := 3) (by omega) (by omega)).mp c37) (by omega)⟩
        iterate 13 refine px_go hX ?_
        refine ⟨_, (hR.1 100 _ hr.1), 0, 0, _, Nat.le_of_ble_eq_true rfl, Nat.le_of_ble_eq_true rfl, Nat.le_of_ble_eq_true rfl, rr_top hR hr hs hW2 ht3 hti, ?_⟩
        rintro _ C ⟨rfl, rfl⟩
        iterate 5 refine px_go hX ?_
        have hno : rno (cs_ti σ) W k f to ml = false := (Bool.not_eq_true _).mp (fun w => (rno_iff.mp w).elim (fun w => by omega) (fun w => w.elim (fun w => by omega) (fun w => w.elim (fun w => c33 (by rw [w.2])) (fun w => by omega))))
        have hto1 : rtop W to (cs_ti σ) < 4 := by
          have h1 := rtop_le W to (cs_ti σ)
          rcases Nat.lt_or_ge (rtop W to (cs_ti σ)) (cs_ti σ) with q | q
          · omega
          · exact absurd (by rw [Nat.le_antisymm h1 q]) c33
        have hv : ((lN W) &&& (((lN 1) <<< ((((36 : Int32)) + (nI k)).toInt64 &&& 63)) ^^^ (px_jc (-1)))) ||| ((((nI k) + ((1 : Int32))).toInt64) <<< ((((3 : Int32)) * ((((4 : Int32)) * (nI to)) + (nI (rtop W to (cs_ti σ))))).toInt64 &&& 63)) = lN (rv (cs_ti σ) W k f to) := by
          rw [rv_hi hf3, if_neg (by omega), if_neg (by omega), wl_v2  hW (by omega), wl_t0 (by omega) ht3 hto1, wl_o (lcl_lt hW) (wl_t0l (by omega) ht3 hto1)]
        exact ⟨rfl, Or.inr ⟨k, hk0, Or.inr ⟨hno, congrArg (fun z => some (Value.long z)) hv⟩⟩⟩
    · iterate 3 refine px_go hX ?_
      refine ⟨fun (c38 : nI f = nI to) => ?_, fun (c38 : ¬ nI f = nI to) => ?_⟩
      · iterate 2 refine px_go hX ?_
        exact ⟨rfl, Or.inr ⟨k, hk0, Or.inl ⟨rno_iff.mpr (Or.inr (Or.inl ⟨by omega, by omega⟩)), rfl⟩⟩⟩
      · iterate 3 refine px_go hX ?_
        refine ⟨fun (c39 : nI f ≤ (2 : Int32)) => absurd c39 (nI_ge (a := 2) (by omega) (by omega)), fun (c39 : ¬ nI f ≤ (2 : Int32)) => ?_⟩
        iterate 3 refine px_go hX ?_
        refine ⟨fun (c40 : (2 : Int32) < nI to) => ?_, fun (c40 : ¬ (2 : Int32) < nI to) => absurd (nI_lt (a := 2) (by omega) (by omega)) c40⟩
        iterate 2 refine px_go hX ?_
        exact ⟨rfl, Or.inr ⟨k, hk0, Or.inl ⟨rno_iff.mpr (Or.inr (Or.inl ⟨by omega, by omega⟩)), rfl⟩⟩⟩
end SL
