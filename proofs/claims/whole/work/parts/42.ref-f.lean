/-! The reference: needs of a box, swap. -/
section SF
variable {B : Nat} {sc : Option (Nat × Nat × (Nat → Int32))} {d : Nat} {ad : Nat → Nat} {σ : ck_S} {ρ : rs_S} {K : rp_K} {C : px_P}
theorem ie_bits : ∀ i, i < 16 → ((nI i &&& 31).toBitVec.smod 32).toNat = i := by decide +kernel
theorem ie_bit {m i : Nat} (hm : m < 65536) (hi : i < 16) : ((nI m >>> (nI i &&& 31)) &&& 1 = 0) ↔ m.testBit i = false := by
  rw [pk_shrN (by omega) _ i (ie_bits i hi), pk_andN (Nat.lt_of_le_of_lt (Nat.div_le_self _ _) (by omega)) 1 (by decide +kernel), Nat.testBit_eq_decide_div_mod_eq]
  have h2 : m / 2 ^ i % 2 ^ 1 < 2 := Nat.mod_lt _ (by decide)
  constructor
  · intro h
    have := (nI_eq (by omega) (by omega : 0 < 2 ^ 31)).mp h
    exact decide_eq_false (fun w => by omega)
  · intro h
    have := of_decide_eq_false h
    rw [show m / 2 ^ i % 2 ^ 1 = 0 by omega]
    rfl
/-- needs are told by bits of boxes that are there -/
def cs_er (σ : ck_S) : Prop := ∀ j, j < cs_n σ → ∃ m, m < 65536 ∧ cs_bf σ j 4 = nI m ∧ ∀ i, cs_n σ ≤ i → i < 16 → m.testBit i = false
theorem bits_0 {m : Nat} (hm : m < 65536) (h : ∀ i, i < 16 → m.testBit i = false) : m = 0 := by
  apply Nat.eq_of_testBit_eq
  intro i
  rw [Nat.zero_testBit]
  rcases Nat.lt_or_ge i 16 with hi | hi
  · exact h i hi
  · exact Nat.testBit_lt_two_pow (Nat.lt_of_lt_of_le hm (show 2 ^ 16 ≤ 2 ^ i from Nat.pow_le_pow_right (by decide) hi))
theorem nds_iff (hn : cs_n σ ≤ 16) (her : cs_er σ) {j : Nat} (hj : j < cs_n σ) : cs_nds σ j ↔ ∃ i, i < 16 ∧ (cs_need σ j i ∨ cs_need σ i j) := by
  obtain ⟨m, hm, hbm, -⟩ := her j hj
  constructor
  · rintro (h | ⟨i, hi, h⟩)
    · have hm0 : m ≠ 0 := fun w => h (by rw [hbm, w]; rfl)
      rcases Classical.em (∃ i, i < 16 ∧ m.testBit i = true) with ⟨i, hi, hb⟩ | hno
      · refine ⟨i, hi, Or.inr ⟨hj, fun w => ?_⟩⟩
        rw [hbm, ie_bit hm hi] at w
        rw [hb] at w
        cases w
      · exact absurd (bits_0 hm (fun i hi => by
          cases hb : m.testBit i with
          | false => rfl
          | true => exact absurd ⟨i, hi, hb⟩ hno)) hm0
    · exact ⟨i, by omega, Or.inl ⟨hi, h⟩⟩
  · rintro ⟨i, hi, ⟨h1, h2⟩ | ⟨h1, h2⟩⟩
    · exact Or.inr ⟨i, h1, h2⟩
    · refine Or.inl (fun w => h2 ?_)
      rw [w]
      exact (ie_bit (m := 0) (by omega) hi).mpr (Nat.zero_testBit i)
theorem ie_16 (b i : Nat) : (16 : Int32) * nI b + nI i = nI (16 * b + i) := by
  rw [show (16 : Int32) * nI b = nI (16 * b) from pk_mul 16 b, nI_add]
theorem i32_23 (x : Int32) : (2 : Int32) < x ↔ 3 ≤ x := by
  rw [Int32.lt_iff_toInt_lt, Int32.le_iff_toInt_le, show (2 : Int32).toInt = 2 by decide, show (3 : Int32).toInt = 3 by decide]
  omega
theorem rr_hasNeeds (hR : Rp ad K C) (hr : Rl ad ρ K) (hs : Sim σ ρ) (hn : cs_n σ ≤ 16) {j : Nat} (hj : j < cs_n σ) : px_W ps_Y ps_P B sc (d + 1) 91 [.ref (ad 100), .int (nI j)] C 0 0 (px_bo (∃ i, i < 16 ∧ (cs_need σ j i ∨ cs_need σ i j)) C) px_no := by
  obtain ⟨p, fs, fa, fw⟩ := ρ
  obtain rfl : p = σ.1 := hs.1.1
  have hA5 : C (ad 105) = some (px_z 256 (fa 5)) := hR.1 105 _ (hr.2.1 5 (by decide) (by decide) (by decide))
  refine ⟨pm_Ref_hasNeeds, rfl, Nat.le_of_ble_eq_true rfl, fun X hw hX => ?_⟩
  have loop : ∀ kk i (fl : Int32), i + kk = 16 → ((fl = 1 ∧ ∃ q, q < i ∧ (cs_need σ j q ∨ cs_need σ q j)) ∨ (fl = 0 ∧ ∀ q, q < i → ¬ (cs_need σ j q ∨ cs_need σ q j))) → X (4, [(0, .ref (ad 100)), (1, .int (nI j)), (2, .int (fl)), (3, .int (nI i))], [], C, 0, 0) := by
    intro kk
    induction kk with
    | zero =>
      intro i fl hi hfl
      have hlt : i = 16 := hi
      iterate 3 refine px_go hX ?_
      refine ⟨fun (c1 : (16 : Int32) ≤ nI i) => ?_, fun (c1 : ¬ (16 : Int32) ≤ nI i) => absurd (by rw [hlt]; exact Int32.le_refl _) c1⟩
      iterate 2 refine px_go hX ?_
      rw [hlt] at hfl
      rcases hfl with ⟨h, h2⟩ | ⟨h, h2⟩
      · exact ⟨Or.inr h, rfl, Or.inl ⟨h2, by rw [h]⟩⟩
      · exact ⟨Or.inl h, rfl, Or.inr ⟨fun ⟨q, hq, hq2⟩ => h2 q hq hq2, by rw [h]⟩⟩
    | succ kk ih =>
      intro i fl hi hfl
      have hlt : i < 16 := by omega
      iterate 3 refine px_go hX ?_
      refine ⟨fun (c2 : (16 : Int32) ≤ nI i) => absurd c2 (nI_ge hlt (by omega : 16 < 2 ^ 31)), fun (c2 : ¬ (16 : Int32) ≤ nI i) => ?_⟩
      iterate 2 refine px_go hX ?_
      refine ⟨fun (c3 : ¬ fl = 0) => ?_, fun (c3 : fl = 0) => ?_⟩
      · iterate 5 refine px_go hX ?_
        exact px_lw hw [(0, .ref (ad 100)), (1, .int (nI j)), (2, .int ((1 : Int32))), (3, .int (nI (i + 1)))] (ih (i + 1) _ (by omega) (Or.inl ⟨rfl, hfl.elim (fun ⟨_, q, hq, hq2⟩ => ⟨q, by omega, hq2⟩) (fun ⟨h, _⟩ => absurd h c3)⟩)) ⟨rfl, rfl, rfl, (congrArg (fun z => some (Value.int z)) (nI_succ _).symm), trivial⟩
      · iterate 2 refine px_go hX ?_
        refine ⟨_, _, (hR.1 100 _ hr.1), rfl, ?_⟩
        iterate 6 refine px_go hX ?_
        refine ⟨_, _, hA5, (by rw [show (px_ic 16 * nI j + nI i) = nI (16 * j + i) from ie_16 j i]; exact vp_in_nI (by omega) (by omega)), ?_⟩
        rw [show (px_ic 16 * nI j + nI i) = nI (16 * j + i) from ie_16 j i, nI_clamp (by omega)]
        refine px_go hX ?_
        refine ⟨fun (c4 : ¬ fa 5 (16 * j + i) = 0) => ?_, fun (c4 : fa 5 (16 * j + i) = 0) => ?_⟩
        · iterate 5 refine px_go hX ?_
          exact px_lw hw [(0, .ref (ad 100)), (1, .int (nI j)), (2, .int ((1 : Int32))), (3, .int (nI (i + 1)))] (ih (i + 1) _ (by omega) (Or.inl ⟨rfl, i, Nat.lt_succ_self i, Or.inl ((hs.2.2.1 j i (by omega) hlt).elim (fun h => h.1) (fun h => absurd h.2 c4))⟩)) ⟨rfl, rfl, rfl, (congrArg (fun z => some (Value.int z)) (nI_succ _).symm), trivial⟩
        · iterate 2 refine px_go hX ?_
          refine ⟨_, _, (hR.1 100 _ hr.1), rfl, ?_⟩
          iterate 6 refine px_go hX ?_
          refine ⟨_, _, hA5, (by rw [show (px_ic 16 * nI i + nI j) = nI (16 * i + j) from ie_16 i j]; exact vp_in_nI (by omega) (by omega)), ?_⟩
          rw [show (px_ic 16 * nI i + nI j) = nI (16 * i + j) from ie_16 i j, nI_clamp (by omega)]
          refine px_go hX ?_
          refine ⟨fun (c5 : fa 5 (16 * i + j) = 0) => ?_, fun (c5 : ¬ fa 5 (16 * i + j) = 0) => ?_⟩
          · iterate 4 refine px_go hX ?_
            exact px_lw hw [(0, .ref (ad 100)), (1, .int (nI j)), (2, .int ((0 : Int32))), (3, .int (nI (i + 1)))] (ih (i + 1) _ (by omega) (Or.inr ⟨rfl, pn_alls (hfl.elim (fun ⟨h, _⟩ => absurd (h.symm.trans c3) (by decide)) (fun ⟨_, h⟩ => h)) (fun z => z.elim (fun z => (hs.2.2.1 j i (by omega) hlt).elim (fun h => absurd (h.2.symm.trans c4) (by decide)) (fun h => h.1 z)) (fun z => (hs.2.2.1 i j hlt (by omega)).elim (fun h => absurd (h.2.symm.trans c5) (by decide)) (fun h => h.1 z)))⟩)) ⟨rfl, rfl, rfl, (congrArg (fun z => some (Value.int z)) (nI_succ _).symm), trivial⟩
          · iterate 5 refine px_go hX ?_
            exact px_lw hw [(0, .ref (ad 100)), (1, .int (nI j)), (2, .int ((1 : Int32))), (3, .int (nI (i + 1)))] (ih (i + 1) _ (by omega) (Or.inl ⟨rfl, i, Nat.lt_succ_self i, Or.inr ((hs.2.2.1 i j hlt (by omega)).elim (fun h => h.1) (fun h => absurd h.2 c5))⟩)) ⟨rfl, rfl, rfl, (congrArg (fun z => some (Value.int z)) (nI_succ _).symm), trivial⟩
  iterate 4 refine px_go hX ?_
  exact px_lw hw [(0, .ref (ad 100)), (1, .int (nI j)), (2, .int ((0 : Int32))), (3, .int (nI 0))] (loop (16 - 0) 0 _ (by omega) (Or.inr ⟨rfl, fun q hq => absurd hq (Nat.not_lt_zero q)⟩)) ⟨rfl, rfl, rfl, rfl, trivial⟩
theorem rr_voids2 (hR : Rp ad K C) (hr : Rl ad ρ K) {b : Nat} (hb : b < 4) {z : Int32} (hz : z = nI b) : px_W ps_Y ps_P B sc (d + 1) 61 [.ref (ad 100), .int z] C 0 0 (fun v C' => v = none ∧ Cr ad (rs_sA ρ 7 (upd (rs_a ρ 7) b 0)) K C') px_no := by
  subst hz
  have hA7 : C (ad 107) = some (px_z 4 (rs_a ρ 7)) := hR.1 107 _ (hr.2.1 7 (by decide) (by decide) (by decide))
  refine ⟨pm_Ref_voids, rfl, Nat.le_of_ble_eq_true rfl, fun X hw hX => ?_⟩
  iterate 2 refine px_go hX ?_
  refine ⟨_, _, (hR.1 100 _ hr.1), rfl, ?_⟩
  iterate 3 refine px_go hX ?_
  refine ⟨_, _, hA7, (vp_in_nI hb (by omega)), ?_⟩
  rw [nI_clamp (by omega), show vp_nar .boolean (px_ic 0) = 0 from by decide +kernel]
  refine px_go hX ?_
  have hR1 := (hR.put (i := 107) (hr.2.1 7 (by decide) (by decide) (by decide)) (px_z 4 (upd (rs_a ρ 7) (b) (0))))
  have hr1 : Rl ad (rs_sA ρ 7 (upd (rs_a ρ 7) b 0)) (rp_up (K) (107) (px_z 4 (upd (rs_a ρ 7) (b) (0)))) := hr.sA (q := 7) (by decide) (by decide) (by decide) _
  have hK1 : ∀ zz, zz < 100 ∨ 118 ≤ zz → (rp_up (K) (107) (px_z 4 (upd (rs_a ρ 7) (b) (0)))) zz = (K) zz := fun zz hzz => by rw [rp_up_n _ _ (by omega)]
  exact ⟨rfl, _, hR1, hr1, hK1⟩
theorem cs_fp_3 (σ : ck_S) (b c : Nat) : cs_yf (cs_fp σ b) c 3 = cs_yf σ c 3 := by
  show va_up (cs_yf σ) b _ c 3 = _
  by_cases h : c = b
  · subst h
    rw [va_up_self]
    rfl
  · rw [va_up_ne _ _ h]
theorem cs_fp_n (σ : ck_S) {b c : Nat} (h : c ≠ b) : cs_yf (cs_fp σ b) c = cs_yf σ c := va_up_ne _ _ h
theorem cs_fp2_3 (σ : ck_S) (b b2 c : Nat) : cs_yf (cs_fp (cs_fp σ b) b2) c 3 = cs_yf σ c 3 := (cs_fp_3 _ _ _).trans (cs_fp_3 _ _ _)
theorem cs_fp2_n (σ : ck_S) {b b2 c : Nat} (h : c ≠ b) (h2 : c ≠ b2) : cs_yf (cs_fp (cs_fp σ b) b2) c = cs_yf σ c := (cs_fp_n _ h2).trans (cs_fp_n _ h)
theorem cs_fp2_0 (σ : ck_S) (b b2 c : Nat) (h : c = b ∨ c = b2) : cs_yf (cs_fp (cs_fp σ b) b2) c 0 = 0 := by
  by_cases h2 : c = b2
  · rw [h2]
    exact cs_fp_0 _ _
  · rw [cs_fp_n _ h2, h.resolve_right h2]
    exact cs_fp_0 _ _
theorem Sim.sw {σ : ck_S} {p : Nat × Nat × Nat} {fs fs' : Nat → Int32} {fa F : Nat → Nat → Int32} {fw : Nat → Int64} (h : Sim σ (p, fs, fa, fw)) {j k bj bk : Nat} (hj : j < cs_n σ) (hk : k < cs_n σ) (hjk : j ≠ k)
    (f1 : fs' 1 = fs 1) (f2 : fs' 2 = fs 2) (n2 : F 2 = upd (upd (fa 2) j (cs_bf σ k 1)) k (cs_bf σ j 1)) (n3 : F 3 = upd (upd (fa 3) j (cs_bf σ k 2)) k (cs_bf σ j 2)) (n4 : F 4 = upd (upd (fa 4) j (cs_bf σ k 3)) k (cs_bf σ j 3)) (n7 : F 7 = upd (upd (fa 7) bk 0) bj 0) (nn : ∀ q, q ≠ 2 → q ≠ 3 → q ≠ 4 → q ≠ 7 → F q = fa q) :
    Sim (cs_sw (cs_fp (cs_fp σ bj) bk) j k) (p, fs', F, fw) := by
  obtain ⟨⟨h1, h1a, h1b⟩, h2, h3, h4⟩ := h
  have bj' : cs_bf (cs_sw (cs_fp (cs_fp σ bj) bk) j k) j = (fun q => match q with | 0 => cs_bf σ j 0 | 1 => cs_bf σ k 1 | 2 => cs_bf σ k 2 | 3 => cs_bf σ k 3 | _ => cs_bf σ j 4) := (va_up_ne _ _ hjk).trans (va_up_self (cs_bf σ) j _)
  have bk' : cs_bf (cs_sw (cs_fp (cs_fp σ bj) bk) j k) k = (fun q => match q with | 0 => cs_bf σ k 0 | 1 => cs_bf σ j 1 | 2 => cs_bf σ j 2 | 3 => cs_bf σ j 3 | _ => cs_bf σ k 4) := va_up_self _ k _
  have bn : ∀ i, i ≠ j → i ≠ k → cs_bf (cs_sw (cs_fp (cs_fp σ bj) bk) j k) i = cs_bf σ i := fun i hi hi2 => (va_up_ne _ _ hi2).trans (va_up_ne (cs_bf σ) _ hi)
  have b4 : ∀ i, cs_bf (cs_sw (cs_fp (cs_fp σ bj) bk) j k) i 4 = cs_bf σ i 4 := fun i => by
    by_cases hi : i = j
    · rw [hi, bj']
      rfl
    · by_cases hi2 : i = k
      · rw [hi2, bk']
        rfl
      · rw [bn i hi hi2]
  refine ⟨⟨h1, f1.trans h1a, f2.trans h1b⟩, fun i hi => ?_, fun i l hi hl => ?_, fun c hc => ?_⟩
  · show F 1 i = _ ∧ F 2 i = _ ∧ F 3 i = _ ∧ F 4 i = _
    rw [nn 1 (by omega) (by omega) (by omega) (by omega), n2, n3, n4]
    obtain ⟨q1, q2, q3, q4⟩ := h2 i hi
    by_cases hik : i = k
    · subst hik
      rw [bk', pk_us, pk_us, pk_us]
      exact ⟨q1, rfl, rfl, rfl⟩
    · rw [pk_un hik, pk_un hik, pk_un hik]
      by_cases hij : i = j
      · subst hij
        rw [bj', pk_us, pk_us, pk_us]
        exact ⟨q1, rfl, rfl, rfl⟩
      · rw [bn i hij hik, pk_un hij, pk_un hij, pk_un hij]
        exact ⟨q1, q2, q3, q4⟩
  · show (_ ∧ F 5 _ = 1) ∨ (_ ∧ F 5 _ = 0)
    rw [nn 5 (by omega) (by omega) (by omega) (by omega)]
    have e : cs_need (cs_sw (cs_fp (cs_fp σ bj) bk) j k) i l ↔ cs_need σ i l := by
      unfold cs_need
      rw [b4 l]
      exact Iff.rfl
    rw [e]
    exact h3 i l hi hl
  · obtain ⟨q1, q2, q3, q4⟩ := h4 c hc
    show F 6 c = _ ∧ F 7 c = _ ∧ (_ → F 8 c = _ ∧ F 9 c = _ ∧ ∀ i, _ → _ → F 10 _ = _ ∧ F 11 _ = _ ∧ F 12 _ = _) ∧ ∃ m d : Nat, F 8 c = _ ∧ F 9 c = _ ∧ _
    rw [n7, nn 6 (by omega) (by omega) (by omega) (by omega), nn 8 (by omega) (by omega) (by omega) (by omega), nn 9 (by omega) (by omega) (by omega) (by omega), nn 10 (by omega) (by omega) (by omega) (by omega), nn 11 (by omega) (by omega) (by omega) (by omega), nn 12 (by omega) (by omega) (by omega) (by omega)]
    have y3 : cs_yf (cs_sw (cs_fp (cs_fp σ bj) bk) j k) c 3 = cs_yf σ c 3 := cs_fp2_3 σ bj bk c
    refine ⟨by rw [y3]; exact q1, ?_, ?_, q4⟩
    · show upd (upd (fa 7) bk 0) bj 0 c = cs_yf (cs_fp (cs_fp σ bj) bk) c 0
      by_cases c1 : c = bj
      · rw [c1, pk_us]
        exact (cs_fp2_0 σ bj bk bj (Or.inl rfl)).symm
      · rw [pk_un c1]
        by_cases c2 : c = bk
        · rw [c2, pk_us]
          exact (cs_fp2_0 σ bj bk bk (Or.inr rfl)).symm
        · rw [pk_un c2, cs_fp2_n σ c1 c2]
          exact q2
    · intro hq
      by_cases c1 : c = bj
      · exact absurd (cs_fp2_0 σ bj bk c (Or.inl c1)) hq
      · by_cases c2 : c = bk
        · exact absurd (cs_fp2_0 σ bj bk c (Or.inr c2)) hq
        · have e : cs_yf (cs_sw (cs_fp (cs_fp σ bj) bk) j k) c = cs_yf σ c := cs_fp2_n σ c1 c2
          rw [e] at hq ⊢
          exact q3 hq
theorem rr_swap (hR : Rp ad K C) (hr : Rl ad ρ K) (hs : Sim σ ρ) (hn : cs_n σ ≤ 16) (hnb : cs_nb σ ≤ 4) (hB : cs_inb σ) (her : cs_er σ) (x y : Int32) : px_W ps_Y ps_P B sc (d + 2) 92 [.ref (ad 100), .int x, .int y] C 0 0 (px_oR ad K (of_swap σ x y)) px_no := by
  obtain ⟨p, fs, fa, fw⟩ := ρ
  obtain rfl : p = σ.1 := hs.1.1
  have hA1 : C (ad 101) = some (px_i 16 (fa 1)) := hR.1 101 _ (hr.2.1 1 (by decide) (by decide) (by decide))
  have hA2 : C (ad 102) = some (px_i 16 (fa 2)) := hR.1 102 _ (hr.2.1 2 (by decide) (by decide) (by decide))
  have hA3 : C (ad 103) = some (px_i 16 (fa 3)) := hR.1 103 _ (hr.2.1 3 (by decide) (by decide) (by decide))
  have hA4 : C (ad 104) = some (px_i 16 (fa 4)) := hR.1 104 _ (hr.2.1 4 (by decide) (by decide) (by decide))
  refine ⟨pm_Ref_swap, rfl, Nat.le_of_ble_eq_true rfl, fun X hw hX => ?_⟩
  iterate 3 refine px_go hX ?_
  refine ⟨_, (hR.1 100 _ hr.1), 0, 0, _, Nat.le_of_ble_eq_true rfl, Nat.le_of_ble_eq_true rfl, Nat.le_of_ble_eq_true rfl, rr_isBox hR hr hs _, ?_⟩
  rintro _ C ⟨rfl, ⟨b1, rfl⟩ | ⟨b1, rfl⟩⟩
  · obtain ⟨j, hj, rfl⟩ := px_ix2 b1 (by omega)
    refine px_go hX ?_
    refine ⟨fun (c2 : 1 = 0) => absurd c2 (by decide), fun (c2 : ¬ 1 = 0) => ?_⟩
    iterate 3 refine px_go hX ?_
    refine ⟨_, (hR.1 100 _ hr.1), 0, 0, _, Nat.le_of_ble_eq_true rfl, Nat.le_of_ble_eq_true rfl, Nat.le_of_ble_eq_true rfl, rr_isBox hR hr hs _, ?_⟩
    rintro _ C ⟨rfl, ⟨b3, rfl⟩ | ⟨b3, rfl⟩⟩
    · obtain ⟨k, hk, rfl⟩ := px_ix2 b3 (by omega)
      refine px_go hX ?_
      refine ⟨fun (c4 : ¬ 1 = 0) => ?_, fun (c4 : 1 = 0) => absurd c4 (by decide)⟩
      iterate 3 refine px_go hX ?_
      refine ⟨_, (hR.1 100 _ hr.1), Nat.le_of_ble_eq_true rfl, rfl, rfl, ?_⟩
      have hR0 := (hR.put (i := 100) hr.1 (px_o 4 [.int ((0 : Int32)), .int (nI (cs_nb σ)), .int (nI (cs_ti σ)), .int (nI (cs_n σ)), .ref (ad 101), .ref (ad 102), .ref (ad 103), .ref (ad 104), .ref (ad 105), .ref (ad 106), .int (fs 1), .int (fs 2), .ref (ad 107), .ref (ad 108), .ref (ad 109), .ref (ad 110), .ref (ad 111), .ref (ad 112), .ref (ad 113), .ref (ad 114), .ref (ad 115), .int (fs 3), .ref (ad 116), .ref (ad 117), .int (fs 4)]))
      have hr0 : Rl ad (rs_th (σ.1, fs, fa, fw) 0) (rp_up (K) (100) (px_o 4 [.int ((0 : Int32)), .int (nI (cs_nb σ)), .int (nI (cs_ti σ)), .int (nI (cs_n σ)), .ref (ad 101), .ref (ad 102), .ref (ad 103), .ref (ad 104), .ref (ad 105), .ref (ad 106), .int (fs 1), .int (fs 2), .ref (ad 107), .ref (ad 108), .ref (ad 109), .ref (ad 110), .ref (ad 111), .ref (ad 112), .ref (ad 113), .ref (ad 114), .ref (ad 115), .int (fs 3), .ref (ad 116), .ref (ad 117), .int (fs 4)])) := hr.sO _ _
      have hK0 : ∀ zz, zz < 100 ∨ 118 ≤ zz → (rp_up (K) (100) (px_o 4 [.int ((0 : Int32)), .int (nI (cs_nb σ)), .int (nI (cs_ti σ)), .int (nI (cs_n σ)), .ref (ad 101), .ref (ad 102), .ref (ad 103), .ref (ad 104), .ref (ad 105), .ref (ad 106), .int (fs 1), .int (fs 2), .ref (ad 107), .ref (ad 108), .ref (ad 109), .ref (ad 110), .ref (ad 111), .ref (ad 112), .ref (ad 113), .ref (ad 114), .ref (ad 115), .int (fs 3), .ref (ad 116), .ref (ad 117), .int (fs 4)])) zz = (K) zz := fun zz hzz => by rw [rp_up_n _ _ (by omega)]
      have hs0 : Sim σ (rs_th (σ.1, fs, fa, fw) 0) := hs
      iterate 3 refine px_go hX ?_
      refine ⟨fun (c5 : nI j = nI k) => ?_, fun (c5 : ¬ nI j = nI k) => ?_⟩
      · iterate 2 refine px_go hX ?_
        have hR1 := (hR.put (i := 100) hr.1 (px_o 4 [.int ((0 : Int32)), .int (nI (cs_nb σ)), .int (nI (cs_ti σ)), .int (nI (cs_n σ)), .ref (ad 101), .ref (ad 102), .ref (ad 103), .ref (ad 104), .ref (ad 105), .ref (ad 106), .int (fs 1), .int (fs 2), .ref (ad 107), .ref (ad 108), .ref (ad 109), .ref (ad 110), .ref (ad 111), .ref (ad 112), .ref (ad 113), .ref (ad 114), .ref (ad 115), .int (fs 3), .ref (ad 116), .ref (ad 117), .int (fs 4)]))
        have hr1 : Rl ad (rs_th (σ.1, fs, fa, fw) 0) (rp_up (K) (100) (px_o 4 [.int ((0 : Int32)), .int (nI (cs_nb σ)), .int (nI (cs_ti σ)), .int (nI (cs_n σ)), .ref (ad 101), .ref (ad 102), .ref (ad 103), .ref (ad 104), .ref (ad 105), .ref (ad 106), .int (fs 1), .int (fs 2), .ref (ad 107), .ref (ad 108), .ref (ad 109), .ref (ad 110), .ref (ad 111), .ref (ad 112), .ref (ad 113), .ref (ad 114), .ref (ad 115), .int (fs 3), .ref (ad 116), .ref (ad 117), .int (fs 4)])) := hr.sO _ _
        have hK1 : ∀ zz, zz < 100 ∨ 118 ≤ zz → (rp_up (K) (100) (px_o 4 [.int ((0 : Int32)), .int (nI (cs_nb σ)), .int (nI (cs_ti σ)), .int (nI (cs_n σ)), .ref (ad 101), .ref (ad 102), .ref (ad 103), .ref (ad 104), .ref (ad 105), .ref (ad 106), .int (fs 1), .int (fs 2), .ref (ad 107), .ref (ad 108), .ref (ad 109), .ref (ad 110), .ref (ad 111), .ref (ad 112), .ref (ad 113), .ref (ad 114), .ref (ad 115), .int (fs 3), .ref (ad 116), .ref (ad 117), .int (fs 4)])) zz = (K) zz := fun zz hzz => by rw [rp_up_n _ _ (by omega)]
        have hq : of_swap σ (nI j) (nI k) = (0, 0, σ) := by
          unfold of_swap
          rw [cs_xq_s2 hn hj, cs_xq_s2 hn hk]
          exact if_pos (Or.inl c5)
        rw [hq]
        exact ⟨_, _, ⟨_, hR1, hr1, hK1⟩, hs, rfl, rfl, fun _ => rfl⟩
      · iterate 2 refine px_go hX ?_
        refine ⟨_, _, (px_up_s _ _ _), rfl, ?_⟩
        iterate 2 refine px_go hX ?_
        refine ⟨_, _, ((px_up_n _ _ (hR.ne (hr.2.1 1 (by decide) (by decide) (by decide)) hr.1 (by decide))).trans hA1), (vp_in_nI (by omega) (by omega)), ?_⟩
        rw [nI_clamp (by omega), show fa 1 j = cs_bf σ j 0 from (hs.2.1 j hj).1]
        iterate 2 refine px_go hX ?_
        refine ⟨_, _, (px_up_s _ _ _), rfl, ?_⟩
        iterate 2 refine px_go hX ?_
        refine ⟨_, _, ((px_up_n _ _ (hR.ne (hr.2.1 1 (by decide) (by decide) (by decide)) hr.1 (by decide))).trans hA1), (vp_in_nI (by omega) (by omega)), ?_⟩
        rw [nI_clamp (by omega), show fa 1 k = cs_bf σ k 0 from (hs.2.1 k hk).1]
        refine px_go hX ?_
        refine ⟨fun (c6 : ¬ cs_bf σ j 0 = cs_bf σ k 0) => ?_, fun (c6 : cs_bf σ j 0 = cs_bf σ k 0) => ?_⟩
        · iterate 2 refine px_go hX ?_
          have hR1 := (hR.put (i := 100) hr.1 (px_o 4 [.int ((0 : Int32)), .int (nI (cs_nb σ)), .int (nI (cs_ti σ)), .int (nI (cs_n σ)), .ref (ad 101), .ref (ad 102), .ref (ad 103), .ref (ad 104), .ref (ad 105), .ref (ad 106), .int (fs 1), .int (fs 2), .ref (ad 107), .ref (ad 108), .ref (ad 109), .ref (ad 110), .ref (ad 111), .ref (ad 112), .ref (ad 113), .ref (ad 114), .ref (ad 115), .int (fs 3), .ref (ad 116), .ref (ad 117), .int (fs 4)]))
          have hr1 : Rl ad (rs_th (σ.1, fs, fa, fw) 0) (rp_up (K) (100) (px_o 4 [.int ((0 : Int32)), .int (nI (cs_nb σ)), .int (nI (cs_ti σ)), .int (nI (cs_n σ)), .ref (ad 101), .ref (ad 102), .ref (ad 103), .ref (ad 104), .ref (ad 105), .ref (ad 106), .int (fs 1), .int (fs 2), .ref (ad 107), .ref (ad 108), .ref (ad 109), .ref (ad 110), .ref (ad 111), .ref (ad 112), .ref (ad 113), .ref (ad 114), .ref (ad 115), .int (fs 3), .ref (ad 116), .ref (ad 117), .int (fs 4)])) := hr.sO _ _
          have hK1 : ∀ zz, zz < 100 ∨ 118 ≤ zz → (rp_up (K) (100) (px_o 4 [.int ((0 : Int32)), .int (nI (cs_nb σ)), .int (nI (cs_ti σ)), .int (nI (cs_n σ)), .ref (ad 101), .ref (ad 102), .ref (ad 103), .ref (ad 104), .ref (ad 105), .ref (ad 106), .int (fs 1), .int (fs 2), .ref (ad 107), .ref (ad 108), .ref (ad 109), .ref (ad 110), .ref (ad 111), .ref (ad 112), .ref (ad 113), .ref (ad 114), .ref (ad 115), .int (fs 3), .ref (ad 116), .ref (ad 117), .int (fs 4)])) zz = (K) zz := fun zz hzz => by rw [rp_up_n _ _ (by omega)]
          have hq : of_swap σ (nI j) (nI k) = (0, 0, σ) := by
            unfold of_swap
            rw [cs_xq_s2 hn hj, cs_xq_s2 hn hk]
            exact if_pos ((Or.inr (Or.inl c6)))
          rw [hq]
          exact ⟨_, _, ⟨_, hR1, hr1, hK1⟩, hs, rfl, rfl, fun _ => rfl⟩
        · iterate 2 refine px_go hX ?_
          refine ⟨_, _, (px_up_s _ _ _), rfl, ?_⟩
          iterate 2 refine px_go hX ?_
          refine ⟨_, _, ((px_up_n _ _ (hR.ne (hr.2.1 3 (by decide) (by decide) (by decide)) hr.1 (by decide))).trans hA3), (vp_in_nI (by omega) (by omega)), ?_⟩
          rw [nI_clamp (by omega), show fa 3 j = cs_bf σ j 2 from (hs.2.1 j hj).2.2.1]
          iterate 2 refine px_go hX ?_
          refine ⟨fun (c7 : (2 : Int32) < cs_bf σ j 2) => ?_, fun (c7 : ¬ (2 : Int32) < cs_bf σ j 2) => ?_⟩
          · iterate 2 refine px_go hX ?_
            have hR1 := (hR.put (i := 100) hr.1 (px_o 4 [.int ((0 : Int32)), .int (nI (cs_nb σ)), .int (nI (cs_ti σ)), .int (nI (cs_n σ)), .ref (ad 101), .ref (ad 102), .ref (ad 103), .ref (ad 104), .ref (ad 105), .ref (ad 106), .int (fs 1), .int (fs 2), .ref (ad 107), .ref (ad 108), .ref (ad 109), .ref (ad 110), .ref (ad 111), .ref (ad 112), .ref (ad 113), .ref (ad 114), .ref (ad 115), .int (fs 3), .ref (ad 116), .ref (ad 117), .int (fs 4)]))
            have hr1 : Rl ad (rs_th (σ.1, fs, fa, fw) 0) (rp_up (K) (100) (px_o 4 [.int ((0 : Int32)), .int (nI (cs_nb σ)), .int (nI (cs_ti σ)), .int (nI (cs_n σ)), .ref (ad 101), .ref (ad 102), .ref (ad 103), .ref (ad 104), .ref (ad 105), .ref (ad 106), .int (fs 1), .int (fs 2), .ref (ad 107), .ref (ad 108), .ref (ad 109), .ref (ad 110), .ref (ad 111), .ref (ad 112), .ref (ad 113), .ref (ad 114), .ref (ad 115), .int (fs 3), .ref (ad 116), .ref (ad 117), .int (fs 4)])) := hr.sO _ _
            have hK1 : ∀ zz, zz < 100 ∨ 118 ≤ zz → (rp_up (K) (100) (px_o 4 [.int ((0 : Int32)), .int (nI (cs_nb σ)), .int (nI (cs_ti σ)), .int (nI (cs_n σ)), .ref (ad 101), .ref (ad 102), .ref (ad 103), .ref (ad 104), .ref (ad 105), .ref (ad 106), .int (fs 1), .int (fs 2), .ref (ad 107), .ref (ad 108), .ref (ad 109), .ref (ad 110), .ref (ad 111), .ref (ad 112), .ref (ad 113), .ref (ad 114), .ref (ad 115), .int (fs 3), .ref (ad 116), .ref (ad 117), .int (fs 4)])) zz = (K) zz := fun zz hzz => by rw [rp_up_n _ _ (by omega)]
            have hq : of_swap σ (nI j) (nI k) = (0, 0, σ) := by
              unfold of_swap
              rw [cs_xq_s2 hn hj, cs_xq_s2 hn hk]
              exact if_pos ((Or.inr (Or.inr (Or.inl ((i32_23 _).mp c7)))))
            rw [hq]
            exact ⟨_, _, ⟨_, hR1, hr1, hK1⟩, hs, rfl, rfl, fun _ => rfl⟩
          · iterate 2 refine px_go hX ?_
            refine ⟨_, _, (px_up_s _ _ _), rfl, ?_⟩
            iterate 2 refine px_go hX ?_
            refine ⟨_, _, ((px_up_n _ _ (hR.ne (hr.2.1 3 (by decide) (by decide) (by decide)) hr.1 (by decide))).trans hA3), (vp_in_nI (by omega) (by omega)), ?_⟩
            rw [nI_clamp (by omega), show fa 3 k = cs_bf σ k 2 from (hs.2.1 k hk).2.2.1]
            iterate 2 refine px_go hX ?_
            refine ⟨fun (c8 : (2 : Int32) < cs_bf σ k 2) => ?_, fun (c8 : ¬ (2 : Int32) < cs_bf σ k 2) => ?_⟩
            · iterate 2 refine px_go hX ?_
              have hR1 := (hR.put (i := 100) hr.1 (px_o 4 [.int ((0 : Int32)), .int (nI (cs_nb σ)), .int (nI (cs_ti σ)), .int (nI (cs_n σ)), .ref (ad 101), .ref (ad 102), .ref (ad 103), .ref (ad 104), .ref (ad 105), .ref (ad 106), .int (fs 1), .int (fs 2), .ref (ad 107), .ref (ad 108), .ref (ad 109), .ref (ad 110), .ref (ad 111), .ref (ad 112), .ref (ad 113), .ref (ad 114), .ref (ad 115), .int (fs 3), .ref (ad 116), .ref (ad 117), .int (fs 4)]))
              have hr1 : Rl ad (rs_th (σ.1, fs, fa, fw) 0) (rp_up (K) (100) (px_o 4 [.int ((0 : Int32)), .int (nI (cs_nb σ)), .int (nI (cs_ti σ)), .int (nI (cs_n σ)), .ref (ad 101), .ref (ad 102), .ref (ad 103), .ref (ad 104), .ref (ad 105), .ref (ad 106), .int (fs 1), .int (fs 2), .ref (ad 107), .ref (ad 108), .ref (ad 109), .ref (ad 110), .ref (ad 111), .ref (ad 112), .ref (ad 113), .ref (ad 114), .ref (ad 115), .int (fs 3), .ref (ad 116), .ref (ad 117), .int (fs 4)])) := hr.sO _ _
              have hK1 : ∀ zz, zz < 100 ∨ 118 ≤ zz → (rp_up (K) (100) (px_o 4 [.int ((0 : Int32)), .int (nI (cs_nb σ)), .int (nI (cs_ti σ)), .int (nI (cs_n σ)), .ref (ad 101), .ref (ad 102), .ref (ad 103), .ref (ad 104), .ref (ad 105), .ref (ad 106), .int (fs 1), .int (fs 2), .ref (ad 107), .ref (ad 108), .ref (ad 109), .ref (ad 110), .ref (ad 111), .ref (ad 112), .ref (ad 113), .ref (ad 114), .ref (ad 115), .int (fs 3), .ref (ad 116), .ref (ad 117), .int (fs 4)])) zz = (K) zz := fun zz hzz => by rw [rp_up_n _ _ (by omega)]
              have hq : of_swap σ (nI j) (nI k) = (0, 0, σ) := by
                unfold of_swap
                rw [cs_xq_s2 hn hj, cs_xq_s2 hn hk]
                exact if_pos ((Or.inr (Or.inr (Or.inr (Or.inl ((i32_23 _).mp c8))))))
              rw [hq]
              exact ⟨_, _, ⟨_, hR1, hr1, hK1⟩, hs, rfl, rfl, fun _ => rfl⟩
            · iterate 3 refine px_go hX ?_
              refine ⟨_, (px_up_s _ _ _), 0, 0, _, Nat.le_of_ble_eq_true rfl, Nat.le_of_ble_eq_true rfl, Nat.le_of_ble_eq_true rfl, rr_hasNeeds hR0 hr0 hs0 hn hj, ?_⟩
              rintro _ C ⟨rfl, ⟨b9, rfl⟩ | ⟨b9, rfl⟩⟩
              · refine px_go hX ?_
                refine ⟨fun (c10 : ¬ 1 = 0) => ?_, fun (c10 : 1 = 0) => absurd c10 (by decide)⟩
                iterate 2 refine px_go hX ?_
                have hR1 := (hR.put (i := 100) hr.1 (px_o 4 [.int ((0 : Int32)), .int (nI (cs_nb σ)), .int (nI (cs_ti σ)), .int (nI (cs_n σ)), .ref (ad 101), .ref (ad 102), .ref (ad 103), .ref (ad 104), .ref (ad 105), .ref (ad 106), .int (fs 1), .int (fs 2), .ref (ad 107), .ref (ad 108), .ref (ad 109), .ref (ad 110), .ref (ad 111), .ref (ad 112), .ref (ad 113), .ref (ad 114), .ref (ad 115), .int (fs 3), .ref (ad 116), .ref (ad 117), .int (fs 4)]))
                have hr1 : Rl ad (rs_th (σ.1, fs, fa, fw) 0) (rp_up (K) (100) (px_o 4 [.int ((0 : Int32)), .int (nI (cs_nb σ)), .int (nI (cs_ti σ)), .int (nI (cs_n σ)), .ref (ad 101), .ref (ad 102), .ref (ad 103), .ref (ad 104), .ref (ad 105), .ref (ad 106), .int (fs 1), .int (fs 2), .ref (ad 107), .ref (ad 108), .ref (ad 109), .ref (ad 110), .ref (ad 111), .ref (ad 112), .ref (ad 113), .ref (ad 114), .ref (ad 115), .int (fs 3), .ref (ad 116), .ref (ad 117), .int (fs 4)])) := hr.sO _ _
                have hK1 : ∀ zz, zz < 100 ∨ 118 ≤ zz → (rp_up (K) (100) (px_o 4 [.int ((0 : Int32)), .int (nI (cs_nb σ)), .int (nI (cs_ti σ)), .int (nI (cs_n σ)), .ref (ad 101), .ref (ad 102), .ref (ad 103), .ref (ad 104), .ref (ad 105), .ref (ad 106), .int (fs 1), .int (fs 2), .ref (ad 107), .ref (ad 108), .ref (ad 109), .ref (ad 110), .ref (ad 111), .ref (ad 112), .ref (ad 113), .ref (ad 114), .ref (ad 115), .int (fs 3), .ref (ad 116), .ref (ad 117), .int (fs 4)])) zz = (K) zz := fun zz hzz => by rw [rp_up_n _ _ (by omega)]
                have hq : of_swap σ (nI j) (nI k) = (0, 0, σ) := by
                  unfold of_swap
                  rw [cs_xq_s2 hn hj, cs_xq_s2 hn hk]
                  exact if_pos ((Or.inr (Or.inr (Or.inr (Or.inr (Or.inl ((nds_iff hn her hj).mpr b9)))))))
                rw [hq]
                exact ⟨_, _, ⟨_, hR1, hr1, hK1⟩, hs, rfl, rfl, fun _ => rfl⟩
              · refine px_go hX ?_
                refine ⟨fun (c11 : ¬ 0 = 0) => absurd rfl c11, fun (c11 : 0 = 0) => ?_⟩
                iterate 3 refine px_go hX ?_
                refine ⟨_, (px_up_s _ _ _), 0, 0, _, Nat.le_of_ble_eq_true rfl, Nat.le_of_ble_eq_true rfl, Nat.le_of_ble_eq_true rfl, rr_hasNeeds hR0 hr0 hs0 hn hk, ?_⟩
                rintro _ C ⟨rfl, ⟨b12, rfl⟩ | ⟨b12, rfl⟩⟩
                · refine px_go hX ?_
                  refine ⟨fun (c13 : 1 = 0) => absurd c13 (by decide), fun (c13 : ¬ 1 = 0) => ?_⟩
                  iterate 2 refine px_go hX ?_
                  have hR1 := (hR.put (i := 100) hr.1 (px_o 4 [.int ((0 : Int32)), .int (nI (cs_nb σ)), .int (nI (cs_ti σ)), .int (nI (cs_n σ)), .ref (ad 101), .ref (ad 102), .ref (ad 103), .ref (ad 104), .ref (ad 105), .ref (ad 106), .int (fs 1), .int (fs 2), .ref (ad 107), .ref (ad 108), .ref (ad 109), .ref (ad 110), .ref (ad 111), .ref (ad 112), .ref (ad 113), .ref (ad 114), .ref (ad 115), .int (fs 3), .ref (ad 116), .ref (ad 117), .int (fs 4)]))
                  have hr1 : Rl ad (rs_th (σ.1, fs, fa, fw) 0) (rp_up (K) (100) (px_o 4 [.int ((0 : Int32)), .int (nI (cs_nb σ)), .int (nI (cs_ti σ)), .int (nI (cs_n σ)), .ref (ad 101), .ref (ad 102), .ref (ad 103), .ref (ad 104), .ref (ad 105), .ref (ad 106), .int (fs 1), .int (fs 2), .ref (ad 107), .ref (ad 108), .ref (ad 109), .ref (ad 110), .ref (ad 111), .ref (ad 112), .ref (ad 113), .ref (ad 114), .ref (ad 115), .int (fs 3), .ref (ad 116), .ref (ad 117), .int (fs 4)])) := hr.sO _ _
                  have hK1 : ∀ zz, zz < 100 ∨ 118 ≤ zz → (rp_up (K) (100) (px_o 4 [.int ((0 : Int32)), .int (nI (cs_nb σ)), .int (nI (cs_ti σ)), .int (nI (cs_n σ)), .ref (ad 101), .ref (ad 102), .ref (ad 103), .ref (ad 104), .ref (ad 105), .ref (ad 106), .int (fs 1), .int (fs 2), .ref (ad 107), .ref (ad 108), .ref (ad 109), .ref (ad 110), .ref (ad 111), .ref (ad 112), .ref (ad 113), .ref (ad 114), .ref (ad 115), .int (fs 3), .ref (ad 116), .ref (ad 117), .int (fs 4)])) zz = (K) zz := fun zz hzz => by rw [rp_up_n _ _ (by omega)]
                  have hq : of_swap σ (nI j) (nI k) = (0, 0, σ) := by
                    unfold of_swap
                    rw [cs_xq_s2 hn hj, cs_xq_s2 hn hk]
                    exact if_pos ((Or.inr (Or.inr (Or.inr (Or.inr (Or.inr ((nds_iff hn her hk).mpr b12)))))))
                  rw [hq]
                  exact ⟨_, _, ⟨_, hR1, hr1, hK1⟩, hs, rfl, rfl, fun _ => rfl⟩
                · refine px_go hX ?_
                  refine ⟨fun (c14 : 0 = 0) => ?_, fun (c14 : ¬ 0 = 0) => absurd rfl c14⟩
                  have hjk : j ≠ k := fun w => c5 (congrArg nI w)
                  obtain ⟨bj, hbj1, hbj⟩ := hB j hj
                  obtain ⟨bk, hbk1, hbk⟩ := hB k hk
                  iterate 2 refine px_go hX ?_
                  refine ⟨_, _, (px_up_s _ _ _), rfl, ?_⟩
                  iterate 2 refine px_go hX ?_
                  refine ⟨_, _, ((px_up_n _ _ (hR.ne (hr.2.1 2 (by decide) (by decide) (by decide)) hr.1 (by decide))).trans hA2), (vp_in_nI (by omega) (by omega)), ?_⟩
                  rw [nI_clamp (by omega), show fa 2 j = cs_bf σ j 1 from (hs.2.1 j hj).2.1]
                  iterate 3 refine px_go hX ?_
                  refine ⟨_, _, (px_up_s _ _ _), rfl, ?_⟩
                  iterate 2 refine px_go hX ?_
                  refine ⟨_, _, ((px_up_n _ _ (hR.ne (hr.2.1 3 (by decide) (by decide) (by decide)) hr.1 (by decide))).trans hA3), (vp_in_nI (by omega) (by omega)), ?_⟩
                  rw [nI_clamp (by omega), show fa 3 j = cs_bf σ j 2 from (hs.2.1 j hj).2.2.1]
                  iterate 3 refine px_go hX ?_
                  refine ⟨_, _, (px_up_s _ _ _), rfl, ?_⟩
                  iterate 2 refine px_go hX ?_
                  refine ⟨_, _, ((px_up_n _ _ (hR.ne (hr.2.1 4 (by decide) (by decide) (by decide)) hr.1 (by decide))).trans hA4), (vp_in_nI (by omega) (by omega)), ?_⟩
                  rw [nI_clamp (by omega), show fa 4 j = cs_bf σ j 3 from (hs.2.1 j hj).2.2.2]
                  iterate 3 refine px_go hX ?_
                  refine ⟨_, _, (px_up_s _ _ _), rfl, ?_⟩
                  iterate 3 refine px_go hX ?_
                  refine ⟨_, _, (px_up_s _ _ _), rfl, ?_⟩
                  iterate 2 refine px_go hX ?_
                  refine ⟨_, _, ((px_up_n _ _ (hR.ne (hr.2.1 2 (by decide) (by decide) (by decide)) hr.1 (by decide))).trans hA2), (vp_in_nI (by omega) (by omega)), ?_⟩
                  rw [nI_clamp (by omega), show fa 2 k = cs_bf σ k 1 from (hs.2.1 k hk).2.1]
                  refine px_go hX ?_
                  refine ⟨_, _, ((px_up_n _ _ (hR.ne (hr.2.1 2 (by decide) (by decide) (by decide)) hr.1 (by decide))).trans hA2), (vp_in_nI (by omega) (by omega)), ?_⟩
                  rw [nI_clamp (by omega)]
                  iterate 2 refine px_go hX ?_
                  refine ⟨_, _, ((px_up_n _ _ (hR.ne hr.1 (hr.2.1 2 (by decide) (by decide) (by decide)) (by decide))).trans (px_up_s _ _ _)), rfl, ?_⟩
                  iterate 3 refine px_go hX ?_
                  refine ⟨_, _, ((px_up_n _ _ (hR.ne hr.1 (hr.2.1 2 (by decide) (by decide) (by decide)) (by decide))).trans (px_up_s _ _ _)), rfl, ?_⟩
                  iterate 2 refine px_go hX ?_
                  refine ⟨_, _, ((px_up_n _ _ (hR.ne (hr.2.1 3 (by decide) (by decide) (by decide)) (hr.2.1 2 (by decide) (by decide) (by decide)) (by decide))).trans ((px_up_n _ _ (hR.ne (hr.2.1 3 (by decide) (by decide) (by decide)) hr.1 (by decide))).trans hA3)), (vp_in_nI (by omega) (by omega)), ?_⟩
                  rw [nI_clamp (by omega), show fa 3 k = cs_bf σ k 2 from (hs.2.1 k hk).2.2.1]
                  refine px_go hX ?_
                  refine ⟨_, _, ((px_up_n _ _ (hR.ne (hr.2.1 3 (by decide) (by decide) (by decide)) (hr.2.1 2 (by decide) (by decide) (by decide)) (by decide))).trans ((px_up_n _ _ (hR.ne (hr.2.1 3 (by decide) (by decide) (by decide)) hr.1 (by decide))).trans hA3)), (vp_in_nI (by omega) (by omega)), ?_⟩
                  rw [nI_clamp (by omega)]
                  iterate 2 refine px_go hX ?_
                  refine ⟨_, _, ((px_up_n _ _ (hR.ne hr.1 (hr.2.1 3 (by decide) (by decide) (by decide)) (by decide))).trans ((px_up_n _ _ (hR.ne hr.1 (hr.2.1 2 (by decide) (by decide) (by decide)) (by decide))).trans (px_up_s _ _ _))), rfl, ?_⟩
                  iterate 3 refine px_go hX ?_
                  refine ⟨_, _, ((px_up_n _ _ (hR.ne hr.1 (hr.2.1 3 (by decide) (by decide) (by decide)) (by decide))).trans ((px_up_n _ _ (hR.ne hr.1 (hr.2.1 2 (by decide) (by decide) (by decide)) (by decide))).trans (px_up_s _ _ _))), rfl, ?_⟩
                  iterate 2 refine px_go hX ?_
                  refine ⟨_, _, ((px_up_n _ _ (hR.ne (hr.2.1 4 (by decide) (by decide) (by decide)) (hr.2.1 3 (by decide) (by decide) (by decide)) (by decide))).trans ((px_up_n _ _ (hR.ne (hr.2.1 4 (by decide) (by decide) (by decide)) (hr.2.1 2 (by decide) (by decide) (by decide)) (by decide))).trans ((px_up_n _ _ (hR.ne (hr.2.1 4 (by decide) (by decide) (by decide)) hr.1 (by decide))).trans hA4))), (vp_in_nI (by omega) (by omega)), ?_⟩
                  rw [nI_clamp (by omega), show fa 4 k = cs_bf σ k 3 from (hs.2.1 k hk).2.2.2]
                  refine px_go hX ?_
                  refine ⟨_, _, ((px_up_n _ _ (hR.ne (hr.2.1 4 (by decide) (by decide) (by decide)) (hr.2.1 3 (by decide) (by decide) (by decide)) (by decide))).trans ((px_up_n _ _ (hR.ne (hr.2.1 4 (by decide) (by decide) (by decide)) (hr.2.1 2 (by decide) (by decide) (by decide)) (by decide))).trans ((px_up_n _ _ (hR.ne (hr.2.1 4 (by decide) (by decide) (by decide)) hr.1 (by decide))).trans hA4))), (vp_in_nI (by omega) (by omega)), ?_⟩
                  rw [nI_clamp (by omega)]
                  iterate 2 refine px_go hX ?_
                  refine ⟨_, _, ((px_up_n _ _ (hR.ne hr.1 (hr.2.1 4 (by decide) (by decide) (by decide)) (by decide))).trans ((px_up_n _ _ (hR.ne hr.1 (hr.2.1 3 (by decide) (by decide) (by decide)) (by decide))).trans ((px_up_n _ _ (hR.ne hr.1 (hr.2.1 2 (by decide) (by decide) (by decide)) (by decide))).trans (px_up_s _ _ _)))), rfl, ?_⟩
                  iterate 3 refine px_go hX ?_
                  refine ⟨_, _, ((px_up_n _ _ (hR.ne (hr.2.1 2 (by decide) (by decide) (by decide)) (hr.2.1 4 (by decide) (by decide) (by decide)) (by decide))).trans ((px_up_n _ _ (hR.ne (hr.2.1 2 (by decide) (by decide) (by decide)) (hr.2.1 3 (by decide) (by decide) (by decide)) (by decide))).trans (px_up_s _ _ _))), (vp_in_nI (by omega) (by omega)), ?_⟩
                  rw [nI_clamp (by omega)]
                  iterate 2 refine px_go hX ?_
                  refine ⟨_, _, ((px_up_n _ _ (hR.ne hr.1 (hr.2.1 2 (by decide) (by decide) (by decide)) (by decide))).trans ((px_up_n _ _ (hR.ne hr.1 (hr.2.1 4 (by decide) (by decide) (by decide)) (by decide))).trans ((px_up_n _ _ (hR.ne hr.1 (hr.2.1 3 (by decide) (by decide) (by decide)) (by decide))).trans ((px_up_n _ _ (hR.ne hr.1 (hr.2.1 2 (by decide) (by decide) (by decide)) (by decide))).trans (px_up_s _ _ _))))), rfl, ?_⟩
                  iterate 3 refine px_go hX ?_
                  refine ⟨_, _, ((px_up_n _ _ (hR.ne (hr.2.1 3 (by decide) (by decide) (by decide)) (hr.2.1 2 (by decide) (by decide) (by decide)) (by decide))).trans ((px_up_n _ _ (hR.ne (hr.2.1 3 (by decide) (by decide) (by decide)) (hr.2.1 4 (by decide) (by decide) (by decide)) (by decide))).trans (px_up_s _ _ _))), (vp_in_nI (by omega) (by omega)), ?_⟩
                  rw [nI_clamp (by omega)]
                  iterate 2 refine px_go hX ?_
                  refine ⟨_, _, ((px_up_n _ _ (hR.ne hr.1 (hr.2.1 3 (by decide) (by decide) (by decide)) (by decide))).trans ((px_up_n _ _ (hR.ne hr.1 (hr.2.1 2 (by decide) (by decide) (by decide)) (by decide))).trans ((px_up_n _ _ (hR.ne hr.1 (hr.2.1 4 (by decide) (by decide) (by decide)) (by decide))).trans ((px_up_n _ _ (hR.ne hr.1 (hr.2.1 3 (by decide) (by decide) (by decide)) (by decide))).trans ((px_up_n _ _ (hR.ne hr.1 (hr.2.1 2 (by decide) (by decide) (by decide)) (by decide))).trans (px_up_s _ _ _)))))), rfl, ?_⟩
                  iterate 3 refine px_go hX ?_
                  refine ⟨_, _, ((px_up_n _ _ (hR.ne (hr.2.1 4 (by decide) (by decide) (by decide)) (hr.2.1 3 (by decide) (by decide) (by decide)) (by decide))).trans ((px_up_n _ _ (hR.ne (hr.2.1 4 (by decide) (by decide) (by decide)) (hr.2.1 2 (by decide) (by decide) (by decide)) (by decide))).trans (px_up_s _ _ _))), (vp_in_nI (by omega) (by omega)), ?_⟩
                  rw [nI_clamp (by omega)]
                  iterate 3 refine px_go hX ?_
                  refine ⟨_, _, ((px_up_n _ _ (hR.ne hr.1 (hr.2.1 4 (by decide) (by decide) (by decide)) (by decide))).trans ((px_up_n _ _ (hR.ne hr.1 (hr.2.1 3 (by decide) (by decide) (by decide)) (by decide))).trans ((px_up_n _ _ (hR.ne hr.1 (hr.2.1 2 (by decide) (by decide) (by decide)) (by decide))).trans ((px_up_n _ _ (hR.ne hr.1 (hr.2.1 4 (by decide) (by decide) (by decide)) (by decide))).trans ((px_up_n _ _ (hR.ne hr.1 (hr.2.1 3 (by decide) (by decide) (by decide)) (by decide))).trans ((px_up_n _ _ (hR.ne hr.1 (hr.2.1 2 (by decide) (by decide) (by decide)) (by decide))).trans (px_up_s _ _ _))))))), rfl, ?_⟩
                  iterate 2 refine px_go hX ?_
                  refine ⟨_, _, ((px_up_n _ _ (hR.ne (hr.2.1 2 (by decide) (by decide) (by decide)) (hr.2.1 4 (by decide) (by decide) (by decide)) (by decide))).trans ((px_up_n _ _ (hR.ne (hr.2.1 2 (by decide) (by decide) (by decide)) (hr.2.1 3 (by decide) (by decide) (by decide)) (by decide))).trans (px_up_s _ _ _))), (vp_in_nI (by omega) (by omega)), ?_⟩
                  rw [nI_clamp (by omega), pk_un hjk, pk_us]
                  have hR1 := (((((((hR.put (i := 100) hr.1 (px_o 4 [.int ((0 : Int32)), .int (nI (cs_nb σ)), .int (nI (cs_ti σ)), .int (nI (cs_n σ)), .ref (ad 101), .ref (ad 102), .ref (ad 103), .ref (ad 104), .ref (ad 105), .ref (ad 106), .int (fs 1), .int (fs 2), .ref (ad 107), .ref (ad 108), .ref (ad 109), .ref (ad 110), .ref (ad 111), .ref (ad 112), .ref (ad 113), .ref (ad 114), .ref (ad 115), .int (fs 3), .ref (ad 116), .ref (ad 117), .int (fs 4)])).put (i := 102) ((rp_up_n _ _ (by decide)).trans (hr.2.1 2 (by decide) (by decide) (by decide))) (px_i 16 (upd (fa 2) (j) (cs_bf σ k 1)))).put (i := 103) ((rp_up_n _ _ (by decide)).trans ((rp_up_n _ _ (by decide)).trans (hr.2.1 3 (by decide) (by decide) (by decide)))) (px_i 16 (upd (fa 3) (j) (cs_bf σ k 2)))).put (i := 104) ((rp_up_n _ _ (by decide)).trans ((rp_up_n _ _ (by decide)).trans ((rp_up_n _ _ (by decide)).trans (hr.2.1 4 (by decide) (by decide) (by decide))))) (px_i 16 (upd (fa 4) (j) (cs_bf σ k 3)))).put (i := 102) ((rp_up_n _ _ (by decide)).trans ((rp_up_n _ _ (by decide)).trans (rp_up_s _ _ _))) (px_i 16 (upd (upd (fa 2) (j) (cs_bf σ k 1)) (k) (cs_bf σ j 1)))).put (i := 103) ((rp_up_n _ _ (by decide)).trans ((rp_up_n _ _ (by decide)).trans (rp_up_s _ _ _))) (px_i 16 (upd (upd (fa 3) (j) (cs_bf σ k 2)) (k) (cs_bf σ j 2)))).put (i := 104) ((rp_up_n _ _ (by decide)).trans ((rp_up_n _ _ (by decide)).trans (rp_up_s _ _ _))) (px_i 16 (upd (upd (fa 4) (j) (cs_bf σ k 3)) (k) (cs_bf σ j 3))))
                  have hr1 : Rl ad (((σ.1, (fun q => match q with | 0 => 0 | 1 => fs 1 | 2 => fs 2 | 3 => fs 3 | _ => fs 4), va_up (va_up (va_up (va_up (va_up (va_up (fa) 2 (upd (fa 2) j (cs_bf σ k 1))) 3 (upd (fa 3) j (cs_bf σ k 2))) 4 (upd (fa 4) j (cs_bf σ k 3))) 2 (upd (upd (fa 2) j (cs_bf σ k 1)) k (cs_bf σ j 1))) 3 (upd (upd (fa 3) j (cs_bf σ k 2)) k (cs_bf σ j 2))) 4 (upd (upd (fa 4) j (cs_bf σ k 3)) k (cs_bf σ j 3)), fw) : rs_S)) (rp_up (rp_up (rp_up (rp_up (rp_up (rp_up (rp_up (K) (100) (px_o 4 [.int ((0 : Int32)), .int (nI (cs_nb σ)), .int (nI (cs_ti σ)), .int (nI (cs_n σ)), .ref (ad 101), .ref (ad 102), .ref (ad 103), .ref (ad 104), .ref (ad 105), .ref (ad 106), .int (fs 1), .int (fs 2), .ref (ad 107), .ref (ad 108), .ref (ad 109), .ref (ad 110), .ref (ad 111), .ref (ad 112), .ref (ad 113), .ref (ad 114), .ref (ad 115), .int (fs 3), .ref (ad 116), .ref (ad 117), .int (fs 4)])) (102) (px_i 16 (upd (fa 2) (j) (cs_bf σ k 1)))) (103) (px_i 16 (upd (fa 3) (j) (cs_bf σ k 2)))) (104) (px_i 16 (upd (fa 4) (j) (cs_bf σ k 3)))) (102) (px_i 16 (upd (upd (fa 2) (j) (cs_bf σ k 1)) (k) (cs_bf σ j 1)))) (103) (px_i 16 (upd (upd (fa 3) (j) (cs_bf σ k 2)) (k) (cs_bf σ j 2)))) (104) (px_i 16 (upd (upd (fa 4) (j) (cs_bf σ k 3)) (k) (cs_bf σ j 3)))) := ((((((hr.sO _ (fun q => match q with | 0 => 0 | 1 => fs 1 | 2 => fs 2 | 3 => fs 3 | _ => fs 4)).sA (q := 2) (by decide) (by decide) (by decide) _).sA (q := 3) (by decide) (by decide) (by decide) _).sA (q := 4) (by decide) (by decide) (by decide) _).sA (q := 2) (by decide) (by decide) (by decide) _).sA (q := 3) (by decide) (by decide) (by decide) _).sA (q := 4) (by decide) (by decide) (by decide) _
                  have hK1 : ∀ zz, zz < 100 ∨ 118 ≤ zz → (rp_up (rp_up (rp_up (rp_up (rp_up (rp_up (rp_up (K) (100) (px_o 4 [.int ((0 : Int32)), .int (nI (cs_nb σ)), .int (nI (cs_ti σ)), .int (nI (cs_n σ)), .ref (ad 101), .ref (ad 102), .ref (ad 103), .ref (ad 104), .ref (ad 105), .ref (ad 106), .int (fs 1), .int (fs 2), .ref (ad 107), .ref (ad 108), .ref (ad 109), .ref (ad 110), .ref (ad 111), .ref (ad 112), .ref (ad 113), .ref (ad 114), .ref (ad 115), .int (fs 3), .ref (ad 116), .ref (ad 117), .int (fs 4)])) (102) (px_i 16 (upd (fa 2) (j) (cs_bf σ k 1)))) (103) (px_i 16 (upd (fa 3) (j) (cs_bf σ k 2)))) (104) (px_i 16 (upd (fa 4) (j) (cs_bf σ k 3)))) (102) (px_i 16 (upd (upd (fa 2) (j) (cs_bf σ k 1)) (k) (cs_bf σ j 1)))) (103) (px_i 16 (upd (upd (fa 3) (j) (cs_bf σ k 2)) (k) (cs_bf σ j 2)))) (104) (px_i 16 (upd (upd (fa 4) (j) (cs_bf σ k 3)) (k) (cs_bf σ j 3)))) zz = (K) zz := fun zz hzz => by rw [rp_up_n _ _ (by omega), rp_up_n _ _ (by omega), rp_up_n _ _ (by omega), rp_up_n _ _ (by omega), rp_up_n _ _ (by omega), rp_up_n _ _ (by omega), rp_up_n _ _ (by omega)]
                  refine px_go hX ?_
                  refine ⟨_, ((px_up_n _ _ (hR.ne hr.1 (hr.2.1 4 (by decide) (by decide) (by decide)) (by decide))).trans ((px_up_n _ _ (hR.ne hr.1 (hr.2.1 3 (by decide) (by decide) (by decide)) (by decide))).trans ((px_up_n _ _ (hR.ne hr.1 (hr.2.1 2 (by decide) (by decide) (by decide)) (by decide))).trans ((px_up_n _ _ (hR.ne hr.1 (hr.2.1 4 (by decide) (by decide) (by decide)) (by decide))).trans ((px_up_n _ _ (hR.ne hr.1 (hr.2.1 3 (by decide) (by decide) (by decide)) (by decide))).trans ((px_up_n _ _ (hR.ne hr.1 (hr.2.1 2 (by decide) (by decide) (by decide)) (by decide))).trans (px_up_s _ _ _))))))), 0, 0, _, Nat.le_of_ble_eq_true rfl, Nat.le_of_ble_eq_true rfl, Nat.le_of_ble_eq_true rfl, rr_voids2 (b := bk) hR1 hr1 (by omega) hbk, ?_⟩
                  rintro _ C ⟨rfl, K2, hR2, hr2, hK2⟩
                  iterate 3 refine px_go hX ?_
                  refine ⟨_, (hR2.1 100 _ hr2.1), 0, 0, _, Nat.le_of_ble_eq_true rfl, Nat.le_of_ble_eq_true rfl, Nat.le_of_ble_eq_true rfl, rr_voids2 (b := bj) hR2 hr2 (by omega) hbj, ?_⟩
                  rintro _ C ⟨rfl, K3, hR3, hr3, hK3⟩
                  iterate 2 refine px_go hX ?_
                  have hq : of_swap σ (nI j) (nI k) = (0, 1, cs_sw (cs_fp (cs_fp σ bj) bk) j k) := by
                    unfold of_swap
                    rw [cs_xq_s2 hn hj, cs_xq_s2 hn hk]
                    refine (if_neg ?_).trans ?_
                    · rintro (q | q | q | q | q | q)
                      · exact c5 q
                      · exact q c6
                      · exact c7 ((i32_23 _).mpr q)
                      · exact c8 ((i32_23 _).mpr q)
                      · exact b9 ((nds_iff hn her hj).mp q)
                      · exact b12 ((nds_iff hn her hk).mp q)
                    · rw [hbj, hbk, nI_clamp (by omega), nI_clamp (by omega)]
                  rw [hq]
                  have e7 : (va_up (va_up (va_up (va_up (va_up (va_up (fa) 2 (upd (fa 2) j (cs_bf σ k 1))) 3 (upd (fa 3) j (cs_bf σ k 2))) 4 (upd (fa 4) j (cs_bf σ k 3))) 2 (upd (upd (fa 2) j (cs_bf σ k 1)) k (cs_bf σ j 1))) 3 (upd (upd (fa 3) j (cs_bf σ k 2)) k (cs_bf σ j 2))) 4 (upd (upd (fa 4) j (cs_bf σ k 3)) k (cs_bf σ j 3))) 7 = fa 7 := by rw [va_up_ne _ _ (by omega), va_up_ne _ _ (by omega), va_up_ne _ _ (by omega), va_up_ne _ _ (by omega), va_up_ne _ _ (by omega), va_up_ne _ _ (by omega)]
                  have hr3 : Rl ad ((σ.1, (fun q => match q with | 0 => 0 | 1 => fs 1 | 2 => fs 2 | 3 => fs 3 | _ => fs 4), (va_up (va_up (va_up (va_up (va_up (va_up (va_up (va_up (fa) 2 (upd (fa 2) j (cs_bf σ k 1))) 3 (upd (fa 3) j (cs_bf σ k 2))) 4 (upd (fa 4) j (cs_bf σ k 3))) 2 (upd (upd (fa 2) j (cs_bf σ k 1)) k (cs_bf σ j 1))) 3 (upd (upd (fa 3) j (cs_bf σ k 2)) k (cs_bf σ j 2))) 4 (upd (upd (fa 4) j (cs_bf σ k 3)) k (cs_bf σ j 3))) 7 (upd (fa 7) bk 0)) 7 (upd (upd (fa 7) bk 0) bj 0)), fw) : rs_S) K3 := by
                    have q := hr3
                    unfold rs_sA at q
                    simp only [e7, va_up_self] at q
                    exact q
                  refine ⟨_, _, ⟨K3, hR3, hr3, fun zz hz => by rw [hK3 zz hz, hK2 zz hz, hK1 zz hz]⟩, Sim.sw hs hj hk hjk rfl rfl ?_ ?_ ?_ ?_ (fun q q2 q3 q4 q7 => ?_), rfl, rfl, fun _ => rfl⟩
                  · rw [va_up_ne _ _ (by omega), va_up_ne _ _ (by omega), va_up_ne _ _ (by omega), va_up_ne _ _ (by omega), va_up_self]
                  · rw [va_up_ne _ _ (by omega), va_up_ne _ _ (by omega), va_up_ne _ _ (by omega), va_up_self]
                  · rw [va_up_ne _ _ (by omega), va_up_ne _ _ (by omega), va_up_self]
                  · rw [va_up_self]
                  · rw [va_up_ne _ _ q7, va_up_ne _ _ q7, va_up_ne _ _ q4, va_up_ne _ _ q3, va_up_ne _ _ q2, va_up_ne _ _ q4, va_up_ne _ _ q3, va_up_ne _ _ q2]
    · refine px_go hX ?_
      refine ⟨fun (c15 : ¬ 0 = 0) => absurd rfl c15, fun (c15 : 0 = 0) => ?_⟩
      iterate 3 refine px_go hX ?_
      refine ⟨_, (hR.1 100 _ hr.1), 0, 0, _, Nat.le_of_ble_eq_true rfl, Nat.le_of_ble_eq_true rfl, Nat.le_of_ble_eq_true rfl, rr_refuse hR hr hs _, ?_⟩
      rintro _ C ⟨rfl, hC1⟩
      refine px_go hX ?_
      have hq : of_swap σ (nI j) y = (1, 0, σ) := by
        unfold of_swap
        rw [cs_xq_s2 hn hj, cs_xq_n (px_nix b3)]
      rw [hq]
      exact ⟨_, _, hC1, hs, rfl, rfl, fun h => absurd (show (1 : Nat) = 0 from h) (by decide)⟩
  · refine px_go hX ?_
    refine ⟨fun (c16 : 0 = 0) => ?_, fun (c16 : ¬ 0 = 0) => absurd rfl c16⟩
    iterate 3 refine px_go hX ?_
    refine ⟨_, (hR.1 100 _ hr.1), 0, 0, _, Nat.le_of_ble_eq_true rfl, Nat.le_of_ble_eq_true rfl, Nat.le_of_ble_eq_true rfl, rr_refuse hR hr hs _, ?_⟩
    rintro _ C ⟨rfl, hC1⟩
    refine px_go hX ?_
    have hq : of_swap σ x y = (1, 0, σ) := by
      unfold of_swap
      rw [cs_xq_n (px_nix b1)]
    rw [hq]
    exact ⟨_, _, hC1, hs, rfl, rfl, fun h => absurd (show (1 : Nat) = 0 from h) (by decide)⟩
end SF
