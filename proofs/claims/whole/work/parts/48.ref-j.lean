/-! Longs as numbers; the reference's small methods of the search. -/
theorem wb_tb (n : Nat) : (lN n).toBitVec = BitVec.ofNat 64 n := rfl
theorem wb_inj {a b : Int64} (h : a.toBitVec = b.toBitVec) : a = b := Int64.toBitVec_inj.mp h
theorem wb_tn {n : Nat} (h : n < 2 ^ 64) : (lN n).toBitVec.toNat = n := by rw [wb_tb, BitVec.toNat_ofNat, Nat.mod_eq_of_lt h]
theorem wb_of (x : Int64) : ∃ n, n < 2 ^ 64 ∧ x = lN n := ⟨x.toBitVec.toNat, x.toBitVec.isLt, wb_inj (by rw [wb_tb]; simp)⟩
theorem wb_of32 (x : Int32) : ∃ n, n < 2 ^ 32 ∧ x = nI n := ⟨x.toBitVec.toNat, x.toBitVec.isLt, Int32.toBitVec_inj.mp (by show _ = BitVec.ofNat 32 _; simp)⟩
theorem wb_c : ∀ k, k < 64 → ((nI k).toInt64 &&& 63) = lN k := by decide +kernel
theorem wb_cu : ∀ k, k < 64 → ((nI k).toInt64.toUInt64 &&& Int64.toUInt64 63) = UInt64.ofNat k := by decide +kernel
theorem wb_sm : ∀ k, k < 64 → (BitVec.ofNat 64 k).smod 64 = BitVec.ofNat 64 k := by decide +kernel
theorem wb_pw {a b : Nat} (h : a ≤ b) : 2 ^ b = 2 ^ a * 2 ^ (b - a) := by rw [← Nat.pow_add]; congr 1; omega
theorem wb_lt2 {a b : Nat} (h : a < b) : 2 ^ a < 2 ^ b := Nat.pow_lt_pow_right (by decide) h
theorem wb_mod (n : Nat) : lN n = lN (n % 2 ^ 64) := wb_inj (by rw [wb_tb, wb_tb]; apply BitVec.eq_of_toNat_eq; rw [BitVec.toNat_ofNat, BitVec.toNat_ofNat, Nat.mod_mod])
theorem wb_shr {n k : Nat} (hn : n < 2 ^ 64) (hk : k < 64) : ((lN n).toUInt64 >>> ((nI k).toInt64.toUInt64 &&& Int64.toUInt64 63)).toInt64 = lN (n / 2 ^ k) := by
  rw [wb_cu k hk]
  apply wb_inj
  apply BitVec.eq_of_toNat_eq
  show ((lN n).toUInt64 >>> UInt64.ofNat k).toNat = (BitVec.ofNat 64 _).toNat
  have h1 : (UInt64.ofNat k).toNat = k := by
    show (BitVec.ofNat 64 k).toNat = k
    rw [BitVec.toNat_ofNat, Nat.mod_eq_of_lt (by omega)]
  have h2 : (lN n).toUInt64.toNat = n := wb_tn hn
  rw [UInt64.toNat_shiftRight, h1, h2, Nat.mod_eq_of_lt hk, Nat.shiftRight_eq_div_pow, BitVec.toNat_ofNat, Nat.mod_eq_of_lt (Nat.lt_of_le_of_lt (Nat.div_le_self _ _) hn)]
theorem wb_shl (n : Nat) {k : Nat} (hk : k < 64) : lN n <<< ((nI k).toInt64 &&& 63) = lN (n * 2 ^ k) := by
  rw [wb_c k hk]
  apply wb_inj
  rw [Int64.toBitVec_shiftLeft, wb_tb, wb_tb, wb_tb, wb_sm k hk]
  apply BitVec.eq_of_toNat_eq
  rw [BitVec.shiftLeft_eq', BitVec.toNat_shiftLeft, BitVec.toNat_ofNat, BitVec.toNat_ofNat, BitVec.toNat_ofNat, Nat.mod_eq_of_lt (show k < 2 ^ 64 by omega), Nat.shiftLeft_eq, Nat.mul_mod, Nat.mod_mod, ← Nat.mul_mod]
theorem wb_and {a b : Nat} (ha : a < 2 ^ 64) (hb : b < 2 ^ 64) : lN a &&& lN b = lN (a &&& b) := by
  apply wb_inj
  rw [Int64.toBitVec_and, wb_tb, wb_tb, wb_tb]
  apply BitVec.eq_of_toNat_eq
  rw [BitVec.toNat_and, BitVec.toNat_ofNat, BitVec.toNat_ofNat, BitVec.toNat_ofNat, Nat.mod_eq_of_lt ha, Nat.mod_eq_of_lt hb, Nat.mod_eq_of_lt (Nat.and_lt_two_pow _ hb)]
theorem wb_or {a b : Nat} (ha : a < 2 ^ 64) (hb : b < 2 ^ 64) : lN a ||| lN b = lN (a ||| b) := by
  apply wb_inj
  rw [Int64.toBitVec_or, wb_tb, wb_tb, wb_tb]
  apply BitVec.eq_of_toNat_eq
  rw [BitVec.toNat_or, BitVec.toNat_ofNat, BitVec.toNat_ofNat, BitVec.toNat_ofNat, Nat.mod_eq_of_lt ha, Nat.mod_eq_of_lt hb, Nat.mod_eq_of_lt (Nat.or_lt_two_pow ha hb)]
theorem wb_mask {n k : Nat} (hn : n < 2 ^ 64) (hk : k < 64) : lN n &&& lN (2 ^ k - 1) = lN (n % 2 ^ k) := by
  rw [wb_and hn (by have := wb_lt2 hk; omega), Nat.and_two_pow_sub_one_eq_mod]
theorem wb_a1 {n : Nat} (hn : n < 2 ^ 64) : lN n &&& 1 = lN (n % 2) := wb_mask (k := 1) hn (by decide)
theorem wb_bit {n k : Nat} (hn : n < 2 ^ 64) (hk : k < 64) : ((lN n).toUInt64 >>> ((nI k).toInt64.toUInt64 &&& Int64.toUInt64 63)).toInt64 &&& 1 = lN (n / 2 ^ k % 2) := by
  rw [wb_shr hn hk, wb_a1 (Nat.lt_of_le_of_lt (Nat.div_le_self _ _) hn)]
theorem pf_lI {a : Nat} (h : a < 2 ^ 63) : (lN a).toInt = (a : Int) := lg_ofNat_toInt h
theorem pf_shr {a d : Nat} {D : Int64} (hD : (D.toBitVec.smod 64).toNat = d) (h : a < 2 ^ 62) : lN a >>> D = lN (a / 2 ^ d) := by
  have hd : a / 2 ^ d ≤ a := Nat.div_le_self _ _
  apply Int64.toInt_inj.mp
  have e : (lN a >>> D).toInt = (lN a).toInt >>> d := by
    rw [← hD]
    exact BitVec.toInt_sshiftRight ..
  rw [e, Int.shiftRight_eq_div_pow, pf_lI (by omega), pf_lI (by omega)]
  rfl
theorem nbd (a b : Nat) : Nat.beq a b = decide (a = b) := by
  rw [Bool.eq_iff_iff]
  simp
theorem nld (a b : Nat) : Nat.blt a b = decide (a < b) := by
  rw [Bool.eq_iff_iff]
  simp
theorem nel (a b : Nat) : Nat.ble a b = decide (a ≤ b) := by
  rw [Bool.eq_iff_iff]
  simp
theorem wl_shr {W m : Nat} (hW : W < 2 ^ 62) (hm : m < 64) : lN W >>> ((nI m).toInt64 &&& 63) = lN (W / 2 ^ m) := by
  rw [wb_c m hm]
  exact pf_shr (by rw [wb_tb, wb_sm m hm, BitVec.toNat_ofNat]; exact Nat.mod_eq_of_lt (by omega)) hW
theorem wl_at (s i : Nat) : (3 : Int32) * ((4 : Int32) * nI s + nI i) = nI (3 * (4 * s + i)) := by
  show nI 3 * (nI 4 * nI s + nI i) = _
  rw [pk_mul, nI_add, pk_mul]
theorem wl_36 (k : Nat) : (36 : Int32) + nI k = nI (36 + k) := nI_add 36 k
theorem wl_40 (k : Nat) : (40 : Int32) + nI k = nI (40 + k) := nI_add 40 k
theorem wl_7 {a : Nat} (h : a < 2 ^ 62) : lN a &&& px_jc 7 = lN (a % 8) := wb_mask (k := 3) (by omega) (by decide)
theorem wl_1 {a : Nat} (h : a < 2 ^ 62) : lN a &&& lN 1 = lN (a % 2) := wb_mask (k := 1) (by omega) (by decide)
theorem rat_lt (W s i : Nat) : rat W s i < 8 := Nat.mod_lt _ (by decide)
theorem rsd_eq (W k : Nat) : rsd W k = true ↔ W / 2 ^ (36 + k) % 2 = 1 := by
  unfold rsd
  rw [nbd, decide_eq_true_iff]
theorem rod_eq (W k : Nat) : rod W k = true ↔ W / 2 ^ (40 + k) % 2 = 1 := by
  unfold rod
  rw [nbd, decide_eq_true_iff]
theorem rtop_t {W s i : Nat} (h : rtop W s i = i) (h2 : ¬ rat W s i = 0) : rtop W s (i + 1) = i + 1 := by
  show (bif Nat.beq (rtop W s i) i && !Nat.beq (rat W s i) 0 then i + 1 else rtop W s i) = _
  simp [nbd, h, h2]
theorem rtop_f {W s i : Nat} (h2 : ¬ (rtop W s i = i ∧ ¬ rat W s i = 0)) : rtop W s (i + 1) = rtop W s i := by
  show (bif Nat.beq (rtop W s i) i && !Nat.beq (rat W s i) 0 then i + 1 else rtop W s i) = _
  have : (Nat.beq (rtop W s i) i && !Nat.beq (rat W s i) 0) = false := by
    rw [nbd, nbd]
    by_cases a : rtop W s i = i
    · have b : rat W s i = 0 := Classical.not_not.mp (fun w => h2 ⟨a, w⟩)
      simp [b]
    · simp [a]
  rw [this]
  rfl
theorem rtop_le (W s : Nat) : ∀ i, rtop W s i ≤ i
  | 0 => Nat.le_refl 0
  | i + 1 => by
    have := rtop_le W s i
    by_cases h : rtop W s i = i ∧ ¬ rat W s i = 0
    · rw [rtop_t h.1 h.2]
      exact Nat.le_refl _
    · rw [rtop_f h]
      omega
/-- once stopped, the tops stay -/
theorem rtop_st {W s i : Nat} (h : rtop W s i = i) (h2 : rat W s i = 0) : ∀ t, i ≤ t → rtop W s t = i := by
  intro t ht
  induction t with
  | zero =>
    have : i = 0 := Nat.le_zero.mp ht
    rw [this]
    rfl
  | succ t ih =>
    rcases Nat.lt_or_ge t i with q | q
    · rw [show t + 1 = i by omega, h]
    · have e := ih q
      rw [rtop_f, e]
      rintro ⟨a, b⟩
      rw [e] at a
      subst a
      exact b h2
section SJ
variable {B : Nat} {sc : Option (Nat × Nat × (Nat → Int32))} {d : Nat} {ad : Nat → Nat} {σ : ck_S} {ρ : rs_S} {K : rp_K} {C : px_P}
theorem rr_isAside {W k : Nat} (hW : W < 2 ^ 62) (hk : k < 4) : px_W ps_Y ps_P B sc (d + 1) 70 [.long (lN W), .int (nI k)] C 0 0 (px_bo (rsd W k = true) C) px_no := by
  have e : ((lN W) >>> ((((36 : Int32)) + (nI k)).toInt64 &&& 63)) &&& (lN 1) = lN (W / 2 ^ (36 + k) % 2) := by
    rw [wl_36, wl_shr hW (by omega), wl_1 (Nat.lt_of_le_of_lt (Nat.div_le_self _ _) hW)]
  have e2 : lN (W / 2 ^ (36 + k) % 2) = lN 1 ↔ rsd W k = true := by
    rw [rsd_eq]
    exact lN_eq (by omega) (by omega)
  refine ⟨pm_Ref_isAside, rfl, Nat.le_of_ble_eq_true rfl, fun X hw hX => ?_⟩
  iterate 10 refine px_go hX ?_
  refine ⟨fun (c1 : ¬ lg_cmp (((lN W) >>> ((((36 : Int32)) + (nI k)).toInt64 &&& 63)) &&& (lN 1)) (lN 1) = 0) => ?_, fun (c1 : lg_cmp (((lN W) >>> ((((36 : Int32)) + (nI k)).toInt64 &&& 63)) &&& (lN 1)) (lN 1) = 0) => ?_⟩
  · iterate 2 refine px_go hX ?_
    exact ⟨Or.inl rfl, rfl, Or.inr ⟨fun q => c1 ((lg_cmp_eq _ _).mpr (e.trans (e2.mpr q))), rfl⟩⟩
  · iterate 3 refine px_go hX ?_
    exact ⟨Or.inr rfl, rfl, Or.inl ⟨e2.mp (e.symm.trans ((lg_cmp_eq _ _).mp c1)), rfl⟩⟩
theorem rr_isOut {W k : Nat} (hW : W < 2 ^ 62) (hk : k < 4) : px_W ps_Y ps_P B sc (d + 1) 71 [.long (lN W), .int (nI k)] C 0 0 (px_bo (rod W k = true) C) px_no := by
  have e : ((lN W) >>> ((((40 : Int32)) + (nI k)).toInt64 &&& 63)) &&& (lN 1) = lN (W / 2 ^ (40 + k) % 2) := by
    rw [wl_40, wl_shr hW (by omega), wl_1 (Nat.lt_of_le_of_lt (Nat.div_le_self _ _) hW)]
  have e2 : lN (W / 2 ^ (40 + k) % 2) = lN 1 ↔ rod W k = true := by
    rw [rod_eq]
    exact lN_eq (by omega) (by omega)
  refine ⟨pm_Ref_isOut, rfl, Nat.le_of_ble_eq_true rfl, fun X hw hX => ?_⟩
  iterate 10 refine px_go hX ?_
  refine ⟨fun (c1 : ¬ lg_cmp (((lN W) >>> ((((40 : Int32)) + (nI k)).toInt64 &&& 63)) &&& (lN 1)) (lN 1) = 0) => ?_, fun (c1 : lg_cmp (((lN W) >>> ((((40 : Int32)) + (nI k)).toInt64 &&& 63)) &&& (lN 1)) (lN 1) = 0) => ?_⟩
  · iterate 2 refine px_go hX ?_
    exact ⟨Or.inl rfl, rfl, Or.inr ⟨fun q => c1 ((lg_cmp_eq _ _).mpr (e.trans (e2.mpr q))), rfl⟩⟩
  · iterate 3 refine px_go hX ?_
    exact ⟨Or.inr rfl, rfl, Or.inl ⟨e2.mp (e.symm.trans ((lg_cmp_eq _ _).mp c1)), rfl⟩⟩
theorem rr_at {W s i : Nat} (hW : W < 2 ^ 62) (hs3 : s < 3) (hi : i < 4) (r : Nat) : px_W ps_Y ps_P B sc (d + 1) 73 [.ref r, .long (lN W), .int (nI s), .int (nI i)] C 0 0 (fun v C' => C' = C ∧ v = some (.int (nI (rat W s i) - 1))) px_no := by
  have e : ((((lN W) >>> (((3 : Int32) * ((4 : Int32) * (nI s) + (nI i))).toInt64 &&& 63)) &&& (px_jc 7)).toInt32) = nI (rat W s i) := by
    rw [wl_at, wl_shr hW (by omega), wl_7 (Nat.lt_of_le_of_lt (Nat.div_le_self _ _) hW), lN_i]
    rfl
  refine ⟨pm_Ref_at, rfl, Nat.le_of_ble_eq_true rfl, fun X hw hX => ?_⟩
  iterate 15 refine px_go hX ?_
  exact ⟨rfl, congrArg (fun z => some (Value.int (z - 1))) e⟩
theorem nI_m1n {a : Nat} (ha : a < 2 ^ 31) : nI a - 1 < 0 ↔ a = 0 := by
  cases a with
  | zero => exact ⟨fun _ => rfl, fun _ => by decide +kernel⟩
  | succ a =>
    rw [nI_pred]
    exact ⟨fun h => absurd h (nI_pos (by omega)), fun h => absurd h (by omega)⟩
theorem rr_top (hR : Rp ad K C) (hr : Rl ad ρ K) (hs : Sim σ ρ) {W s : Nat} (hW : W < 2 ^ 62) (hs3 : s < 3) (hti : cs_ti σ ≤ 4) : px_W ps_Y ps_P B sc (d + 2) 74 [.ref (ad 100), .long (lN W), .int (nI s)] C 0 0 (fun v C' => C' = C ∧ v = some (.int (nI (rtop W s (cs_ti σ))))) px_no := by
  obtain ⟨p, fs, fa, fw⟩ := ρ
  obtain rfl : p = σ.1 := hs.1.1
  refine ⟨pm_Ref_top, rfl, Nat.le_of_ble_eq_true rfl, fun X hw hX => ?_⟩
  have loop : ∀ kk i, i + kk = cs_ti σ → rtop W s i = i → X (3, [(0, .ref (ad 100)), (1, .long (lN W)), (3, .int (nI s)), (4, .int (nI i))], [], C, 0, 0) := by
    intro kk
    induction kk with
    | zero =>
      intro i hi hq
      have hlt : i = cs_ti σ := hi
      iterate 3 refine px_go hX ?_
      refine ⟨_, _, (hR.1 100 _ hr.1), rfl, ?_⟩
      refine px_go hX ?_
      refine ⟨fun (c1 : nI (cs_ti σ) ≤ nI i) => ?_, fun (c1 : ¬ nI (cs_ti σ) ≤ nI i) => absurd (nI_le (by omega) (by omega)) c1⟩
      iterate 2 refine px_go hX ?_
      exact ⟨rfl, by rw [hlt] at hq ⊢; rw [hq]⟩
    | succ kk ih =>
      intro i hi hq
      have hlt : i < cs_ti σ := by omega
      iterate 3 refine px_go hX ?_
      refine ⟨_, _, (hR.1 100 _ hr.1), rfl, ?_⟩
      refine px_go hX ?_
      refine ⟨fun (c2 : nI (cs_ti σ) ≤ nI i) => absurd c2 (nI_ge hlt (by omega)), fun (c2 : ¬ nI (cs_ti σ) ≤ nI i) => ?_⟩
      iterate 5 refine px_go hX ?_
      refine ⟨_, (hR.1 100 _ hr.1), 0, 0, _, Nat.le_of_ble_eq_true rfl, Nat.le_of_ble_eq_true rfl, Nat.le_of_ble_eq_true rfl, rr_at hW hs3 (by omega) _, ?_⟩
      rintro _ C ⟨rfl, rfl⟩
      refine px_go hX ?_
      refine ⟨fun (c3 : nI (rat W s i) - 1 < 0) => ?_, fun (c3 : ¬ nI (rat W s i) - 1 < 0) => ?_⟩
      · iterate 2 refine px_go hX ?_
        exact ⟨rfl, by rw [rtop_st hq ((nI_m1n (Nat.lt_trans (rat_lt _ _ _) (by decide))).mp c3) _ (by omega)]⟩
      · iterate 2 refine px_go hX ?_
        exact px_lw hw [(0, .ref (ad 100)), (1, .long (lN W)), (3, .int (nI s)), (4, .int (nI (i + 1)))] (ih (i + 1) (by omega) (rtop_t hq (fun w => c3 ((nI_m1n (Nat.lt_trans (rat_lt _ _ _) (by decide))).mpr w)))) ⟨rfl, rfl, rfl, (congrArg (fun z => some (Value.int z)) (nI_succ _).symm), trivial⟩
  iterate 2 refine px_go hX ?_
  exact px_lw hw [(0, .ref (ad 100)), (1, .long (lN W)), (3, .int (nI s)), (4, .int (nI 0))] (loop (cs_ti σ - 0) 0 (by omega) rfl) ⟨rfl, rfl, rfl, rfl, trivial⟩
end SJ
