/-! What holds between calls. -/
def cpl (σ : ck_S) (j : Nat) : Nat := if cs_bf σ j 2 = 3 then 12 else plc σ j
def cbe (σ : ck_S) (j : Nat) : Int32 := cs_bf σ j 1
def cs_bd (σ : ck_S) : Prop := 1 ≤ cs_nb σ ∧ cs_nb σ ≤ 4 ∧ 1 ≤ cs_ti σ ∧ cs_ti σ ≤ 4 ∧ cs_n σ ≤ 16
def cs_b4 (σ : ck_S) : Prop := ∀ x, pn_ct (fun j => decide (cs_bf σ j 1 = x ∧ ¬ cs_bf σ j 2 = 3)) (cs_n σ) ≤ 4
def cs_ge (σ : ck_S) : Prop := ∀ b, b < cs_nb σ → Geo (cs_n σ) (cs_ti σ) (cbe σ) (cpl σ) (nI b)
def cs_pk (σ : ck_S) : Prop := ∀ b, b < cs_nb σ → ¬ cs_yf σ b 0 = 0 → Pk (cs_n σ) (cs_ti σ) (cbe σ) (cpl σ) (nI b) (cs_yf σ b 1) (cs_yf σ b 2) (cs_ya σ b 0) (cs_ya σ b 2)
def cs_hz (σ : ck_S) : Prop := ∀ r, r < 1024 → cs_sn σ r = 0
def Inv (σ : ck_S) : Prop := cs_bd σ ∧ cs_inb σ ∧ cs_rg σ ∧ cs_er σ ∧ cs_nb1 σ ∧ cs_pl σ ∧ cs_hz σ ∧ cs_b4 σ ∧ cs_ge σ ∧ cs_pk σ ∧ cs_plb σ
section IA
variable {σ : ck_S}
theorem cpl_14 (rg : cs_rg σ) {j : Nat} (hj : j < cs_n σ) : cpl σ j < 14 := by
  unfold cpl
  split
  · omega
  · exact plc_lt rg hj (by assumption)
theorem cpl_st (rg : cs_rg σ) {j s : Nat} (hj : j < cs_n σ) (hs : s < 3) : cs_bf σ j 2 = nI s ↔ cpl σ j / 4 = s := by
  unfold cpl
  rcases rg j hj with q | q | ⟨s', t, hs', ht, q1, q2⟩
  · rw [if_pos q, q]
    constructor
    · intro w
      have := (nI_eq (a := 3) (by omega) (by omega)).mp w
      omega
    · intro w
      omega
  · rw [if_neg (by rw [q]; decide), show plc σ j = 13 from if_pos q, q]
    constructor
    · intro w
      have := (nI_eq (a := 4) (by omega) (by omega)).mp w
      omega
    · intro w
      omega
  · have n3 : ¬ cs_bf σ j 2 = 3 := by
      rw [q1]
      intro w
      have := (nI_eq (b := 3) (by omega) (by omega)).mp w
      omega
    have n4 : ¬ cs_bf σ j 2 = 4 := by
      rw [q1]
      intro w
      have := (nI_eq (b := 4) (by omega) (by omega)).mp w
      omega
    have e : plc σ j = s' * 4 + t := by
      unfold plc
      rw [if_neg n4, q1, q2, nI_clamp (by omega), nI_clamp (by omega)]
    rw [if_neg n3, e, q1, nI_eq (by omega) (by omega)]
    omega
theorem hgt_cb (rg : cs_rg σ) (b : Nat) {s : Nat} (hs : s < 3) : cs_hgt σ (nI b) (nI s) = nI (cbv (cs_n σ) (cbe σ) (cpl σ) (nI b) s) := by
  unfold cs_hgt cbv
  congr 1
  refine pn_ct_cg _ (fun j hj => ?_)
  have := cpl_st rg hj hs
  by_cases h1 : cs_bf σ j 1 = nI b
  · by_cases h2 : cs_bf σ j 2 = nI s
    · rw [decide_eq_true h1, decide_eq_true h2, decide_eq_true (show cbe σ j = nI b ∧ cpl σ j / 4 = s from ⟨h1, this.mp h2⟩)]
      rfl
    · rw [decide_eq_true h1, decide_eq_false h2, decide_eq_false (fun w : cbe σ j = nI b ∧ cpl σ j / 4 = s => h2 (this.mpr w.2))]
      rfl
  · rw [decide_eq_false h1, decide_eq_false (fun w : cbe σ j = nI b ∧ cpl σ j / 4 = s => h1 w.1)]
    rfl
theorem Inv.hht (h : Inv σ) : ∀ b s : Nat, b < cs_nb σ → s < 3 → ∃ m : Nat, m ≤ cs_ti σ ∧ cs_hgt σ (nI b) (nI s) = nI m := fun b s hb hs => by
  obtain ⟨bd, ib, rg, er, n1, pp, hz, b4, ge, pk, pb⟩ := h
  exact ⟨_, (ge b hb).1 s hs, hgt_cb rg b hs⟩
theorem Inv.hcn (h : Inv σ) : ∀ b : Nat, b < cs_nb σ → ∃ m : Nat, m ≤ 4 ∧ cs_bin σ (nI b) = nI m := fun b hb => by
  obtain ⟨bd, ib, rg, er, n1, pp, hz, b4, ge, pk, pb⟩ := h
  exact ⟨_, b4 (nI b), rfl⟩
/-- the boxes that a search goes through are the bay's -/
theorem Ad.bc {σ1 : ck_S} {b c0 : Nat} (hA : Ad σ σ1 (bjs σ (nI b) (cs_n σ)) c0) : Bc (cs_n σ) (cbe σ) (cpl σ) (nI b) (bjs σ (nI b) (cs_n σ)) c0 := by
  obtain ⟨-, -, h4, -, hc, -, hk⟩ := hA
  refine ⟨h4, hc, fun q r j h1 h2 => bjs_inj σ (nI b) (cs_n σ) h1 h2, fun k j hj => ?_, fun j hj hb hp => ?_⟩
  · obtain ⟨a1, a2, a3⟩ := bjs_at σ (nI b) (cs_n σ) k j hj
    refine ⟨a1, a2, ?_⟩
    rw [(hk k j hj).2.2.2]
    unfold cpl
    rw [if_neg a3]
  · exact bjs_in σ (nI b) (cs_n σ) hj hb (fun w => hp (by unfold cpl; rw [if_pos w]))
theorem Inv.vd (h : Inv σ) {σ1 : ck_S} {b c0 : Nat} (hb : b < cs_nb σ) (hA : Ad σ σ1 (bjs σ (nI b) (cs_n σ)) c0) : Vd (bjs σ (nI b) (cs_n σ)).length (cs_ti σ) c0 := by
  obtain ⟨bd, ib, rg, er, n1, pp, hz, b4, ge, pk, pb⟩ := h
  exact hA.bc.vd (ge b hb) (fun j hj _ => cpl_14 rg hj)
/-- other numbers of the bays: plans gone, loads -/
def cs_sYF (σ : ck_S) (F : Nat → Nat → Int32) : ck_S := (σ.1, σ.2.1, σ.2.2.1, F, σ.2.2.2.2)
theorem Inv.yf (h : Inv σ) {F : Nat → Nat → Int32} (hF : ∀ b, b < cs_nb σ → (F b 0 = 0 ∧ F b 1 = 0 ∧ F b 2 = 0) ∨ (F b 0 = cs_yf σ b 0 ∧ F b 1 = cs_yf σ b 1 ∧ F b 2 = cs_yf σ b 2)) : Inv (cs_sYF σ F) := by
  obtain ⟨bd, ib, rg, er, n1, pp, hz, b4, ge, pk, pb⟩ := h
  refine ⟨bd, ib, rg, er, n1, fun b hb => ?_, hz, b4, ge, fun b hb h0 => ?_, fun b hb h0 i hi hi2 => ?_⟩
  · show ∃ m w : Nat, F b 1 = nI m ∧ F b 2 = nI w ∧ w ≤ m ∧ m ≤ 12 ∧ (F b 0 = 0 → m = 0)
    rcases hF b hb with ⟨q0, q1, q2⟩ | ⟨q0, q1, q2⟩
    · exact ⟨0, 0, q1, q2, Nat.le_refl _, Nat.zero_le _, fun _ => rfl⟩
    · rw [q0, q1, q2]
      exact pp b hb
  · have h0 : ¬ F b 0 = 0 := h0
    show Pk (cs_n σ) (cs_ti σ) (cbe σ) (cpl σ) (nI b) (F b 1) (F b 2) (cs_ya σ b 0) (cs_ya σ b 2)
    rcases hF b hb with ⟨q0, q1, q2⟩ | ⟨q0, q1, q2⟩
    · exact absurd q0 h0
    · rw [q1, q2]
      exact pk b hb (q0 ▸ h0)
  · have h0 : ¬ F b 0 = 0 := h0
    have hi2 : nI i < F b 1 := hi2
    rcases hF b hb with ⟨q0, q1, q2⟩ | ⟨q0, q1, q2⟩
    · exact absurd q0 h0
    · rw [q1] at hi2
      exact pb b hb (q0 ▸ h0) i hi hi2
theorem Inv.fp (h : Inv σ) (b : Nat) : Inv (cs_fp σ b) := by
  refine h.yf (F := va_up (cs_yf σ) b (fun k => match k with | 3 => cs_yf σ b 3 | _ => 0)) (fun c hc => ?_)
  by_cases q : c = b
  · subst q
    rw [va_up_self]
    exact Or.inl ⟨rfl, rfl, rfl⟩
  · rw [va_up_ne _ _ q]
    exact Or.inr ⟨rfl, rfl, rfl⟩
theorem Inv.ld (h : Inv σ) (b : Nat) (z : Int32) : Inv (cs_sY σ b (fun k => match k with | 3 => z | k => cs_yf σ b k)) := by
  refine h.yf (F := va_up (cs_yf σ) b (fun k => match k with | 3 => z | k => cs_yf σ b k)) (fun c hc => ?_)
  by_cases q : c = b
  · subst q
    rw [va_up_self]
    exact Or.inr ⟨rfl, rfl, rfl⟩
  · rw [va_up_ne _ _ q]
    exact Or.inr ⟨rfl, rfl, rfl⟩
theorem Inv.loads (h : Inv σ) (x y : Int32) : Inv (of_loads σ x y).2.2 := by
  unfold of_loads
  split
  · exact h
  · split
    · exact h
    · split
      · exact h.ld _ _
      · exact h
/-- counters and what the search left -/
theorem Inv.mj (h : Inv σ) (mw lg : Int32) (J : cs_J) (hJ : ∀ r, r < 1024 → J.2.1 r = 0) : Inv (cs_jk (cs_sM σ mw lg) J) := by
  obtain ⟨bd, ib, rg, er, n1, pp, hz, b4, ge, pk, pb⟩ := h
  exact ⟨bd, ib, rg, er, n1, pp, hJ, b4, ge, pk, pb⟩
theorem Inv.nd (h : Inv σ) {j k : Nat} (hj : j < cs_n σ) (hk : k < cs_n σ) (hb : cs_bf σ j 1 = cs_bf σ k 1) : Inv (cs_nd σ k (nI j)) := by
  obtain ⟨bd, ib, rg, er, n1, pp, hz, b4, ge, pk, pb⟩ := h
  have hn := bd.2.2.2.2
  have bs : cs_bf (cs_nd σ k (nI j)) k = (fun q => match q with | 0 => cs_bf σ k 0 | 1 => cs_bf σ k 1 | 2 => cs_bf σ k 2 | 3 => cs_bf σ k 3 | _ => cs_bf σ k 4 ||| (1 <<< (nI j &&& 31))) := va_up_self (cs_bf σ) _ _
  have bn : ∀ i, i ≠ k → cs_bf (cs_nd σ k (nI j)) i = cs_bf σ i := fun i hi => va_up_ne (cs_bf σ) _ hi
  have b13 : ∀ i q, q < 4 → cs_bf (cs_nd σ k (nI j)) i q = cs_bf σ i q := fun i q hq => by
    by_cases hi : i = k
    · subst hi
      rw [bs]
      match q, hq with
      | 0, _ => rfl
      | 1, _ => rfl
      | 2, _ => rfl
      | 3, _ => rfl
    · rw [bn i hi]
  have eb : cbe (cs_nd σ k (nI j)) = cbe σ := by
    funext i
    exact b13 i 1 (by omega)
  have ep : cpl (cs_nd σ k (nI j)) = cpl σ := by
    funext i
    unfold cpl plc
    rw [b13 i 2 (by omega), b13 i 3 (by omega)]
  have nd : ∀ x y, cs_need (cs_nd σ k (nI j)) x y → x < 16 → cs_need σ x y ∨ (x = j ∧ y = k) := fun x y hxy hx => by
    obtain ⟨h1, h2⟩ := hxy
    by_cases hy : y = k
    · subst hy
      rw [bs] at h2
      obtain ⟨m, hm, hbm, -⟩ := er y hk
      have h16 : 2 ^ j < 2 ^ 16 := Nat.pow_lt_pow_right (by decide) (by omega)
      have h2 : ¬ ((cs_bf σ y 4 ||| (1 <<< (nI j &&& 31))) >>> (nI x &&& 31)) &&& 1 = 0 := h2
      rw [hbm, ie_sh1 (by omega), nI_or, ie_bit (Nat.or_lt_two_pow (n := 16) hm h16) hx] at h2
      have h3 : (m ||| 2 ^ j).testBit x = true := by
        cases hh : (m ||| 2 ^ j).testBit x with
        | true => rfl
        | false => exact absurd hh h2
      rcases tb_or.mp h3 with w | w
      · exact Or.inl ⟨hk, by rw [hbm, ie_bit hm hx, w]; decide⟩
      · exact Or.inr ⟨w, rfl⟩
    · rw [bn y hy] at h2
      exact Or.inl ⟨h1, h2⟩
  refine ⟨bd, fun i hi => by rw [b13 i 1 (by omega)]; exact ib i hi, fun i hi => by rw [b13 i 2 (by omega), b13 i 3 (by omega)]; exact rg i hi, fun i hi => ?_, fun x y hx hxy => ?_, pp, hz, fun x => ?_, fun b hb2 => ?_, fun b hb2 h0 => ?_, pb⟩
  · by_cases hik : i = k
    · subst hik
      obtain ⟨m, hm, hbm, hm2⟩ := er i hk
      have h16 : 2 ^ j < 2 ^ 16 := Nat.pow_lt_pow_right (by decide) (by omega)
      refine ⟨m ||| 2 ^ j, Nat.or_lt_two_pow (n := 16) hm h16, ?_, fun q hq hq2 => ?_⟩
      · rw [bs]
        show cs_bf σ i 4 ||| (1 <<< (nI j &&& 31)) = _
        rw [hbm, ie_sh1 (by omega), nI_or]
      · cases hh : (m ||| 2 ^ j).testBit q with
        | false => rfl
        | true =>
          have hq : cs_n σ ≤ q := hq
          rcases tb_or.mp hh with w | w
          · rw [hm2 q hq hq2] at w
            cases w
          · omega
    · rw [bn i hik]
      exact er i hi
  · have hx : x < cs_n σ := hx
    rw [b13 x 1 (by omega), b13 y 1 (by omega)]
    rcases nd x y hxy (by omega) with w | ⟨rfl, rfl⟩
    · exact n1 x y hx w
    · exact hb
  · rw [show (fun j_1 => decide (cs_bf (cs_nd σ k (nI j)) j_1 1 = x ∧ ¬ cs_bf (cs_nd σ k (nI j)) j_1 2 = 3)) = (fun j => decide (cs_bf σ j 1 = x ∧ ¬ cs_bf σ j 2 = 3)) from funext (fun i => by rw [b13 i 1 (by omega), b13 i 2 (by omega)])]
    exact b4 x
  · rw [eb, ep]
    exact ge b hb2
  · rw [eb, ep]
    exact pk b hb2 h0
theorem cs_xq_i {x : Int32} {j : Nat} (h : cs_xq σ x = some j) (hn : cs_n σ ≤ 16) : x = nI j ∧ j < cs_n σ := by
  unfold cs_xq at h
  split at h
  · cases h
  · rename_i q
    obtain ⟨i, hi, rfl⟩ := px_ix2 (n := cs_n σ) ⟨fun w => q (Or.inl w), fun w => q (Or.inr w)⟩ (by omega)
    rw [nI_clamp (by omega)] at h
    cases h
    exact ⟨rfl, hi⟩
theorem cs_bq_i {x : Int32} {b : Nat} (h : cs_bq σ x = some b) (hn : cs_nb σ ≤ 4) : x = nI b ∧ b < cs_nb σ := by
  unfold cs_bq at h
  split at h
  · cases h
  · rename_i q
    obtain ⟨i, hi, rfl⟩ := px_ix2 (n := cs_nb σ) ⟨fun w => q (Or.inl w), fun w => q (Or.inr w)⟩ (by omega)
    rw [nI_clamp (by omega)] at h
    cases h
    exact ⟨rfl, hi⟩
theorem Inv.before (h : Inv σ) (x y : Int32) : Inv (of_before σ x y).2.2 := by
  have hn := h.1.2.2.2.2
  unfold of_before
  split
  · rename_i j k hj hk
    obtain ⟨rfl, hj2⟩ := cs_xq_i hj hn
    obtain ⟨rfl, hk2⟩ := cs_xq_i hk hn
    split
    · exact h
    · rename_i q
      exact (h.nd hj2 hk2 (Classical.not_not.mp (fun w => q (Or.inl w)))).fp _
  · exact h
end IA
